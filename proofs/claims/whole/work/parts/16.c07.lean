/-! ===== the class: walks 7 (printed by wip/whole/gen) ===== -/
def F_X11_by_j115 (u : xT) (a0 : Nat) (s0 : Int32) : Option (Int32 × xT) := some (s0, u)
theorem B_X11_by_j115 {p : Program} {l : Launch} {e : Env} {s : State} {m : MethodId} {args : Array Value} {below : List Frame} {meth : Method} {cd : Code} {G : xG} {w0 : xW} {rr : (Int32 × xT)} (hE : xE p s m args meth cd cX11_by RX11 G 7 (Option.some Jvm.ClassFile.FieldType.int)) {u : xT} {a0 : Nat} {s0 : Int32} {H : Heap} {locs : List Loc} {ls : Array Slot} (hD : tD G (xA w0 s.heap.size) s.heap u H locs) (hl : lv_has ls 7 [(0, .ref a0)]) (hF : F_X11_by_j115 u a0 s0 = some rr) : W p l e (xR 9 0 0) s m args below meth cd H locs 0 0 (xQi G w0 (fun r z => r = rr.1 ∧ z = ((tE G rr.2), rr.2.1)) below args s 0 0) (F0 m 115 ls [.int s0]) := by
  have hx := hE.1; have hb := hE.2.1
  unfold F_X11_by_j115 at hF
  obtain rfl := Option.some.inj hF
  exact x_iret hE hD ⟨rfl, rfl⟩ (by omega) (by omega) dX11_by_115
def F_X11_by_l56 : Nat → xT → Nat → Int32 → Int32 → Int32 → Int32 → Option (Int32 × xT)
  | 0, _, _, _, _, _, _ => none
  | nn + 1, u, a0, y3, y4, y5, y6 => if y3 ≤ y6 then if tK u a0 = 11 then (F_X11_firstInRow u a0 y5 ((y4 - y3) - (1 : Int32))).bind (fun r3 => if 0 ≤ r3 then F_X11_by_j115 u a0 r3 else F_X11_by_j115 u a0 (-3 : Int32)) else none else if tK u a0 = 11 then (F_X11_firstInRow u a0 y5 ((y4 - y6) - (1 : Int32))).bind (fun r7 => (F_X11_behindOf u a0 r7 y5).bind (fun r9 => xlet (y6 + (1 : Int32)) (fun x11 => F_X11_by_l56 nn u a0 y3 y4 r9 x11))) else none
theorem L_X11_by_l56 {p : Program} {l : Launch} {e : Env} {s : State} {m : MethodId} {args : Array Value} {below : List Frame} {meth : Method} {cd : Code} {G : xG} {w0 : xW} {rr : (Int32 × xT)} (hE : xE p s m args meth cd cX11_by RX11 G 7 (Option.some Jvm.ClassFile.FieldType.int)) : ∀ (nn : Nat) {u : xT} {a0 : Nat} {y3 : Int32} {y4 : Int32} {y5 : Int32} {y6 : Int32} {H : Heap} {locs : List Loc} {ls : Array Slot} , tD G (xA w0 s.heap.size) s.heap u H locs → lv_has ls 7 [(0, .ref a0), (3, .int y3), (4, .int y4), (5, .int y5), (6, .int y6)] → F_X11_by_l56 nn u a0 y3 y4 y5 y6 = some rr → W p l e (xR 9 0 0) s m args below meth cd H locs 0 0 (xQi G w0 (fun r z => r = rr.1 ∧ z = ((tE G rr.2), rr.2.1)) below args s 0 0) (F0 m 56 ls []) := by
  have hx := hE.1; have hb := hE.2.1
  intro nn
  induction nn with
  | zero => intro u a0 y3 y4 y5 y6 H locs ls hD hl hF; rw [F_X11_by_l56] at hF; cases hF
  | succ nn ih =>
    intro u a0 y3 y4 y5 y6 H locs ls hD hl hF
    rw [F_X11_by_l56] at hF
    refine lv_iload hx hb dX11_by_56 (lv_at hl 4 rfl) ?_
    refine lv_iload_n hx hb dX11_by_58 rfl (lv_at hl 1 rfl) ?_
    refine lv_icmp_ge (tgt := 89) hx hb dX11_by_59 (by decide) (fun c1 => ?_) (fun c1 => ?_)
    · have hF := ite_p hF c1
      refine lv_aload_n hx hb dX11_by_89 rfl (lv_at hl 0 rfl) ?_
      refine lv_iload hx hb dX11_by_90 (lv_at hl 3 rfl) ?_
      refine lv_iload hx hb dX11_by_92 (lv_at hl 2 rfl) ?_
      refine lv_iload_n hx hb dX11_by_94 rfl (lv_at hl 1 rfl) ?_
      refine lv_isub hx hb dX11_by_95 ?_
      refine lv_iconst (v := (1 : Int32)) hx hb dX11_by_96 (by decide) ?_
      refine lv_isub hx hb dX11_by_97 ?_
      obtain ⟨h2, hF⟩ := ite_s hF
      obtain ⟨r3, k4, hF⟩ := xb_s hF
      refine kVi (As := [.int y5, .int ((y4 - y3) - (1 : Int32))]) (rest := []) hE hl hD (c_X11_firstInRow k4) kl_X11_223 (tE_11 h2) rfl rfl rfl rfl (Nat.le_of_ble_eq_true rfl) dX11_by_98 ⟨Nat.le_of_ble_eq_true rfl, Nat.le_of_ble_eq_true rfl⟩ ⟨Nat.le_of_ble_eq_true rfl, Nat.le_of_ble_eq_true rfl⟩ (fun H locs (hD : tD G _ _ u H locs) => ?_)
      refine lv_istore (lv' := [(6, .int r3), (0, .ref a0), (3, .int y3), (4, .int y4), (5, .int y5)]) hx hb dX11_by_101 hl (by decide) rfl (fun ls hl => ?_)
      refine lv_iload hx hb dX11_by_103 (lv_at hl 0 rfl) ?_
      refine lv_if_ge (tgt := 113) hx hb dX11_by_105 (by decide) (fun c5 => ?_) (fun c5 => ?_)
      · have hF := ite_p hF c5
        refine lv_iload hx hb dX11_by_113 (lv_at hl 0 rfl) ?_
        exact B_X11_by_j115 hE hD (lv_sub hl [1] rfl) hF
      · have hF := ite_n hF c5
        refine lv_bipush (v := (-3 : Int32)) hx hb dX11_by_108 (by decide) ?_
        refine lv_goto (tgt := 115) hx hb dX11_by_110 (by decide) ?_
        exact B_X11_by_j115 hE hD (lv_sub hl [1] rfl) hF
    · have hF := ite_n hF c1
      refine lv_aload_n hx hb dX11_by_62 rfl (lv_at hl 0 rfl) ?_
      refine lv_aload_n hx hb dX11_by_63 rfl (lv_at hl 0 rfl) ?_
      refine lv_iload hx hb dX11_by_64 (lv_at hl 3 rfl) ?_
      refine lv_iload hx hb dX11_by_66 (lv_at hl 2 rfl) ?_
      refine lv_iload hx hb dX11_by_68 (lv_at hl 4 rfl) ?_
      refine lv_isub hx hb dX11_by_70 ?_
      refine lv_iconst (v := (1 : Int32)) hx hb dX11_by_71 (by decide) ?_
      refine lv_isub hx hb dX11_by_72 ?_
      obtain ⟨h6, hF⟩ := ite_s hF
      obtain ⟨r7, k8, hF⟩ := xb_s hF
      refine kVi (As := [.int y5, .int ((y4 - y6) - (1 : Int32))]) (rest := [.ref a0]) hE hl hD (c_X11_firstInRow k8) kl_X11_223 (tE_11 h6) rfl rfl rfl rfl (Nat.le_of_ble_eq_true rfl) dX11_by_73 ⟨Nat.le_of_ble_eq_true rfl, Nat.le_of_ble_eq_true rfl⟩ ⟨Nat.le_of_ble_eq_true rfl, Nat.le_of_ble_eq_true rfl⟩ (fun H locs (hD : tD G _ _ u H locs) => ?_)
      refine lv_iload hx hb dX11_by_76 (lv_at hl 3 rfl) ?_
      obtain ⟨r9, k10, hF⟩ := xb_s hF
      refine kVi (As := [.int r7, .int y5]) (rest := []) hE hl hD (c_X11_behindOf k10) kl_X11_213 (tE_11 h6) rfl rfl rfl rfl (Nat.le_of_ble_eq_true rfl) dX11_by_78 ⟨Nat.le_of_ble_eq_true rfl, Nat.le_of_ble_eq_true rfl⟩ ⟨Nat.le_of_ble_eq_true rfl, Nat.le_of_ble_eq_true rfl⟩ (fun H locs (hD : tD G _ _ u H locs) => ?_)
      refine lv_istore (lv' := [(5, .int r9), (0, .ref a0), (3, .int y3), (4, .int y4), (6, .int y6)]) hx hb dX11_by_81 hl (by decide) rfl (fun ls hl => ?_)
      obtain ⟨x11, ex11⟩ : ∃ y : Int32, y = y6 + (1 : Int32) := ⟨_, rfl⟩
      have hF := xlet_e hF ex11
      refine lv_iinc (v := x11) (lv' := [(6, .int x11), (5, .int r9), (0, .ref a0), (3, .int y3), (4, .int y4)]) hx hb dX11_by_83 hl (k := 4) rfl (by rw [ex11]; rfl) (by decide) rfl (fun ls hl => ?_)
      refine lv_goto (tgt := 56) hx hb dX11_by_86 (by decide) ?_
      exact ih hD (lv_sub hl [2, 3, 4, 1, 0] rfl) hF
def F_X11_by_j24 (u : xT) (a0 : Nat) : Option (Int32 × xT) := some ((-1 : Int32), u)
theorem B_X11_by_j24 {p : Program} {l : Launch} {e : Env} {s : State} {m : MethodId} {args : Array Value} {below : List Frame} {meth : Method} {cd : Code} {G : xG} {w0 : xW} {rr : (Int32 × xT)} (hE : xE p s m args meth cd cX11_by RX11 G 7 (Option.some Jvm.ClassFile.FieldType.int)) {u : xT} {a0 : Nat} {H : Heap} {locs : List Loc} {ls : Array Slot} (hD : tD G (xA w0 s.heap.size) s.heap u H locs) (hl : lv_has ls 7 [(0, .ref a0)]) (hF : F_X11_by_j24 u a0 = some rr) : W p l e (xR 9 0 0) s m args below meth cd H locs 0 0 (xQi G w0 (fun r z => r = rr.1 ∧ z = ((tE G rr.2), rr.2.1)) below args s 0 0) (F0 m 24 ls []) := by
  have hx := hE.1; have hb := hE.2.1
  unfold F_X11_by_j24 at hF
  refine lv_iconst (v := (-1 : Int32)) hx hb dX11_by_24 (by decide) ?_
  obtain rfl := Option.some.inj hF
  exact x_iret hE hD ⟨rfl, rfl⟩ (by omega) (by omega) dX11_by_25
def F_X11_by (u : xT) (a0 : Nat) (xa : Int32) (xb : Int32) (xc : Int32) : Option (Int32 × xT) := (F_X11_isPurse xa).bind (fun r12 => if r12 = 0 then F_X11_by_j24 u a0 else (F_X11_isPurse xb).bind (fun r16 => if r16 = 0 then F_X11_by_j24 u a0 else (F_X11_isIn xc (0 : Int32) (59 : Int32)).bind (fun r20 => if r20 = 0 then F_X11_by_j24 u a0 else if tK u a0 = 11 then (F_X11_fewest u a0 xa xb).bind (fun r25 => if xc < r25 then (F_X11_fillLeastSteps u a0 xb r25).bind (fun r28 => F_X11_by_l56 xFuel r28 a0 xc r25 xa (0 : Int32)) else some ((-3 : Int32), u)) else none)))
theorem c_X11_by {l : Launch} {G : xG} {rr : (Int32 × xT)} {u : xT} {a0 : Nat} {xa : Int32} {xb : Int32} {xc : Int32} (hF : F_X11_by u a0 xa xb xc = some rr) : xMi l G yX11_by cX11_by 7 (Option.some Jvm.ClassFile.FieldType.int) 9 0 0 [.ref a0, .int xa, .int xb, .int xc] (tE G u) u.1 (fun r z => r = rr.1 ∧ z = ((tE G rr.2), rr.2.1)) := by
  unfold F_X11_by at hF
  refine x_startI rfl (Nat.le_of_ble_eq_true rfl) (fun p e s m args below meth cd ls hE hnm hl hD => ?_)
  have hx := hE.1; have hb := hE.2.1
  have hl : lv_has ls 7 [(0, .ref a0), (1, .int xa), (2, .int xb), (3, .int xc)] := hl
  have hD : tD G (xA (tE G u) s.heap.size) s.heap u s.heap [] := hD
  refine lv_iload_n hx hb dX11_by_0 rfl (lv_at hl 1 rfl) ?_
  obtain ⟨r12, k13, hF⟩ := xb_s hF
  refine kSz (As := [.int xa]) (rest := []) hE hl hD (c_X11_isPurse k13) kl_X11_154 rfl rfl (Nat.le_of_ble_eq_true rfl) dX11_by_1 ⟨Nat.le_of_ble_eq_true rfl, Nat.le_of_ble_eq_true rfl⟩ ⟨Nat.le_of_ble_eq_true rfl, Nat.le_of_ble_eq_true rfl⟩ (fun H locs z14 (hD : tD G _ _ u H locs) => ?_)
  refine lv_if_eq (tgt := 24) hx hb dX11_by_4 (by decide) (fun c15 => ?_) (fun c15 => ?_)
  · have hF := ite_p hF c15
    exact B_X11_by_j24 hE hD (lv_sub hl [0] rfl) hF
  · have hF := ite_n hF c15
    refine lv_iload_n hx hb dX11_by_7 rfl (lv_at hl 2 rfl) ?_
    obtain ⟨r16, k17, hF⟩ := xb_s hF
    refine kSz (As := [.int xb]) (rest := []) hE hl hD (c_X11_isPurse k17) kl_X11_154 rfl rfl (Nat.le_of_ble_eq_true rfl) dX11_by_8 ⟨Nat.le_of_ble_eq_true rfl, Nat.le_of_ble_eq_true rfl⟩ ⟨Nat.le_of_ble_eq_true rfl, Nat.le_of_ble_eq_true rfl⟩ (fun H locs z18 (hD : tD G _ _ u H locs) => ?_)
    refine lv_if_eq (tgt := 24) hx hb dX11_by_11 (by decide) (fun c19 => ?_) (fun c19 => ?_)
    · have hF := ite_p hF c19
      exact B_X11_by_j24 hE hD (lv_sub hl [0] rfl) hF
    · have hF := ite_n hF c19
      refine lv_iload_n hx hb dX11_by_14 rfl (lv_at hl 3 rfl) ?_
      refine lv_iconst (v := (0 : Int32)) hx hb dX11_by_15 (by decide) ?_
      refine lv_bipush (v := (59 : Int32)) hx hb dX11_by_16 (by decide) ?_
      obtain ⟨r20, k21, hF⟩ := xb_s hF
      refine kSz (As := [.int xc, .int (0 : Int32), .int (59 : Int32)]) (rest := []) hE hl hD (c_X11_isIn k21) kl_X11_183 rfl rfl (Nat.le_of_ble_eq_true rfl) dX11_by_18 ⟨Nat.le_of_ble_eq_true rfl, Nat.le_of_ble_eq_true rfl⟩ ⟨Nat.le_of_ble_eq_true rfl, Nat.le_of_ble_eq_true rfl⟩ (fun H locs z22 (hD : tD G _ _ u H locs) => ?_)
      refine lv_if_ne (tgt := 26) hx hb dX11_by_21 (by decide) (fun c23 => ?_) (fun c23 => ?_)
      · have hF := ite_n hF c23
        refine lv_aload_n hx hb dX11_by_26 rfl (lv_at hl 0 rfl) ?_
        refine lv_iload_n hx hb dX11_by_27 rfl (lv_at hl 1 rfl) ?_
        refine lv_iload_n hx hb dX11_by_28 rfl (lv_at hl 2 rfl) ?_
        obtain ⟨h24, hF⟩ := ite_s hF
        obtain ⟨r25, k26, hF⟩ := xb_s hF
        refine kVi (As := [.int xa, .int xb]) (rest := []) hE hl hD (c_X11_fewest k26) kl_X11_216 (tE_11 h24) rfl rfl rfl rfl (Nat.le_of_ble_eq_true rfl) dX11_by_29 ⟨Nat.le_of_ble_eq_true rfl, Nat.le_of_ble_eq_true rfl⟩ ⟨Nat.le_of_ble_eq_true rfl, Nat.le_of_ble_eq_true rfl⟩ (fun H locs (hD : tD G _ _ u H locs) => ?_)
        refine lv_istore (lv' := [(4, .int r25), (0, .ref a0), (1, .int xa), (2, .int xb), (3, .int xc)]) hx hb dX11_by_32 hl (by decide) rfl (fun ls hl => ?_)
        refine lv_iload_n hx hb dX11_by_34 rfl (lv_at hl 4 rfl) ?_
        refine lv_iload hx hb dX11_by_35 (lv_at hl 0 rfl) ?_
        refine lv_icmp_lt (tgt := 43) hx hb dX11_by_37 (by decide) (fun c27 => ?_) (fun c27 => ?_)
        · have hF := ite_p hF c27
          refine lv_aload_n hx hb dX11_by_43 rfl (lv_at hl 1 rfl) ?_
          refine lv_iload_n hx hb dX11_by_44 rfl (lv_at hl 3 rfl) ?_
          refine lv_iload hx hb dX11_by_45 (lv_at hl 0 rfl) ?_
          obtain ⟨r28, k29, hF⟩ := xb_s hF
          refine kVv (As := [.int xb, .int r25]) (rest := []) hE hl hD (c_X11_fillLeastSteps k29) kl_X11_219 (tE_11 h24) rfl rfl rfl rfl (Nat.le_of_ble_eq_true rfl) dX11_by_47 ⟨Nat.le_of_ble_eq_true rfl, Nat.le_of_ble_eq_true rfl⟩ ⟨Nat.le_of_ble_eq_true rfl, Nat.le_of_ble_eq_true rfl⟩ (fun H locs (hD : tD G _ _ r28 H locs) => ?_)
          refine lv_iload_n hx hb dX11_by_50 rfl (lv_at hl 2 rfl) ?_
          refine lv_istore (lv' := [(5, .int xa), (4, .int r25), (0, .ref a0), (1, .int xa), (2, .int xb), (3, .int xc)]) hx hb dX11_by_51 hl (by decide) rfl (fun ls hl => ?_)
          refine lv_iconst (v := (0 : Int32)) hx hb dX11_by_53 (by decide) ?_
          refine lv_istore (lv' := [(6, .int (0 : Int32)), (5, .int xa), (4, .int r25), (0, .ref a0), (1, .int xa), (2, .int xb), (3, .int xc)]) hx hb dX11_by_54 hl (by decide) rfl (fun ls hl => ?_)
          exact L_X11_by_l56 hE _ hD (lv_sub hl [3, 6, 2, 1, 0] rfl) hF
        · have hF := ite_n hF c27
          refine lv_bipush (v := (-3 : Int32)) hx hb dX11_by_40 (by decide) ?_
          obtain rfl := Option.some.inj hF
          exact x_iret hE hD ⟨rfl, rfl⟩ (by omega) (by omega) dX11_by_42
      · have hF := ite_p hF c23
        exact B_X11_by_j24 hE hD (lv_sub hl [0] rfl) hF
def F_X11_swap_j91 (u : xT) (a0 : Nat) (s0 : Int32) : Option Int32 := some s0
theorem B_X11_swap_j91 {p : Program} {l : Launch} {e : Env} {s : State} {m : MethodId} {args : Array Value} {below : List Frame} {meth : Method} {cd : Code} {G : xG} {w0 : xW} {rr : Int32} (hE : xE p s m args meth cd cX11_swap RX11 G 8 (Option.some Jvm.ClassFile.FieldType.int)) {u : xT} {a0 : Nat} {s0 : Int32} {H : Heap} {locs : List Loc} {ls : Array Slot} (hD : tD G (xA w0 s.heap.size) s.heap u H locs) (hl : lv_has ls 8 [(0, .ref a0)]) (hF : F_X11_swap_j91 u a0 s0 = some rr) : W p l e (xR 6 0 0) s m args below meth cd H locs 0 0 (xQi G w0 (fun r z => r = rr ∧ z = ((tE G u), u.1)) below args s 0 0) (F0 m 91 ls [.int s0]) := by
  have hx := hE.1; have hb := hE.2.1
  unfold F_X11_swap_j91 at hF
  obtain rfl := Option.some.inj hF
  exact x_iret hE hD ⟨rfl, rfl⟩ (by omega) (by omega) dX11_swap_91
def F_X11_swap_j42 (u : xT) (a0 : Nat) : Option Int32 := some (-1 : Int32)
theorem B_X11_swap_j42 {p : Program} {l : Launch} {e : Env} {s : State} {m : MethodId} {args : Array Value} {below : List Frame} {meth : Method} {cd : Code} {G : xG} {w0 : xW} {rr : Int32} (hE : xE p s m args meth cd cX11_swap RX11 G 8 (Option.some Jvm.ClassFile.FieldType.int)) {u : xT} {a0 : Nat} {H : Heap} {locs : List Loc} {ls : Array Slot} (hD : tD G (xA w0 s.heap.size) s.heap u H locs) (hl : lv_has ls 8 [(0, .ref a0)]) (hF : F_X11_swap_j42 u a0 = some rr) : W p l e (xR 6 0 0) s m args below meth cd H locs 0 0 (xQi G w0 (fun r z => r = rr ∧ z = ((tE G u), u.1)) below args s 0 0) (F0 m 42 ls []) := by
  have hx := hE.1; have hb := hE.2.1
  unfold F_X11_swap_j42 at hF
  refine lv_iconst (v := (-1 : Int32)) hx hb dX11_swap_42 (by decide) ?_
  obtain rfl := Option.some.inj hF
  exact x_iret hE hD ⟨rfl, rfl⟩ (by omega) (by omega) dX11_swap_43
def F_X11_swap (u : xT) (a0 : Nat) (xa : Int32) (xb : Int32) (xc : Int32) : Option Int32 := if tK u a0 = 11 then (tP u a0 0).bind (fun q2 => if tK u q2 = 7 then (F_X7_bridgeAt u q2 xa).bind (fun r5 => xopt (r5) ((tP u a0 0).bind (fun q9 => if tK u q9 = 7 then (F_X7_bridgeAt u q9 xb).bind (fun r12 => xopt (r12) (F_X11_swap_j42 u a0) (fun q14 => F_X11_swap_j42 u a0)) else none)) (fun q7 => (tP u a0 0).bind (fun q16 => if tK u q16 = 7 then (F_X7_bridgeAt u q16 xb).bind (fun r19 => xopt (r19) (F_X11_swap_j42 u a0) (fun q21 => if xa = xb then F_X11_swap_j42 u a0 else (F_X11_isPurse xc).bind (fun r24 => if r24 = 0 then F_X11_swap_j42 u a0 else if isBk (tK u q7) then (F_X0_becomes u q7 xc).bind (fun r29 => if isBk (tK u q21) then (F_X0_becomes u q21 r29).bind (fun r32 => (F_X0_becomes u q21 xc).bind (fun r34 => (F_X0_becomes u q7 r34).bind (fun r36 => if r32 = r36 then some (0 : Int32) else if r32 ≤ r36 then F_X11_swap_j91 u a0 (2 : Int32) else F_X11_swap_j91 u a0 (1 : Int32)))) else none) else none))) else none))) else none) else none
theorem c_X11_swap {l : Launch} {G : xG} {rr : Int32} {u : xT} {a0 : Nat} {xa : Int32} {xb : Int32} {xc : Int32} (hF : F_X11_swap u a0 xa xb xc = some rr) : xMi l G yX11_swap cX11_swap 8 (Option.some Jvm.ClassFile.FieldType.int) 6 0 0 [.ref a0, .int xa, .int xb, .int xc] (tE G u) u.1 (fun r z => r = rr ∧ z = ((tE G u), u.1)) := by
  unfold F_X11_swap at hF
  refine x_startI rfl (Nat.le_of_ble_eq_true rfl) (fun p e s m args below meth cd ls hE hnm hl hD => ?_)
  have hx := hE.1; have hb := hE.2.1
  have hl : lv_has ls 8 [(0, .ref a0), (1, .int xa), (2, .int xb), (3, .int xc)] := hl
  have hD : tD G (xA (tE G u) s.heap.size) s.heap u s.heap [] := hD
  refine lv_aload_n hx hb dX11_swap_0 rfl (lv_at hl 0 rfl) ?_
  obtain ⟨h1, hF⟩ := ite_s hF
  obtain ⟨q2, h3, hF⟩ := xb_s hF
  refine gr_X11_10 hE hD h1 h3 dX11_swap_1 ?_
  refine lv_iload_n hx hb dX11_swap_4 rfl (lv_at hl 1 rfl) ?_
  obtain ⟨h4, hF⟩ := ite_s hF
  obtain ⟨r5, k6, hF⟩ := xb_s hF
  refine kVq (As := [.int xa]) (rest := []) hE hl hD (c_X7_bridgeAt k6) kl_X11_82 (tE_7 h4) rfl rfl rfl rfl (Nat.le_of_ble_eq_true rfl) dX11_swap_5 ⟨Nat.le_of_ble_eq_true rfl, Nat.le_of_ble_eq_true rfl⟩ ⟨Nat.le_of_ble_eq_true rfl, Nat.le_of_ble_eq_true rfl⟩ (fun H locs (hD : tD G _ _ u H locs) => ?_)
  refine t_split hF (fun h8 hF => ?_) (fun q7 h8 hF => ?_)
  · refine lv_astoreN (lv' := [(4, .null), (0, .ref a0), (1, .int xa), (2, .int xb), (3, .int xc)]) hx hb dX11_swap_8 hl (by decide) rfl (fun ls hl => ?_)
    refine lv_aload_n hx hb dX11_swap_10 rfl (lv_at hl 1 rfl) ?_
    obtain ⟨q9, h10, hF⟩ := xb_s hF
    refine gr_X11_10 hE hD h1 h10 dX11_swap_11 ?_
    refine lv_iload_n hx hb dX11_swap_14 rfl (lv_at hl 3 rfl) ?_
    obtain ⟨h11, hF⟩ := ite_s hF
    obtain ⟨r12, k13, hF⟩ := xb_s hF
    refine kVq (As := [.int xb]) (rest := []) hE hl hD (c_X7_bridgeAt k13) kl_X11_82 (tE_7 h11) rfl rfl rfl rfl (Nat.le_of_ble_eq_true rfl) dX11_swap_15 ⟨Nat.le_of_ble_eq_true rfl, Nat.le_of_ble_eq_true rfl⟩ ⟨Nat.le_of_ble_eq_true rfl, Nat.le_of_ble_eq_true rfl⟩ (fun H locs (hD : tD G _ _ u H locs) => ?_)
    refine t_split hF (fun h15 hF => ?_) (fun q14 h15 hF => ?_)
    · refine lv_astoreN (lv' := [(5, .null), (4, .null), (0, .ref a0), (1, .int xa), (2, .int xb), (3, .int xc)]) hx hb dX11_swap_18 hl (by decide) rfl (fun ls hl => ?_)
      refine lv_aloadN hx hb dX11_swap_20 (lv_at hl 1 rfl) ?_
      refine lv_ifnullN (tgt := 42) hx hb dX11_swap_22 (by decide) ?_
      exact B_X11_swap_j42 hE hD (lv_sub hl [2] rfl) hF
    · refine lv_astore (lv' := [(5, .ref q14), (4, .null), (0, .ref a0), (1, .int xa), (2, .int xb), (3, .int xc)]) hx hb dX11_swap_18 hl (by decide) rfl (fun ls hl => ?_)
      refine lv_aloadN hx hb dX11_swap_20 (lv_at hl 1 rfl) ?_
      refine lv_ifnullN (tgt := 42) hx hb dX11_swap_22 (by decide) ?_
      exact B_X11_swap_j42 hE hD (lv_sub hl [2] rfl) hF
  · refine lv_astore (lv' := [(4, .ref q7), (0, .ref a0), (1, .int xa), (2, .int xb), (3, .int xc)]) hx hb dX11_swap_8 hl (by decide) rfl (fun ls hl => ?_)
    refine lv_aload_n hx hb dX11_swap_10 rfl (lv_at hl 1 rfl) ?_
    obtain ⟨q16, h17, hF⟩ := xb_s hF
    refine gr_X11_10 hE hD h1 h17 dX11_swap_11 ?_
    refine lv_iload_n hx hb dX11_swap_14 rfl (lv_at hl 3 rfl) ?_
    obtain ⟨h18, hF⟩ := ite_s hF
    obtain ⟨r19, k20, hF⟩ := xb_s hF
    refine kVq (As := [.int xb]) (rest := []) hE hl hD (c_X7_bridgeAt k20) kl_X11_82 (tE_7 h18) rfl rfl rfl rfl (Nat.le_of_ble_eq_true rfl) dX11_swap_15 ⟨Nat.le_of_ble_eq_true rfl, Nat.le_of_ble_eq_true rfl⟩ ⟨Nat.le_of_ble_eq_true rfl, Nat.le_of_ble_eq_true rfl⟩ (fun H locs (hD : tD G _ _ u H locs) => ?_)
    refine t_split hF (fun h22 hF => ?_) (fun q21 h22 hF => ?_)
    · refine lv_astoreN (lv' := [(5, .null), (4, .ref q7), (0, .ref a0), (1, .int xa), (2, .int xb), (3, .int xc)]) hx hb dX11_swap_18 hl (by decide) rfl (fun ls hl => ?_)
      refine lv_aload hx hb dX11_swap_20 (lv_at hl 1 rfl) ?_
      refine lv_ifnull hx hb dX11_swap_22 ?_
      refine lv_aloadN hx hb dX11_swap_25 (lv_at hl 0 rfl) ?_
      refine lv_ifnullN (tgt := 42) hx hb dX11_swap_27 (by decide) ?_
      exact B_X11_swap_j42 hE hD (lv_sub hl [2] rfl) hF
    · refine lv_astore (lv' := [(5, .ref q21), (4, .ref q7), (0, .ref a0), (1, .int xa), (2, .int xb), (3, .int xc)]) hx hb dX11_swap_18 hl (by decide) rfl (fun ls hl => ?_)
      refine lv_aload hx hb dX11_swap_20 (lv_at hl 1 rfl) ?_
      refine lv_ifnull hx hb dX11_swap_22 ?_
      refine lv_aload hx hb dX11_swap_25 (lv_at hl 0 rfl) ?_
      refine lv_ifnull hx hb dX11_swap_27 ?_
      refine lv_iload_n hx hb dX11_swap_30 rfl (lv_at hl 3 rfl) ?_
      refine lv_iload_n hx hb dX11_swap_31 rfl (lv_at hl 4 rfl) ?_
      refine lv_icmp_eq (tgt := 42) hx hb dX11_swap_32 (by decide) (fun c23 => ?_) (fun c23 => ?_)
      · have hF := ite_p hF c23
        exact B_X11_swap_j42 hE hD (lv_sub hl [2] rfl) hF
      · have hF := ite_n hF c23
        refine lv_iload_n hx hb dX11_swap_35 rfl (lv_at hl 5 rfl) ?_
        obtain ⟨r24, k25, hF⟩ := xb_s hF
        refine kSz (As := [.int xc]) (rest := []) hE hl hD (c_X11_isPurse k25) kl_X11_154 rfl rfl (Nat.le_of_ble_eq_true rfl) dX11_swap_36 ⟨Nat.le_of_ble_eq_true rfl, Nat.le_of_ble_eq_true rfl⟩ ⟨Nat.le_of_ble_eq_true rfl, Nat.le_of_ble_eq_true rfl⟩ (fun H locs z26 (hD : tD G _ _ u H locs) => ?_)
        refine lv_if_ne (tgt := 44) hx hb dX11_swap_39 (by decide) (fun c27 => ?_) (fun c27 => ?_)
        · have hF := ite_n hF c27
          refine lv_aload hx hb dX11_swap_44 (lv_at hl 0 rfl) ?_
          refine lv_aload hx hb dX11_swap_46 (lv_at hl 1 rfl) ?_
          refine lv_iload_n hx hb dX11_swap_48 rfl (lv_at hl 5 rfl) ?_
          obtain ⟨h28, hF⟩ := ite_s hF
          obtain ⟨r29, k30, hF⟩ := xb_s hF
          refine kB_X11_173 (rest := [.ref q21]) hE hl hD h28 k30 (Nat.le_of_ble_eq_true rfl) dX11_swap_49 ⟨Nat.le_of_ble_eq_true rfl, Nat.le_of_ble_eq_true rfl⟩ ⟨Nat.le_of_ble_eq_true rfl, Nat.le_of_ble_eq_true rfl⟩ (fun H locs (hD : tD G _ _ u H locs) => ?_)
          obtain ⟨h31, hF⟩ := ite_s hF
          obtain ⟨r32, k33, hF⟩ := xb_s hF
          refine kB_X11_173 (rest := []) hE hl hD h31 k33 (Nat.le_of_ble_eq_true rfl) dX11_swap_52 ⟨Nat.le_of_ble_eq_true rfl, Nat.le_of_ble_eq_true rfl⟩ ⟨Nat.le_of_ble_eq_true rfl, Nat.le_of_ble_eq_true rfl⟩ (fun H locs (hD : tD G _ _ u H locs) => ?_)
          refine lv_istore (lv' := [(6, .int r32), (5, .ref q21), (4, .ref q7), (0, .ref a0), (1, .int xa), (2, .int xb), (3, .int xc)]) hx hb dX11_swap_55 hl (by decide) rfl (fun ls hl => ?_)
          refine lv_aload hx hb dX11_swap_57 (lv_at hl 2 rfl) ?_
          refine lv_aload hx hb dX11_swap_59 (lv_at hl 1 rfl) ?_
          refine lv_iload_n hx hb dX11_swap_61 rfl (lv_at hl 6 rfl) ?_
          obtain ⟨r34, k35, hF⟩ := xb_s hF
          refine kB_X11_173 (rest := [.ref q7]) hE hl hD h31 k35 (Nat.le_of_ble_eq_true rfl) dX11_swap_62 ⟨Nat.le_of_ble_eq_true rfl, Nat.le_of_ble_eq_true rfl⟩ ⟨Nat.le_of_ble_eq_true rfl, Nat.le_of_ble_eq_true rfl⟩ (fun H locs (hD : tD G _ _ u H locs) => ?_)
          obtain ⟨r36, k37, hF⟩ := xb_s hF
          refine kB_X11_173 (rest := []) hE hl hD h28 k37 (Nat.le_of_ble_eq_true rfl) dX11_swap_65 ⟨Nat.le_of_ble_eq_true rfl, Nat.le_of_ble_eq_true rfl⟩ ⟨Nat.le_of_ble_eq_true rfl, Nat.le_of_ble_eq_true rfl⟩ (fun H locs (hD : tD G _ _ u H locs) => ?_)
          refine lv_istore (lv' := [(7, .int r36), (6, .int r32), (5, .ref q21), (4, .ref q7), (0, .ref a0), (1, .int xa), (2, .int xb), (3, .int xc)]) hx hb dX11_swap_68 hl (by decide) rfl (fun ls hl => ?_)
          refine lv_iload hx hb dX11_swap_70 (lv_at hl 1 rfl) ?_
          refine lv_iload hx hb dX11_swap_72 (lv_at hl 0 rfl) ?_
          refine lv_icmp_ne (tgt := 79) hx hb dX11_swap_74 (by decide) (fun c38 => ?_) (fun c38 => ?_)
          · have hF := ite_n hF c38
            refine lv_iload hx hb dX11_swap_79 (lv_at hl 1 rfl) ?_
            refine lv_iload hx hb dX11_swap_81 (lv_at hl 0 rfl) ?_
            refine lv_icmp_le (tgt := 90) hx hb dX11_swap_83 (by decide) (fun c39 => ?_) (fun c39 => ?_)
            · have hF := ite_p hF c39
              refine lv_iconst (v := (2 : Int32)) hx hb dX11_swap_90 (by decide) ?_
              exact B_X11_swap_j91 hE hD (lv_sub hl [4] rfl) hF
            · have hF := ite_n hF c39
              refine lv_iconst (v := (1 : Int32)) hx hb dX11_swap_86 (by decide) ?_
              refine lv_goto (tgt := 91) hx hb dX11_swap_87 (by decide) ?_
              exact B_X11_swap_j91 hE hD (lv_sub hl [4] rfl) hF
          · have hF := ite_p hF c38
            refine lv_iconst (v := (0 : Int32)) hx hb dX11_swap_77 (by decide) ?_
            obtain rfl := Option.some.inj hF
            exact x_iret hE hD ⟨rfl, rfl⟩ (by omega) (by omega) dX11_swap_78
        · have hF := ite_p hF c27
          exact B_X11_swap_j42 hE hD (lv_sub hl [2] rfl) hF
theorem ku_X11_226_1 : xLU RX11 RX1 "DoubledBridge$Bridge" 226 ⟨"DoubledBridge$Bridge", "twin", "()LDoubledBridge$Bridge;"⟩ yX0_twin cX0_twin 1 (Option.some (Jvm.ClassFile.FieldType.object "DoubledBridge$Bridge")) 0 := ⟨List.forall_mem_cons.mpr ⟨kw4_111, List.forall_mem_cons.mpr ⟨kw4_113, List.forall_mem_cons.mpr ⟨kw4_114, List.forall_mem_cons.mpr ⟨kw4_112, List.forall_mem_cons.mpr ⟨kw1_6, List.forall_mem_cons.mpr ⟨kw4_119, fun _ h => absurd h List.not_mem_nil⟩⟩⟩⟩⟩⟩, Or.inl rfl, by decide, by decide, by decide +kernel⟩
theorem ku_X11_226_4 : xLU RX11 RX4 "DoubledBridge$Bridge" 226 ⟨"DoubledBridge$Bridge", "twin", "()LDoubledBridge$Bridge;"⟩ yX0_twin cX0_twin 1 (Option.some (Jvm.ClassFile.FieldType.object "DoubledBridge$Bridge")) 0 := ⟨List.forall_mem_cons.mpr ⟨kw4_111, List.forall_mem_cons.mpr ⟨kw4_113, List.forall_mem_cons.mpr ⟨kw4_115, List.forall_mem_cons.mpr ⟨kw4_112, List.forall_mem_cons.mpr ⟨kw1_6, List.forall_mem_cons.mpr ⟨kw4_119, fun _ h => absurd h List.not_mem_nil⟩⟩⟩⟩⟩⟩, Or.inl rfl, by decide, by decide, by decide +kernel⟩
theorem ku_X11_226_5 : xLU RX11 RX5 "DoubledBridge$Bridge" 226 ⟨"DoubledBridge$Bridge", "twin", "()LDoubledBridge$Bridge;"⟩ yX0_twin cX0_twin 1 (Option.some (Jvm.ClassFile.FieldType.object "DoubledBridge$Bridge")) 0 := ⟨List.forall_mem_cons.mpr ⟨kw4_111, List.forall_mem_cons.mpr ⟨kw4_113, List.forall_mem_cons.mpr ⟨kw4_116, List.forall_mem_cons.mpr ⟨kw4_112, List.forall_mem_cons.mpr ⟨kw1_6, List.forall_mem_cons.mpr ⟨kw4_119, fun _ h => absurd h List.not_mem_nil⟩⟩⟩⟩⟩⟩, Or.inl rfl, by decide, by decide, by decide +kernel⟩
theorem ku_X11_226_6 : xLU RX11 RX6 "DoubledBridge$Bridge" 226 ⟨"DoubledBridge$Bridge", "twin", "()LDoubledBridge$Bridge;"⟩ yX0_twin cX0_twin 1 (Option.some (Jvm.ClassFile.FieldType.object "DoubledBridge$Bridge")) 0 := ⟨List.forall_mem_cons.mpr ⟨kw4_111, List.forall_mem_cons.mpr ⟨kw4_113, List.forall_mem_cons.mpr ⟨kw4_117, List.forall_mem_cons.mpr ⟨kw4_112, List.forall_mem_cons.mpr ⟨kw1_6, List.forall_mem_cons.mpr ⟨kw4_119, fun _ h => absurd h List.not_mem_nil⟩⟩⟩⟩⟩⟩, Or.inl rfl, by decide, by decide, by decide +kernel⟩
theorem ku_X11_226_9 : xLU RX11 RX9 "DoubledBridge$Bridge" 226 ⟨"DoubledBridge$Bridge", "twin", "()LDoubledBridge$Bridge;"⟩ yX0_twin cX0_twin 1 (Option.some (Jvm.ClassFile.FieldType.object "DoubledBridge$Bridge")) 0 := ⟨List.forall_mem_cons.mpr ⟨kw4_111, List.forall_mem_cons.mpr ⟨kw4_113, List.forall_mem_cons.mpr ⟨kw4_118, List.forall_mem_cons.mpr ⟨kw4_112, List.forall_mem_cons.mpr ⟨kw1_6, List.forall_mem_cons.mpr ⟨kw4_119, fun _ h => absurd h List.not_mem_nil⟩⟩⟩⟩⟩⟩, Or.inl rfl, by decide, by decide, by decide +kernel⟩
theorem kB_X11_226 {p : Program} {l : Launch} {e : Env} {R : Room} {s : State} {m : MethodId} {args : Array Value} {below : List Frame} {meth : Method} {c : Code} {H : Heap} {locs : List Loc} {cells slots : Nat} {Q : State → Prop} {cc : ByteArray} {pc : Nat} {ls : Array Slot} {rest : List Value} {G : xG} {A : Nat → Prop} {a nL : Nat} {H0 : Heap} {ret : Option FieldType} {t : xT} {lv : List (Nat × Value)} (hE : xE p s m args meth c cc RX11 G nL ret) (hl : lv_has ls nL lv) (hD : tD G A H0 t H locs) (hk : isBk (tK t a))  {v : (Option Nat) × xT} (hF : F_X0_twin t a  = some v) (hr : (rest.map fun v => v.category).sum ≤ 8) (hdg : decode cc pc = .ok (.invokevirtual 226, 3)) (hR : 6 + 1 ≤ R.frames ∧ 8 + (1 + 11) + 40 * 6 ≤ R.locals) (hR2 : cells + 1 ≤ R.cells ∧ slots + 8 ≤ R.slots) (kk : ∀ (H1 : Heap) (locs1 : List Loc), tD G A H0 v.2 H1 locs1 → W p l e R s m args below meth c H1 locs1 (cells + 1) (slots + 8) Q (F0 m (pc + 3) ls (va_rf v.1 :: rest))) : W p l e R s m args below meth c H locs cells slots Q (F0 m pc ls (.ref a :: rest)) := by
  rcases hk with h | h | h | h | h
  · exact kUqA (As := []) (rest := rest) hE hl hD (c_X0_twin hF) ku_X11_226_1 (tE_1 h) rfl rfl rfl rfl hr hdg ⟨by have := hR.1; omega, by have := hR.2; omega⟩ hR2 kk
  · exact kUqA (As := []) (rest := rest) hE hl hD (c_X0_twin hF) ku_X11_226_4 (tE_4 h) rfl rfl rfl rfl hr hdg ⟨by have := hR.1; omega, by have := hR.2; omega⟩ hR2 kk
  · exact kUqA (As := []) (rest := rest) hE hl hD (c_X0_twin hF) ku_X11_226_5 (tE_5 h) rfl rfl rfl rfl hr hdg ⟨by have := hR.1; omega, by have := hR.2; omega⟩ hR2 kk
  · exact kUqA (As := []) (rest := rest) hE hl hD (c_X0_twin hF) ku_X11_226_6 (tE_6 h) rfl rfl rfl rfl hr hdg ⟨by have := hR.1; omega, by have := hR.2; omega⟩ hR2 kk
  · exact kUqA (As := []) (rest := rest) hE hl hD (c_X0_twin hF) ku_X11_226_9 (tE_9 h) rfl rfl rfl rfl hr hdg ⟨by have := hR.1; omega, by have := hR.2; omega⟩ hR2 kk
def F_X11_devil_l49 : Nat → xT → Nat → Int32 → Int32 → (Option Nat) → Int32 → Option (Int32 × xT)
  | 0, _, _, _, _, _, _ => none
  | nn + 1, u, a0, y2, y3, o5, y6 => xopt o5 (if y6 < 0 then some ((-3 : Int32), u) else none) (fun q1 => if y6 < 0 then some ((-3 : Int32), u) else if isBk (tK u q1) then xlet (tSI u q1 3 y6) (fun t6 => if tK t6 a0 = 11 then (tP t6 a0 0).bind (fun q9 => if tK t6 q9 = 7 then (tP t6 q9 3).bind (fun q12 => (tP t6 a0 0).bind (fun q14 => if tK t6 q14 = 7 then (F_X0_settle t6 q1 q12 (tI t6 q14 2)).bind (fun r17 => (F_X11_behindAll r17 q1 y2 y3).bind (fun r19 => if r19 < y2 then xlet (y6 + (-1 : Int32)) (fun x22 => F_X11_devil_l49 nn r17 a0 y2 y3 (some q1) x22) else some (y6, r17))) else none)) else none) else none) else none)
theorem L_X11_devil_l49 {p : Program} {l : Launch} {e : Env} {s : State} {m : MethodId} {args : Array Value} {below : List Frame} {meth : Method} {cd : Code} {G : xG} {w0 : xW} {rr : (Int32 × xT)} (hE : xE p s m args meth cd cX11_devil RX11 G 7 (Option.some Jvm.ClassFile.FieldType.int)) : ∀ (nn : Nat) {u : xT} {a0 : Nat} {y2 : Int32} {y3 : Int32} {o5 : Option Nat} {y6 : Int32} {H : Heap} {locs : List Loc} {ls : Array Slot} {cells slots : Nat}, cells + 0 ≤ 1 → slots + 0 ≤ 8 → tD G (xA w0 s.heap.size) s.heap u H locs → lv_has ls 7 [(0, .ref a0), (2, .int y2), (3, .int y3), (5, va_rf o5), (6, .int y6)] → F_X11_devil_l49 nn u a0 y2 y3 o5 y6 = some rr → W p l e (xR 7 1 8) s m args below meth cd H locs cells slots (xQi G w0 (fun r z => r = rr.1 ∧ z = ((tE G rr.2), rr.2.1)) below args s 1 8) (F0 m 49 ls []) := by
  have hx := hE.1; have hb := hE.2.1
  intro nn
  induction nn with
  | zero => intro u a0 y2 y3 o5 y6 H locs ls cells slots hcc hkk hD hl hF; rw [F_X11_devil_l49] at hF; cases hF
  | succ nn ih =>
    intro u a0 y2 y3 o5 y6 H locs ls cells slots hcc hkk hD hl hF
    rw [F_X11_devil_l49] at hF
    refine t_splitL hF (fun h2 hF9 => ?_) (fun q1 h2 hF9 => ?_)
    · subst h2
      have hF := hF9
      have hl : lv_has ls 7 [(0, .ref a0), (2, .int y2), (3, .int y3), (5, .null), (6, .int y6)] := hl
      refine W.eq (g2 := F0 m 49 ls []) rfl ?_
      refine lv_iload hx hb dX11_devil_49 (lv_at hl 4 rfl) ?_
      refine lv_if_lt (tgt := 100) hx hb dX11_devil_51 (by decide) (fun c3 => ?_) (fun c3 => ?_)
      · have hF := ite_p hF c3
        refine lv_bipush (v := (-3 : Int32)) hx hb dX11_devil_100 (by decide) ?_
        obtain rfl := Option.some.inj hF
        exact x_iret hE hD ⟨rfl, rfl⟩ (by omega) (by omega) dX11_devil_102
      · have hF := ite_n hF c3
        refine lv_aloadN hx hb dX11_devil_54 (lv_at hl 3 rfl) ?_
        refine lv_iload hx hb dX11_devil_56 (lv_at hl 4 rfl) ?_
        cases hF
    · subst h2
      have hF := hF9
      have hl : lv_has ls 7 [(0, .ref a0), (2, .int y2), (3, .int y3), (5, .ref q1), (6, .int y6)] := hl
      refine W.eq (g2 := F0 m 49 ls []) rfl ?_
      refine lv_iload hx hb dX11_devil_49 (lv_at hl 4 rfl) ?_
      refine lv_if_lt (tgt := 100) hx hb dX11_devil_51 (by decide) (fun c4 => ?_) (fun c4 => ?_)
      · have hF := ite_p hF c4
        refine lv_bipush (v := (-3 : Int32)) hx hb dX11_devil_100 (by decide) ?_
        obtain rfl := Option.some.inj hF
        exact x_iret hE hD ⟨rfl, rfl⟩ (by omega) (by omega) dX11_devil_102
      · have hF := ite_n hF c4
        refine lv_aload hx hb dX11_devil_54 (lv_at hl 3 rfl) ?_
        refine lv_iload hx hb dX11_devil_56 (lv_at hl 4 rfl) ?_
        obtain ⟨h5, hF⟩ := ite_s hF
        refine pf_X11_94 hE hD h5 dX11_devil_58 (fun t6 H locs et6 hD => ?_)
        have hF := xlet_e hF et6
        have h7 : isBk (tK t6 q1) := by rw [et6]; exact h5
        refine lv_aload hx hb dX11_devil_61 (lv_at hl 3 rfl) ?_
        refine lv_aload_n hx hb dX11_devil_63 rfl (lv_at hl 0 rfl) ?_
        obtain ⟨h8, hF⟩ := ite_s hF
        obtain ⟨q9, h10, hF⟩ := xb_s hF
        refine gr_X11_10 hE hD h8 h10 dX11_devil_64 ?_
        obtain ⟨h11, hF⟩ := ite_s hF
        obtain ⟨q12, h13, hF⟩ := xb_s hF
        refine gr_X11_109 hE hD h11 h13 dX11_devil_67 ?_
        refine lv_aload_n hx hb dX11_devil_70 rfl (lv_at hl 0 rfl) ?_
        obtain ⟨q14, h15, hF⟩ := xb_s hF
        refine gr_X11_10 hE hD h8 h15 dX11_devil_71 ?_
        obtain ⟨h16, hF⟩ := ite_s hF
        refine gf_X11_113 hE hD h16 dX11_devil_74 ?_
        obtain ⟨r17, k18, hF⟩ := xb_s hF
        refine kB_X11_116 (rest := []) hE hl hD h7 k18 (Nat.le_of_ble_eq_true rfl) dX11_devil_77 ⟨Nat.le_of_ble_eq_true rfl, Nat.le_of_ble_eq_true rfl⟩ ⟨(by show cells ≤ 1; omega), (by show slots ≤ 8; omega)⟩ (fun H locs (hD : tD G _ _ r17 H locs) => ?_)
        refine lv_aload hx hb dX11_devil_80 (lv_at hl 3 rfl) ?_
        refine lv_iload_n hx hb dX11_devil_82 rfl (lv_at hl 1 rfl) ?_
        refine lv_iload_n hx hb dX11_devil_83 rfl (lv_at hl 2 rfl) ?_
        obtain ⟨r19, k20, hF⟩ := xb_s hF
        refine kSi (As := [.ref q1, .int y2, .int y3]) (rest := []) hE hl hD (c_X11_behindAll k20) kl_X11_187 rfl rfl (Nat.le_of_ble_eq_true rfl) dX11_devil_84 ⟨Nat.le_of_ble_eq_true rfl, Nat.le_of_ble_eq_true rfl⟩ ⟨(by show cells ≤ 1; omega), (by show slots ≤ 8; omega)⟩ (fun H locs (hD : tD G _ _ r17 H locs) => ?_)
        refine lv_iload_n hx hb dX11_devil_87 rfl (lv_at hl 1 rfl) ?_
        refine lv_icmp_lt (tgt := 94) hx hb dX11_devil_88 (by decide) (fun c21 => ?_) (fun c21 => ?_)
        · have hF := ite_p hF c21
          obtain ⟨x22, ex22⟩ : ∃ y : Int32, y = y6 + (-1 : Int32) := ⟨_, rfl⟩
          have hF := xlet_e hF ex22
          refine lv_iinc (v := x22) (lv' := [(6, .int x22), (0, .ref a0), (2, .int y2), (3, .int y3), (5, .ref q1)]) hx hb dX11_devil_94 hl (k := 4) rfl (by rw [ex22]; rfl) (by decide) rfl (fun ls hl => ?_)
          refine lv_goto (tgt := 49) hx hb dX11_devil_97 (by decide) ?_
          exact ih (by omega) (by omega) hD (lv_sub hl [1, 2, 3, 4, 0] rfl) hF
        · have hF := ite_n hF c21
          refine lv_iload hx hb dX11_devil_91 (lv_at hl 4 rfl) ?_
          obtain rfl := Option.some.inj hF
          exact x_iret hE hD ⟨rfl, rfl⟩ (by omega) (by omega) dX11_devil_93
def F_X11_devil_j35 (u : xT) (a0 : Nat) : Option (Int32 × xT) := some ((-1 : Int32), u)
theorem B_X11_devil_j35 {p : Program} {l : Launch} {e : Env} {s : State} {m : MethodId} {args : Array Value} {below : List Frame} {meth : Method} {cd : Code} {G : xG} {w0 : xW} {rr : (Int32 × xT)} (hE : xE p s m args meth cd cX11_devil RX11 G 7 (Option.some Jvm.ClassFile.FieldType.int)) {u : xT} {a0 : Nat} {H : Heap} {locs : List Loc} {ls : Array Slot} {cells slots : Nat} (hcc : cells + 0 ≤ 1) (hkk : slots + 0 ≤ 8) (hD : tD G (xA w0 s.heap.size) s.heap u H locs) (hl : lv_has ls 7 [(0, .ref a0)]) (hF : F_X11_devil_j35 u a0 = some rr) : W p l e (xR 7 1 8) s m args below meth cd H locs cells slots (xQi G w0 (fun r z => r = rr.1 ∧ z = ((tE G rr.2), rr.2.1)) below args s 1 8) (F0 m 35 ls []) := by
  have hx := hE.1; have hb := hE.2.1
  unfold F_X11_devil_j35 at hF
  refine lv_iconst (v := (-1 : Int32)) hx hb dX11_devil_35 (by decide) ?_
  obtain rfl := Option.some.inj hF
  exact x_iret hE hD ⟨rfl, rfl⟩ (by omega) (by omega) dX11_devil_36
def F_X11_devil (u : xT) (a0 : Nat) (xa : Int32) (xb : Int32) (xc : Int32) : Option (Int32 × xT) := if tK u a0 = 11 then (tP u a0 0).bind (fun q24 => if tK u q24 = 7 then (F_X7_bridgeAt u q24 xa).bind (fun r27 => xopt (r27) (F_X11_devil_j35 u a0) (fun q29 => (F_X11_isIn xb (0 : Int32) (99999 : Int32)).bind (fun r31 => if r31 = 0 then F_X11_devil_j35 u a0 else (F_X11_isIn xc (1 : Int32) (20 : Int32)).bind (fun r35 => if r35 = 0 then F_X11_devil_j35 u a0 else if isBk (tK u q29) then (F_X0_twin u q29).bind (fun r40 => xopt (r40.1) (F_X11_devil_l49 xFuel r40.2 a0 xb xc none (999 : Int32)) (fun q42 => F_X11_devil_l49 xFuel r40.2 a0 xb xc (some q42) (999 : Int32))) else none)))) else none) else none
theorem c_X11_devil {l : Launch} {G : xG} {rr : (Int32 × xT)} {u : xT} {a0 : Nat} {xa : Int32} {xb : Int32} {xc : Int32} (hF : F_X11_devil u a0 xa xb xc = some rr) : xMi l G yX11_devil cX11_devil 7 (Option.some Jvm.ClassFile.FieldType.int) 7 1 8 [.ref a0, .int xa, .int xb, .int xc] (tE G u) u.1 (fun r z => r = rr.1 ∧ z = ((tE G rr.2), rr.2.1)) := by
  unfold F_X11_devil at hF
  refine x_startI rfl (Nat.le_of_ble_eq_true rfl) (fun p e s m args below meth cd ls hE hnm hl hD => ?_)
  have hx := hE.1; have hb := hE.2.1
  have hl : lv_has ls 7 [(0, .ref a0), (1, .int xa), (2, .int xb), (3, .int xc)] := hl
  have hD : tD G (xA (tE G u) s.heap.size) s.heap u s.heap [] := hD
  refine lv_aload_n hx hb dX11_devil_0 rfl (lv_at hl 0 rfl) ?_
  obtain ⟨h23, hF⟩ := ite_s hF
  obtain ⟨q24, h25, hF⟩ := xb_s hF
  refine gr_X11_10 hE hD h23 h25 dX11_devil_1 ?_
  refine lv_iload_n hx hb dX11_devil_4 rfl (lv_at hl 1 rfl) ?_
  obtain ⟨h26, hF⟩ := ite_s hF
  obtain ⟨r27, k28, hF⟩ := xb_s hF
  refine kVq (As := [.int xa]) (rest := []) hE hl hD (c_X7_bridgeAt k28) kl_X11_82 (tE_7 h26) rfl rfl rfl rfl (Nat.le_of_ble_eq_true rfl) dX11_devil_5 ⟨Nat.le_of_ble_eq_true rfl, Nat.le_of_ble_eq_true rfl⟩ ⟨(by show 0 ≤ 1; omega), (by show 0 ≤ 8; omega)⟩ (fun H locs (hD : tD G _ _ u H locs) => ?_)
  refine t_split hF (fun h30 hF => ?_) (fun q29 h30 hF => ?_)
  · refine lv_astoreN (lv' := [(4, .null), (0, .ref a0), (1, .int xa), (2, .int xb), (3, .int xc)]) hx hb dX11_devil_8 hl (by decide) rfl (fun ls hl => ?_)
    refine lv_aloadN hx hb dX11_devil_10 (lv_at hl 0 rfl) ?_
    refine lv_ifnullN (tgt := 35) hx hb dX11_devil_12 (by decide) ?_
    exact B_X11_devil_j35 hE (by omega) (by omega) hD (lv_sub hl [1] rfl) hF
  · refine lv_astore (lv' := [(4, .ref q29), (0, .ref a0), (1, .int xa), (2, .int xb), (3, .int xc)]) hx hb dX11_devil_8 hl (by decide) rfl (fun ls hl => ?_)
    refine lv_aload hx hb dX11_devil_10 (lv_at hl 0 rfl) ?_
    refine lv_ifnull hx hb dX11_devil_12 ?_
    refine lv_iload_n hx hb dX11_devil_15 rfl (lv_at hl 3 rfl) ?_
    refine lv_iconst (v := (0 : Int32)) hx hb dX11_devil_16 (by decide) ?_
    refine lv_ldc (v := (99999 : Int32)) hx hb hE.2.2.1 (hE.2.2.2.1 _ kw4_13) dX11_devil_17 ?_
    obtain ⟨r31, k32, hF⟩ := xb_s hF
    refine kSz (As := [.int xb, .int (0 : Int32), .int (99999 : Int32)]) (rest := []) hE hl hD (c_X11_isIn k32) kl_X11_183 rfl rfl (Nat.le_of_ble_eq_true rfl) dX11_devil_19 ⟨Nat.le_of_ble_eq_true rfl, Nat.le_of_ble_eq_true rfl⟩ ⟨(by show 0 ≤ 1; omega), (by show 0 ≤ 8; omega)⟩ (fun H locs z33 (hD : tD G _ _ u H locs) => ?_)
    refine lv_if_eq (tgt := 35) hx hb dX11_devil_22 (by decide) (fun c34 => ?_) (fun c34 => ?_)
    · have hF := ite_p hF c34
      exact B_X11_devil_j35 hE (by omega) (by omega) hD (lv_sub hl [1] rfl) hF
    · have hF := ite_n hF c34
      refine lv_iload_n hx hb dX11_devil_25 rfl (lv_at hl 4 rfl) ?_
      refine lv_iconst (v := (1 : Int32)) hx hb dX11_devil_26 (by decide) ?_
      refine lv_bipush (v := (20 : Int32)) hx hb dX11_devil_27 (by decide) ?_
      obtain ⟨r35, k36, hF⟩ := xb_s hF
      refine kSz (As := [.int xc, .int (1 : Int32), .int (20 : Int32)]) (rest := []) hE hl hD (c_X11_isIn k36) kl_X11_183 rfl rfl (Nat.le_of_ble_eq_true rfl) dX11_devil_29 ⟨Nat.le_of_ble_eq_true rfl, Nat.le_of_ble_eq_true rfl⟩ ⟨(by show 0 ≤ 1; omega), (by show 0 ≤ 8; omega)⟩ (fun H locs z37 (hD : tD G _ _ u H locs) => ?_)
      refine lv_if_ne (tgt := 37) hx hb dX11_devil_32 (by decide) (fun c38 => ?_) (fun c38 => ?_)
      · have hF := ite_n hF c38
        refine lv_aload hx hb dX11_devil_37 (lv_at hl 0 rfl) ?_
        obtain ⟨h39, hF⟩ := ite_s hF
        obtain ⟨r40, k41, hF⟩ := xb_s hF
        refine kB_X11_226 (rest := []) hE hl hD h39 k41 (Nat.le_of_ble_eq_true rfl) dX11_devil_39 ⟨Nat.le_of_ble_eq_true rfl, Nat.le_of_ble_eq_true rfl⟩ ⟨(by show 0 + 1 ≤ 1; omega), (by show 0 + 8 ≤ 8; omega)⟩ (fun H locs (hD : tD G _ _ r40.2 H locs) => ?_)
        refine t_split hF (fun h43 hF => ?_) (fun q42 h43 hF => ?_)
        · refine lv_astoreN (lv' := [(5, .null), (4, .ref q29), (0, .ref a0), (1, .int xa), (2, .int xb), (3, .int xc)]) hx hb dX11_devil_42 hl (by decide) rfl (fun ls hl => ?_)
          refine lv_sipush (v := (999 : Int32)) hx hb dX11_devil_44 (by decide) ?_
          refine lv_istore (lv' := [(6, .int (999 : Int32)), (5, .null), (4, .ref q29), (0, .ref a0), (1, .int xa), (2, .int xb), (3, .int xc)]) hx hb dX11_devil_47 hl (by decide) rfl (fun ls hl => ?_)
          exact L_X11_devil_l49 hE _ (by omega) (by omega) hD (lv_sub hl [3, 5, 6, 1, 0] rfl) hF
        · refine lv_astore (lv' := [(5, .ref q42), (4, .ref q29), (0, .ref a0), (1, .int xa), (2, .int xb), (3, .int xc)]) hx hb dX11_devil_42 hl (by decide) rfl (fun ls hl => ?_)
          refine lv_sipush (v := (999 : Int32)) hx hb dX11_devil_44 (by decide) ?_
          refine lv_istore (lv' := [(6, .int (999 : Int32)), (5, .ref q42), (4, .ref q29), (0, .ref a0), (1, .int xa), (2, .int xb), (3, .int xc)]) hx hb dX11_devil_47 hl (by decide) rfl (fun ls hl => ?_)
          exact L_X11_devil_l49 hE _ (by omega) (by omega) hD (lv_sub hl [3, 5, 6, 1, 0] rfl) hF
      · have hF := ite_p hF c38
        exact B_X11_devil_j35 hE (by omega) (by omega) hD (lv_sub hl [1] rfl) hF
def F_X11_rate_j35 (u : xT) (a0 : Nat) : Option Int32 := some (-1 : Int32)
theorem B_X11_rate_j35 {p : Program} {l : Launch} {e : Env} {s : State} {m : MethodId} {args : Array Value} {below : List Frame} {meth : Method} {cd : Code} {G : xG} {w0 : xW} {rr : Int32} (hE : xE p s m args meth cd cX11_rate RX11 G 9 (Option.some Jvm.ClassFile.FieldType.int)) {u : xT} {a0 : Nat} {H : Heap} {locs : List Loc} {ls : Array Slot} (hD : tD G (xA w0 s.heap.size) s.heap u H locs) (hl : lv_has ls 9 [(0, .ref a0)]) (hF : F_X11_rate_j35 u a0 = some rr) : W p l e (xR 6 0 0) s m args below meth cd H locs 0 0 (xQi G w0 (fun r z => r = rr ∧ z = ((tE G u), u.1)) below args s 0 0) (F0 m 35 ls []) := by
  have hx := hE.1; have hb := hE.2.1
  unfold F_X11_rate_j35 at hF
  refine lv_iconst (v := (-1 : Int32)) hx hb dX11_rate_35 (by decide) ?_
  obtain rfl := Option.some.inj hF
  exact x_iret hE hD ⟨rfl, rfl⟩ (by omega) (by omega) dX11_rate_36
def F_X11_rate (u : xT) (a0 : Nat) (xa : Int32) (xb : Int32) (xc : Int32) : Option Int32 := if tK u a0 = 11 then (tP u a0 0).bind (fun q2 => if tK u q2 = 7 then (F_X7_bridgeAt u q2 xa).bind (fun r5 => xopt (r5) (F_X11_rate_j35 u a0) (fun q7 => (F_X11_isIn xb (0 : Int32) (99999 : Int32)).bind (fun r9 => if r9 = 0 then F_X11_rate_j35 u a0 else (F_X11_isIn xc (1 : Int32) (99999 : Int32)).bind (fun r13 => if r13 = 0 then F_X11_rate_j35 u a0 else if isBk (tK u q7) then (F_X0_becomes u q7 xb).bind (fun r18 => (F_X0_becomes u q7 (xb + xc)).bind (fun r20 => if 0 ≤ (lg_cmp r18.toInt64 (0 : Int64)) then if ¬ xc.toInt64 = 0 then some ((((((r20.toInt64 - r18.toInt64) - xc.toInt64) * (100 : Int64)) / xc.toInt64).toInt32) + (1000 : Int32)) else none else some (-3 : Int32))) else none)))) else none) else none
theorem c_X11_rate {l : Launch} {G : xG} {rr : Int32} {u : xT} {a0 : Nat} {xa : Int32} {xb : Int32} {xc : Int32} (hF : F_X11_rate u a0 xa xb xc = some rr) : xMi l G yX11_rate cX11_rate 9 (Option.some Jvm.ClassFile.FieldType.int) 6 0 0 [.ref a0, .int xa, .int xb, .int xc] (tE G u) u.1 (fun r z => r = rr ∧ z = ((tE G u), u.1)) := by
  unfold F_X11_rate at hF
  refine x_startI rfl (Nat.le_of_ble_eq_true rfl) (fun p e s m args below meth cd ls hE hnm hl hD => ?_)
  have hx := hE.1; have hb := hE.2.1
  have hl : lv_has ls 9 [(0, .ref a0), (1, .int xa), (2, .int xb), (3, .int xc)] := hl
  have hD : tD G (xA (tE G u) s.heap.size) s.heap u s.heap [] := hD
  refine lv_aload_n hx hb dX11_rate_0 rfl (lv_at hl 0 rfl) ?_
  obtain ⟨h1, hF⟩ := ite_s hF
  obtain ⟨q2, h3, hF⟩ := xb_s hF
  refine gr_X11_10 hE hD h1 h3 dX11_rate_1 ?_
  refine lv_iload_n hx hb dX11_rate_4 rfl (lv_at hl 1 rfl) ?_
  obtain ⟨h4, hF⟩ := ite_s hF
  obtain ⟨r5, k6, hF⟩ := xb_s hF
  refine kVq (As := [.int xa]) (rest := []) hE hl hD (c_X7_bridgeAt k6) kl_X11_82 (tE_7 h4) rfl rfl rfl rfl (Nat.le_of_ble_eq_true rfl) dX11_rate_5 ⟨Nat.le_of_ble_eq_true rfl, Nat.le_of_ble_eq_true rfl⟩ ⟨Nat.le_of_ble_eq_true rfl, Nat.le_of_ble_eq_true rfl⟩ (fun H locs (hD : tD G _ _ u H locs) => ?_)
  refine t_split hF (fun h8 hF => ?_) (fun q7 h8 hF => ?_)
  · refine lv_astoreN (lv' := [(4, .null), (0, .ref a0), (1, .int xa), (2, .int xb), (3, .int xc)]) hx hb dX11_rate_8 hl (by decide) rfl (fun ls hl => ?_)
    refine lv_aloadN hx hb dX11_rate_10 (lv_at hl 0 rfl) ?_
    refine lv_ifnullN (tgt := 35) hx hb dX11_rate_12 (by decide) ?_
    exact B_X11_rate_j35 hE hD (lv_sub hl [1] rfl) hF
  · refine lv_astore (lv' := [(4, .ref q7), (0, .ref a0), (1, .int xa), (2, .int xb), (3, .int xc)]) hx hb dX11_rate_8 hl (by decide) rfl (fun ls hl => ?_)
    refine lv_aload hx hb dX11_rate_10 (lv_at hl 0 rfl) ?_
    refine lv_ifnull hx hb dX11_rate_12 ?_
    refine lv_iload_n hx hb dX11_rate_15 rfl (lv_at hl 3 rfl) ?_
    refine lv_iconst (v := (0 : Int32)) hx hb dX11_rate_16 (by decide) ?_
    refine lv_ldc (v := (99999 : Int32)) hx hb hE.2.2.1 (hE.2.2.2.1 _ kw4_13) dX11_rate_17 ?_
    obtain ⟨r9, k10, hF⟩ := xb_s hF
    refine kSz (As := [.int xb, .int (0 : Int32), .int (99999 : Int32)]) (rest := []) hE hl hD (c_X11_isIn k10) kl_X11_183 rfl rfl (Nat.le_of_ble_eq_true rfl) dX11_rate_19 ⟨Nat.le_of_ble_eq_true rfl, Nat.le_of_ble_eq_true rfl⟩ ⟨Nat.le_of_ble_eq_true rfl, Nat.le_of_ble_eq_true rfl⟩ (fun H locs z11 (hD : tD G _ _ u H locs) => ?_)
    refine lv_if_eq (tgt := 35) hx hb dX11_rate_22 (by decide) (fun c12 => ?_) (fun c12 => ?_)
    · have hF := ite_p hF c12
      exact B_X11_rate_j35 hE hD (lv_sub hl [1] rfl) hF
    · have hF := ite_n hF c12
      refine lv_iload_n hx hb dX11_rate_25 rfl (lv_at hl 4 rfl) ?_
      refine lv_iconst (v := (1 : Int32)) hx hb dX11_rate_26 (by decide) ?_
      refine lv_ldc (v := (99999 : Int32)) hx hb hE.2.2.1 (hE.2.2.2.1 _ kw4_13) dX11_rate_27 ?_
      obtain ⟨r13, k14, hF⟩ := xb_s hF
      refine kSz (As := [.int xc, .int (1 : Int32), .int (99999 : Int32)]) (rest := []) hE hl hD (c_X11_isIn k14) kl_X11_183 rfl rfl (Nat.le_of_ble_eq_true rfl) dX11_rate_29 ⟨Nat.le_of_ble_eq_true rfl, Nat.le_of_ble_eq_true rfl⟩ ⟨Nat.le_of_ble_eq_true rfl, Nat.le_of_ble_eq_true rfl⟩ (fun H locs z15 (hD : tD G _ _ u H locs) => ?_)
      refine lv_if_ne (tgt := 37) hx hb dX11_rate_32 (by decide) (fun c16 => ?_) (fun c16 => ?_)
      · have hF := ite_n hF c16
        refine lv_aload hx hb dX11_rate_37 (lv_at hl 0 rfl) ?_
        refine lv_iload_n hx hb dX11_rate_39 rfl (lv_at hl 3 rfl) ?_
        obtain ⟨h17, hF⟩ := ite_s hF
        obtain ⟨r18, k19, hF⟩ := xb_s hF
        refine kB_X11_173 (rest := []) hE hl hD h17 k19 (Nat.le_of_ble_eq_true rfl) dX11_rate_40 ⟨Nat.le_of_ble_eq_true rfl, Nat.le_of_ble_eq_true rfl⟩ ⟨Nat.le_of_ble_eq_true rfl, Nat.le_of_ble_eq_true rfl⟩ (fun H locs (hD : tD G _ _ u H locs) => ?_)
        refine lv_i2l (v := r18.toInt64) hx hb dX11_rate_43 rfl ?_
        refine lv_lstore (lv' := [(5, .long r18.toInt64), (4, .ref q7), (0, .ref a0), (1, .int xa), (2, .int xb), (3, .int xc)]) hx hb dX11_rate_44 hl (by decide) rfl (fun ls hl => ?_)
        refine lv_aload hx hb dX11_rate_46 (lv_at hl 1 rfl) ?_
        refine lv_iload_n hx hb dX11_rate_48 rfl (lv_at hl 4 rfl) ?_
        refine lv_iload_n hx hb dX11_rate_49 rfl (lv_at hl 5 rfl) ?_
        refine lv_iadd hx hb dX11_rate_50 ?_
        obtain ⟨r20, k21, hF⟩ := xb_s hF
        refine kB_X11_173 (rest := []) hE hl hD h17 k21 (Nat.le_of_ble_eq_true rfl) dX11_rate_51 ⟨Nat.le_of_ble_eq_true rfl, Nat.le_of_ble_eq_true rfl⟩ ⟨Nat.le_of_ble_eq_true rfl, Nat.le_of_ble_eq_true rfl⟩ (fun H locs (hD : tD G _ _ u H locs) => ?_)
        refine lv_i2l (v := r20.toInt64) hx hb dX11_rate_54 rfl ?_
        refine lv_lstore (lv' := [(7, .long r20.toInt64), (5, .long r18.toInt64), (4, .ref q7), (0, .ref a0), (1, .int xa), (2, .int xb), (3, .int xc)]) hx hb dX11_rate_55 hl (by decide) rfl (fun ls hl => ?_)
        refine lv_lload hx hb dX11_rate_57 (lv_at hl 1 rfl) ?_
        refine lv_lconst (v := (0 : Int64)) hx hb dX11_rate_59 (by decide) ?_
        refine W.lcmp hx hb dX11_rate_60 ?_
        refine lv_if_ge (tgt := 67) hx hb dX11_rate_61 (by decide) (fun c22 => ?_) (fun c22 => ?_)
        · have hF := ite_p hF c22
          refine lv_lload hx hb dX11_rate_67 (lv_at hl 0 rfl) ?_
          refine lv_lload hx hb dX11_rate_69 (lv_at hl 1 rfl) ?_
          refine lv_lsub hx hb dX11_rate_71 ?_
          refine lv_iload_n hx hb dX11_rate_72 rfl (lv_at hl 6 rfl) ?_
          refine lv_i2l (v := xc.toInt64) hx hb dX11_rate_73 rfl ?_
          refine lv_lsub hx hb dX11_rate_74 ?_
          refine lv_ldc2 (v := (100 : Int64)) hx hb hE.2.2.1 (hE.2.2.2.1 _ kw4_125) dX11_rate_75 ?_
          refine lv_lmul hx hb dX11_rate_78 ?_
          refine lv_iload_n hx hb dX11_rate_79 rfl (lv_at hl 6 rfl) ?_
          refine lv_i2l (v := xc.toInt64) hx hb dX11_rate_80 rfl ?_
          obtain ⟨h23, hF⟩ := ite_s hF
          refine lv_ldiv hx hb dX11_rate_81 h23 ?_
          refine lv_l2i (v := ((((r20.toInt64 - r18.toInt64) - xc.toInt64) * (100 : Int64)) / xc.toInt64).toInt32) hx hb dX11_rate_82 rfl ?_
          refine lv_sipush (v := (1000 : Int32)) hx hb dX11_rate_83 (by decide) ?_
          refine lv_iadd hx hb dX11_rate_86 ?_
          obtain rfl := Option.some.inj hF
          exact x_iret hE hD ⟨rfl, rfl⟩ (by omega) (by omega) dX11_rate_87
        · have hF := ite_n hF c22
          refine lv_bipush (v := (-3 : Int32)) hx hb dX11_rate_64 (by decide) ?_
          obtain rfl := Option.some.inj hF
          exact x_iret hE hD ⟨rfl, rfl⟩ (by omega) (by omega) dX11_rate_66
      · have hF := ite_p hF c16
        exact B_X11_rate_j35 hE hD (lv_sub hl [1] rfl) hF
def F_X11_meet_j165 (u : xT) (a0 : Nat) : Option Int32 := some (-3 : Int32)
theorem B_X11_meet_j165 {p : Program} {l : Launch} {e : Env} {s : State} {m : MethodId} {args : Array Value} {below : List Frame} {meth : Method} {cd : Code} {G : xG} {w0 : xW} {rr : Int32} (hE : xE p s m args meth cd cX11_meet RX11 G 11 (Option.some Jvm.ClassFile.FieldType.int)) {u : xT} {a0 : Nat} {H : Heap} {locs : List Loc} {ls : Array Slot} (hD : tD G (xA w0 s.heap.size) s.heap u H locs) (hl : lv_has ls 11 [(0, .ref a0)]) (hF : F_X11_meet_j165 u a0 = some rr) : W p l e (xR 6 0 0) s m args below meth cd H locs 0 0 (xQi G w0 (fun r z => r = rr ∧ z = ((tE G u), u.1)) below args s 0 0) (F0 m 165 ls []) := by
  have hx := hE.1; have hb := hE.2.1
  unfold F_X11_meet_j165 at hF
  refine lv_bipush (v := (-3 : Int32)) hx hb dX11_meet_165 (by decide) ?_
  obtain rfl := Option.some.inj hF
  exact x_iret hE hD ⟨rfl, rfl⟩ (by omega) (by omega) dX11_meet_167
def F_X11_meet_j141 (kc99 : xT → Nat → Nat → Nat → Int32 → Int32 → Int32 → Int32 → Option Int32) (u : xT) (a0 : Nat) (y5 : Nat) (y6 : Nat) (y7 : Int32) (y8 : Int32) (y9 : Int32) (y10 : Int32) : Option Int32 := if isBk (tK u y5) then (F_X0_becomes u y5 y7).bind (fun r2 => if isBk (tK u y6) then (F_X0_becomes u y6 y8).bind (fun r5 => xlet (y10 + (1 : Int32)) (fun x7 => kc99 u a0 y5 y6 r2 r5 y9 x7)) else none) else none
theorem B_X11_meet_j141 {p : Program} {l : Launch} {e : Env} {s : State} {m : MethodId} {args : Array Value} {below : List Frame} {meth : Method} {cd : Code} {G : xG} {w0 : xW} {rr : Int32} (hE : xE p s m args meth cd cX11_meet RX11 G 11 (Option.some Jvm.ClassFile.FieldType.int)) {u : xT} (kc99 : xT → Nat → Nat → Nat → Int32 → Int32 → Int32 → Int32 → Option Int32) (hc99 : ∀ {a0 : Nat} {y5 : Nat} {y6 : Nat} {y7 : Int32} {y8 : Int32} {y9 : Int32} {y10 : Int32} {H : Heap} {locs : List Loc} {ls : Array Slot} , tD G (xA w0 s.heap.size) s.heap u H locs → lv_has ls 11 [(0, .ref a0), (5, .ref y5), (6, .ref y6), (7, .int y7), (8, .int y8), (9, .int y9), (10, .int y10)] → kc99 u a0 y5 y6 y7 y8 y9 y10 = some rr → W p l e (xR 6 0 0) s m args below meth cd H locs 0 0 (xQi G w0 (fun r z => r = rr ∧ z = ((tE G u), u.1)) below args s 0 0) (F0 m 99 ls [])) {a0 : Nat} {y5 : Nat} {y6 : Nat} {y7 : Int32} {y8 : Int32} {y9 : Int32} {y10 : Int32} {H : Heap} {locs : List Loc} {ls : Array Slot} (hD : tD G (xA w0 s.heap.size) s.heap u H locs) (hl : lv_has ls 11 [(0, .ref a0), (5, .ref y5), (6, .ref y6), (7, .int y7), (8, .int y8), (9, .int y9), (10, .int y10)]) (hF : F_X11_meet_j141 kc99 u a0 y5 y6 y7 y8 y9 y10 = some rr) : W p l e (xR 6 0 0) s m args below meth cd H locs 0 0 (xQi G w0 (fun r z => r = rr ∧ z = ((tE G u), u.1)) below args s 0 0) (F0 m 141 ls []) := by
  have hx := hE.1; have hb := hE.2.1
  unfold F_X11_meet_j141 at hF
  refine lv_aload hx hb dX11_meet_141 (lv_at hl 1 rfl) ?_
  refine lv_iload hx hb dX11_meet_143 (lv_at hl 3 rfl) ?_
  obtain ⟨h1, hF⟩ := ite_s hF
  obtain ⟨r2, k3, hF⟩ := xb_s hF
  refine kB_X11_173 (rest := []) hE hl hD h1 k3 (Nat.le_of_ble_eq_true rfl) dX11_meet_145 ⟨Nat.le_of_ble_eq_true rfl, Nat.le_of_ble_eq_true rfl⟩ ⟨Nat.le_of_ble_eq_true rfl, Nat.le_of_ble_eq_true rfl⟩ (fun H locs (hD : tD G _ _ u H locs) => ?_)
  refine lv_istore (lv' := [(7, .int r2), (0, .ref a0), (5, .ref y5), (6, .ref y6), (8, .int y8), (9, .int y9), (10, .int y10)]) hx hb dX11_meet_148 hl (by decide) rfl (fun ls hl => ?_)
  refine lv_aload hx hb dX11_meet_150 (lv_at hl 3 rfl) ?_
  refine lv_iload hx hb dX11_meet_152 (lv_at hl 4 rfl) ?_
  obtain ⟨h4, hF⟩ := ite_s hF
  obtain ⟨r5, k6, hF⟩ := xb_s hF
  refine kB_X11_173 (rest := []) hE hl hD h4 k6 (Nat.le_of_ble_eq_true rfl) dX11_meet_154 ⟨Nat.le_of_ble_eq_true rfl, Nat.le_of_ble_eq_true rfl⟩ ⟨Nat.le_of_ble_eq_true rfl, Nat.le_of_ble_eq_true rfl⟩ (fun H locs (hD : tD G _ _ u H locs) => ?_)
  refine lv_istore (lv' := [(8, .int r5), (7, .int r2), (0, .ref a0), (5, .ref y5), (6, .ref y6), (9, .int y9), (10, .int y10)]) hx hb dX11_meet_157 hl (by decide) rfl (fun ls hl => ?_)
  obtain ⟨x7, ex7⟩ : ∃ y : Int32, y = y10 + (1 : Int32) := ⟨_, rfl⟩
  have hF := xlet_e hF ex7
  refine lv_iinc (v := x7) (lv' := [(10, .int x7), (8, .int r5), (7, .int r2), (0, .ref a0), (5, .ref y5), (6, .ref y6), (9, .int y9)]) hx hb dX11_meet_159 hl (k := 6) rfl (by rw [ex7]; rfl) (by decide) rfl (fun ls hl => ?_)
  refine lv_goto (tgt := 99) hx hb dX11_meet_162 (by decide) ?_
  exact hc99 hD (lv_sub hl [3, 4, 5, 2, 1, 6, 0] rfl) hF
def F_X11_meet_j138 (u : xT) (a0 : Nat) (y10 : Int32) : Option Int32 := some y10
theorem B_X11_meet_j138 {p : Program} {l : Launch} {e : Env} {s : State} {m : MethodId} {args : Array Value} {below : List Frame} {meth : Method} {cd : Code} {G : xG} {w0 : xW} {rr : Int32} (hE : xE p s m args meth cd cX11_meet RX11 G 11 (Option.some Jvm.ClassFile.FieldType.int)) {u : xT} {a0 : Nat} {y10 : Int32} {H : Heap} {locs : List Loc} {ls : Array Slot} (hD : tD G (xA w0 s.heap.size) s.heap u H locs) (hl : lv_has ls 11 [(0, .ref a0), (10, .int y10)]) (hF : F_X11_meet_j138 u a0 y10 = some rr) : W p l e (xR 6 0 0) s m args below meth cd H locs 0 0 (xQi G w0 (fun r z => r = rr ∧ z = ((tE G u), u.1)) below args s 0 0) (F0 m 138 ls []) := by
  have hx := hE.1; have hb := hE.2.1
  unfold F_X11_meet_j138 at hF
  refine lv_iload hx hb dX11_meet_138 (lv_at hl 1 rfl) ?_
  obtain rfl := Option.some.inj hF
  exact x_iret hE hD ⟨rfl, rfl⟩ (by omega) (by omega) dX11_meet_140
def F_X11_meet_l99 : Nat → xT → Nat → Nat → Nat → Int32 → Int32 → Int32 → Int32 → Option Int32
  | 0, _, _, _, _, _, _, _, _ => none
  | nn + 1, u, a0, y5, y6, y7, y8, y9, y10 => if (60 : Int32) < y10 then F_X11_meet_j165 u a0 else if y7 < 0 then F_X11_meet_j165 u a0 else if y8 < 0 then F_X11_meet_j165 u a0 else if y9 = 0 then if y8 < y7 then F_X11_meet_j141 (F_X11_meet_l99 nn) u a0 y5 y6 y7 y8 y9 y10 else F_X11_meet_j138 u a0 y10 else if y7 < y8 then F_X11_meet_j141 (F_X11_meet_l99 nn) u a0 y5 y6 y7 y8 y9 y10 else F_X11_meet_j138 u a0 y10
theorem L_X11_meet_l99 {p : Program} {l : Launch} {e : Env} {s : State} {m : MethodId} {args : Array Value} {below : List Frame} {meth : Method} {cd : Code} {G : xG} {w0 : xW} {rr : Int32} (hE : xE p s m args meth cd cX11_meet RX11 G 11 (Option.some Jvm.ClassFile.FieldType.int)) : ∀ (nn : Nat) {u : xT} {a0 : Nat} {y5 : Nat} {y6 : Nat} {y7 : Int32} {y8 : Int32} {y9 : Int32} {y10 : Int32} {H : Heap} {locs : List Loc} {ls : Array Slot} , tD G (xA w0 s.heap.size) s.heap u H locs → lv_has ls 11 [(0, .ref a0), (5, .ref y5), (6, .ref y6), (7, .int y7), (8, .int y8), (9, .int y9), (10, .int y10)] → F_X11_meet_l99 nn u a0 y5 y6 y7 y8 y9 y10 = some rr → W p l e (xR 6 0 0) s m args below meth cd H locs 0 0 (xQi G w0 (fun r z => r = rr ∧ z = ((tE G u), u.1)) below args s 0 0) (F0 m 99 ls []) := by
  have hx := hE.1; have hb := hE.2.1
  intro nn
  induction nn with
  | zero => intro u a0 y5 y6 y7 y8 y9 y10 H locs ls hD hl hF; rw [F_X11_meet_l99] at hF; cases hF
  | succ nn ih =>
    intro u a0 y5 y6 y7 y8 y9 y10 H locs ls hD hl hF
    rw [F_X11_meet_l99] at hF
    refine lv_iload hx hb dX11_meet_99 (lv_at hl 6 rfl) ?_
    refine lv_bipush (v := (60 : Int32)) hx hb dX11_meet_101 (by decide) ?_
    refine lv_icmp_gt (tgt := 165) hx hb dX11_meet_103 (by decide) (fun c8 => ?_) (fun c8 => ?_)
    · have hF := ite_p hF c8
      exact B_X11_meet_j165 hE hD (lv_sub hl [0] rfl) hF
    · have hF := ite_n hF c8
      refine lv_iload hx hb dX11_meet_106 (lv_at hl 3 rfl) ?_
      refine lv_if_lt (tgt := 165) hx hb dX11_meet_108 (by decide) (fun c9 => ?_) (fun c9 => ?_)
      · have hF := ite_p hF c9
        exact B_X11_meet_j165 hE hD (lv_sub hl [0] rfl) hF
      · have hF := ite_n hF c9
        refine lv_iload hx hb dX11_meet_111 (lv_at hl 4 rfl) ?_
        refine lv_if_lt (tgt := 165) hx hb dX11_meet_113 (by decide) (fun c10 => ?_) (fun c10 => ?_)
        · have hF := ite_p hF c10
          exact B_X11_meet_j165 hE hD (lv_sub hl [0] rfl) hF
        · have hF := ite_n hF c10
          refine lv_iload hx hb dX11_meet_116 (lv_at hl 5 rfl) ?_
          refine lv_if_eq (tgt := 131) hx hb dX11_meet_118 (by decide) (fun c11 => ?_) (fun c11 => ?_)
          · have hF := ite_p hF c11
            refine lv_iload hx hb dX11_meet_131 (lv_at hl 4 rfl) ?_
            refine lv_iload hx hb dX11_meet_133 (lv_at hl 3 rfl) ?_
            refine lv_icmp_lt (tgt := 141) hx hb dX11_meet_135 (by decide) (fun c12 => ?_) (fun c12 => ?_)
            · have hF := ite_p hF c12
              exact B_X11_meet_j141 hE (F_X11_meet_l99 nn) ih hD (lv_sub hl [0, 1, 2, 3, 4, 5, 6] rfl) hF
            · have hF := ite_n hF c12
              exact B_X11_meet_j138 hE hD (lv_sub hl [0, 6] rfl) hF
          · have hF := ite_n hF c11
            refine lv_iload hx hb dX11_meet_121 (lv_at hl 3 rfl) ?_
            refine lv_iload hx hb dX11_meet_123 (lv_at hl 4 rfl) ?_
            refine lv_icmp_lt (tgt := 141) hx hb dX11_meet_125 (by decide) (fun c13 => ?_) (fun c13 => ?_)
            · have hF := ite_p hF c13
              exact B_X11_meet_j141 hE (F_X11_meet_l99 nn) ih hD (lv_sub hl [0, 1, 2, 3, 4, 5, 6] rfl) hF
            · have hF := ite_n hF c13
              refine lv_goto (tgt := 138) hx hb dX11_meet_128 (by decide) ?_
              exact B_X11_meet_j138 hE hD (lv_sub hl [0, 6] rfl) hF
def F_X11_meet_j94 (u : xT) (a0 : Nat) (y5 : Nat) (y6 : Nat) (y7 : Int32) (y8 : Int32) (s0 : Int32) : Option Int32 := F_X11_meet_l99 xFuel u a0 y5 y6 y7 y8 s0 (0 : Int32)
theorem B_X11_meet_j94 {p : Program} {l : Launch} {e : Env} {s : State} {m : MethodId} {args : Array Value} {below : List Frame} {meth : Method} {cd : Code} {G : xG} {w0 : xW} {rr : Int32} (hE : xE p s m args meth cd cX11_meet RX11 G 11 (Option.some Jvm.ClassFile.FieldType.int)) {u : xT} {a0 : Nat} {y5 : Nat} {y6 : Nat} {y7 : Int32} {y8 : Int32} {s0 : Int32} {H : Heap} {locs : List Loc} {ls : Array Slot} (hD : tD G (xA w0 s.heap.size) s.heap u H locs) (hl : lv_has ls 11 [(0, .ref a0), (5, .ref y5), (6, .ref y6), (7, .int y7), (8, .int y8)]) (hF : F_X11_meet_j94 u a0 y5 y6 y7 y8 s0 = some rr) : W p l e (xR 6 0 0) s m args below meth cd H locs 0 0 (xQi G w0 (fun r z => r = rr ∧ z = ((tE G u), u.1)) below args s 0 0) (F0 m 94 ls [.int s0]) := by
  have hx := hE.1; have hb := hE.2.1
  unfold F_X11_meet_j94 at hF
  refine lv_istore (lv' := [(9, .int s0), (0, .ref a0), (5, .ref y5), (6, .ref y6), (7, .int y7), (8, .int y8)]) hx hb dX11_meet_94 hl (by decide) rfl (fun ls hl => ?_)
  refine lv_iconst (v := (0 : Int32)) hx hb dX11_meet_96 (by decide) ?_
  refine lv_istore (lv' := [(10, .int (0 : Int32)), (9, .int s0), (0, .ref a0), (5, .ref y5), (6, .ref y6), (7, .int y7), (8, .int y8)]) hx hb dX11_meet_97 hl (by decide) rfl (fun ls hl => ?_)
  exact L_X11_meet_l99 hE _ hD (lv_sub hl [2, 3, 4, 5, 6, 1, 0] rfl) hF
def F_X11_meet_j58 (u : xT) (a0 : Nat) : Option Int32 := some (-1 : Int32)
theorem B_X11_meet_j58 {p : Program} {l : Launch} {e : Env} {s : State} {m : MethodId} {args : Array Value} {below : List Frame} {meth : Method} {cd : Code} {G : xG} {w0 : xW} {rr : Int32} (hE : xE p s m args meth cd cX11_meet RX11 G 11 (Option.some Jvm.ClassFile.FieldType.int)) {u : xT} {a0 : Nat} {H : Heap} {locs : List Loc} {ls : Array Slot} (hD : tD G (xA w0 s.heap.size) s.heap u H locs) (hl : lv_has ls 11 [(0, .ref a0)]) (hF : F_X11_meet_j58 u a0 = some rr) : W p l e (xR 6 0 0) s m args below meth cd H locs 0 0 (xQi G w0 (fun r z => r = rr ∧ z = ((tE G u), u.1)) below args s 0 0) (F0 m 58 ls []) := by
  have hx := hE.1; have hb := hE.2.1
  unfold F_X11_meet_j58 at hF
  refine lv_iconst (v := (-1 : Int32)) hx hb dX11_meet_58 (by decide) ?_
  obtain rfl := Option.some.inj hF
  exact x_iret hE hD ⟨rfl, rfl⟩ (by omega) (by omega) dX11_meet_59
def F_X11_meet (u : xT) (a0 : Nat) (xa : Int32) (xb : Int32) (xc : Int32) (xd : Int32) : Option Int32 := if tK u a0 = 11 then (tP u a0 0).bind (fun q15 => if tK u q15 = 7 then (F_X7_bridgeAt u q15 xc).bind (fun r18 => xopt (r18) ((tP u a0 0).bind (fun q22 => if tK u q22 = 7 then (F_X7_bridgeAt u q22 xd).bind (fun r25 => xopt (r25) ((tP u a0 0).bind (fun q29 => if tK u q29 = 7 then (F_X7_isPerson u q29 xa).bind (fun r32 => if r32 = 0 then F_X11_meet_j58 u a0 else (tP u a0 0).bind (fun q36 => if tK u q36 = 7 then (F_X7_isPerson u q36 xb).bind (fun r39 => if r39 = 0 then F_X11_meet_j58 u a0 else if xa = xb then F_X11_meet_j58 u a0 else F_X11_meet_j58 u a0) else none)) else none)) (fun q27 => (tP u a0 0).bind (fun q44 => if tK u q44 = 7 then (F_X7_isPerson u q44 xa).bind (fun r47 => if r47 = 0 then F_X11_meet_j58 u a0 else (tP u a0 0).bind (fun q51 => if tK u q51 = 7 then (F_X7_isPerson u q51 xb).bind (fun r54 => if r54 = 0 then F_X11_meet_j58 u a0 else if xa = xb then F_X11_meet_j58 u a0 else F_X11_meet_j58 u a0) else none)) else none))) else none)) (fun q20 => (tP u a0 0).bind (fun q59 => if tK u q59 = 7 then (F_X7_bridgeAt u q59 xd).bind (fun r62 => xopt (r62) ((tP u a0 0).bind (fun q66 => if tK u q66 = 7 then (F_X7_isPerson u q66 xa).bind (fun r69 => if r69 = 0 then F_X11_meet_j58 u a0 else (tP u a0 0).bind (fun q73 => if tK u q73 = 7 then (F_X7_isPerson u q73 xb).bind (fun r76 => if r76 = 0 then F_X11_meet_j58 u a0 else if xa = xb then F_X11_meet_j58 u a0 else F_X11_meet_j58 u a0) else none)) else none)) (fun q64 => (tP u a0 0).bind (fun q81 => if tK u q81 = 7 then (F_X7_isPerson u q81 xa).bind (fun r84 => if r84 = 0 then F_X11_meet_j58 u a0 else (tP u a0 0).bind (fun q88 => if tK u q88 = 7 then (F_X7_isPerson u q88 xb).bind (fun r91 => if r91 = 0 then F_X11_meet_j58 u a0 else if xa = xb then F_X11_meet_j58 u a0 else (tP u a0 0).bind (fun q96 => if tK u q96 = 7 then (tP u q96 4).bind (fun q99 => if tK u q99 = 20 then if xIn xa (tN u q99) then xlet (tI u q99 xa.toNatClampNeg) (fun x103 => (tP u a0 0).bind (fun q104 => if tK u q104 = 7 then (tP u q104 4).bind (fun q107 => if tK u q107 = 20 then if xIn xb (tN u q107) then xlet (tI u q107 xb.toNatClampNeg) (fun x111 => if x111 < x103 then F_X11_meet_j94 u a0 q20 q64 x103 x111 (0 : Int32) else F_X11_meet_j94 u a0 q20 q64 x103 x111 (1 : Int32)) else none else none) else none)) else none else none) else none)) else none)) else none))) else none))) else none) else none
theorem c_X11_meet {l : Launch} {G : xG} {rr : Int32} {u : xT} {a0 : Nat} {xa : Int32} {xb : Int32} {xc : Int32} {xd : Int32} (hF : F_X11_meet u a0 xa xb xc xd = some rr) : xMi l G yX11_meet cX11_meet 11 (Option.some Jvm.ClassFile.FieldType.int) 6 0 0 [.ref a0, .int xa, .int xb, .int xc, .int xd] (tE G u) u.1 (fun r z => r = rr ∧ z = ((tE G u), u.1)) := by
  unfold F_X11_meet at hF
  refine x_startI rfl (Nat.le_of_ble_eq_true rfl) (fun p e s m args below meth cd ls hE hnm hl hD => ?_)
  have hx := hE.1; have hb := hE.2.1
  have hl : lv_has ls 11 [(0, .ref a0), (1, .int xa), (2, .int xb), (3, .int xc), (4, .int xd)] := hl
  have hD : tD G (xA (tE G u) s.heap.size) s.heap u s.heap [] := hD
  refine lv_aload_n hx hb dX11_meet_0 rfl (lv_at hl 0 rfl) ?_
  obtain ⟨h14, hF⟩ := ite_s hF
  obtain ⟨q15, h16, hF⟩ := xb_s hF
  refine gr_X11_10 hE hD h14 h16 dX11_meet_1 ?_
  refine lv_iload_n hx hb dX11_meet_4 rfl (lv_at hl 3 rfl) ?_
  obtain ⟨h17, hF⟩ := ite_s hF
  obtain ⟨r18, k19, hF⟩ := xb_s hF
  refine kVq (As := [.int xc]) (rest := []) hE hl hD (c_X7_bridgeAt k19) kl_X11_82 (tE_7 h17) rfl rfl rfl rfl (Nat.le_of_ble_eq_true rfl) dX11_meet_5 ⟨Nat.le_of_ble_eq_true rfl, Nat.le_of_ble_eq_true rfl⟩ ⟨Nat.le_of_ble_eq_true rfl, Nat.le_of_ble_eq_true rfl⟩ (fun H locs (hD : tD G _ _ u H locs) => ?_)
  refine t_split hF (fun h21 hF => ?_) (fun q20 h21 hF => ?_)
  · refine lv_astoreN (lv' := [(5, .null), (0, .ref a0), (1, .int xa), (2, .int xb), (3, .int xc), (4, .int xd)]) hx hb dX11_meet_8 hl (by decide) rfl (fun ls hl => ?_)
    refine lv_aload_n hx hb dX11_meet_10 rfl (lv_at hl 1 rfl) ?_
    obtain ⟨q22, h23, hF⟩ := xb_s hF
    refine gr_X11_10 hE hD h14 h23 dX11_meet_11 ?_
    refine lv_iload hx hb dX11_meet_14 (lv_at hl 5 rfl) ?_
    obtain ⟨h24, hF⟩ := ite_s hF
    obtain ⟨r25, k26, hF⟩ := xb_s hF
    refine kVq (As := [.int xd]) (rest := []) hE hl hD (c_X7_bridgeAt k26) kl_X11_82 (tE_7 h24) rfl rfl rfl rfl (Nat.le_of_ble_eq_true rfl) dX11_meet_16 ⟨Nat.le_of_ble_eq_true rfl, Nat.le_of_ble_eq_true rfl⟩ ⟨Nat.le_of_ble_eq_true rfl, Nat.le_of_ble_eq_true rfl⟩ (fun H locs (hD : tD G _ _ u H locs) => ?_)
    refine t_split hF (fun h28 hF => ?_) (fun q27 h28 hF => ?_)
    · refine lv_astoreN (lv' := [(6, .null), (5, .null), (0, .ref a0), (1, .int xa), (2, .int xb), (3, .int xc), (4, .int xd)]) hx hb dX11_meet_19 hl (by decide) rfl (fun ls hl => ?_)
      refine lv_aload_n hx hb dX11_meet_21 rfl (lv_at hl 2 rfl) ?_
      obtain ⟨q29, h30, hF⟩ := xb_s hF
      refine gr_X11_10 hE hD h14 h30 dX11_meet_22 ?_
      refine lv_iload_n hx hb dX11_meet_25 rfl (lv_at hl 3 rfl) ?_
      obtain ⟨h31, hF⟩ := ite_s hF
      obtain ⟨r32, k33, hF⟩ := xb_s hF
      refine kVz (As := [.int xa]) (rest := []) hE hl hD (c_X7_isPerson k33) kl_X11_161 (tE_7 h31) rfl rfl rfl rfl (Nat.le_of_ble_eq_true rfl) dX11_meet_26 ⟨Nat.le_of_ble_eq_true rfl, Nat.le_of_ble_eq_true rfl⟩ ⟨Nat.le_of_ble_eq_true rfl, Nat.le_of_ble_eq_true rfl⟩ (fun H locs z34 (hD : tD G _ _ u H locs) => ?_)
      refine lv_if_eq (tgt := 58) hx hb dX11_meet_29 (by decide) (fun c35 => ?_) (fun c35 => ?_)
      · have hF := ite_p hF c35
        exact B_X11_meet_j58 hE hD (lv_sub hl [2] rfl) hF
      · have hF := ite_n hF c35
        refine lv_aload_n hx hb dX11_meet_32 rfl (lv_at hl 2 rfl) ?_
        obtain ⟨q36, h37, hF⟩ := xb_s hF
        refine gr_X11_10 hE hD h14 h37 dX11_meet_33 ?_
        refine lv_iload_n hx hb dX11_meet_36 rfl (lv_at hl 4 rfl) ?_
        obtain ⟨h38, hF⟩ := ite_s hF
        obtain ⟨r39, k40, hF⟩ := xb_s hF
        refine kVz (As := [.int xb]) (rest := []) hE hl hD (c_X7_isPerson k40) kl_X11_161 (tE_7 h38) rfl rfl rfl rfl (Nat.le_of_ble_eq_true rfl) dX11_meet_37 ⟨Nat.le_of_ble_eq_true rfl, Nat.le_of_ble_eq_true rfl⟩ ⟨Nat.le_of_ble_eq_true rfl, Nat.le_of_ble_eq_true rfl⟩ (fun H locs z41 (hD : tD G _ _ u H locs) => ?_)
        refine lv_if_eq (tgt := 58) hx hb dX11_meet_40 (by decide) (fun c42 => ?_) (fun c42 => ?_)
        · have hF := ite_p hF c42
          exact B_X11_meet_j58 hE hD (lv_sub hl [2] rfl) hF
        · have hF := ite_n hF c42
          refine lv_iload_n hx hb dX11_meet_43 rfl (lv_at hl 3 rfl) ?_
          refine lv_iload_n hx hb dX11_meet_44 rfl (lv_at hl 4 rfl) ?_
          refine lv_icmp_eq (tgt := 58) hx hb dX11_meet_45 (by decide) (fun c43 => ?_) (fun c43 => ?_)
          · have hF := ite_p hF c43
            exact B_X11_meet_j58 hE hD (lv_sub hl [2] rfl) hF
          · have hF := ite_n hF c43
            refine lv_aloadN hx hb dX11_meet_48 (lv_at hl 1 rfl) ?_
            refine lv_ifnullN (tgt := 58) hx hb dX11_meet_50 (by decide) ?_
            exact B_X11_meet_j58 hE hD (lv_sub hl [2] rfl) hF
    · refine lv_astore (lv' := [(6, .ref q27), (5, .null), (0, .ref a0), (1, .int xa), (2, .int xb), (3, .int xc), (4, .int xd)]) hx hb dX11_meet_19 hl (by decide) rfl (fun ls hl => ?_)
      refine lv_aload_n hx hb dX11_meet_21 rfl (lv_at hl 2 rfl) ?_
      obtain ⟨q44, h45, hF⟩ := xb_s hF
      refine gr_X11_10 hE hD h14 h45 dX11_meet_22 ?_
      refine lv_iload_n hx hb dX11_meet_25 rfl (lv_at hl 3 rfl) ?_
      obtain ⟨h46, hF⟩ := ite_s hF
      obtain ⟨r47, k48, hF⟩ := xb_s hF
      refine kVz (As := [.int xa]) (rest := []) hE hl hD (c_X7_isPerson k48) kl_X11_161 (tE_7 h46) rfl rfl rfl rfl (Nat.le_of_ble_eq_true rfl) dX11_meet_26 ⟨Nat.le_of_ble_eq_true rfl, Nat.le_of_ble_eq_true rfl⟩ ⟨Nat.le_of_ble_eq_true rfl, Nat.le_of_ble_eq_true rfl⟩ (fun H locs z49 (hD : tD G _ _ u H locs) => ?_)
      refine lv_if_eq (tgt := 58) hx hb dX11_meet_29 (by decide) (fun c50 => ?_) (fun c50 => ?_)
      · have hF := ite_p hF c50
        exact B_X11_meet_j58 hE hD (lv_sub hl [2] rfl) hF
      · have hF := ite_n hF c50
        refine lv_aload_n hx hb dX11_meet_32 rfl (lv_at hl 2 rfl) ?_
        obtain ⟨q51, h52, hF⟩ := xb_s hF
        refine gr_X11_10 hE hD h14 h52 dX11_meet_33 ?_
        refine lv_iload_n hx hb dX11_meet_36 rfl (lv_at hl 4 rfl) ?_
        obtain ⟨h53, hF⟩ := ite_s hF
        obtain ⟨r54, k55, hF⟩ := xb_s hF
        refine kVz (As := [.int xb]) (rest := []) hE hl hD (c_X7_isPerson k55) kl_X11_161 (tE_7 h53) rfl rfl rfl rfl (Nat.le_of_ble_eq_true rfl) dX11_meet_37 ⟨Nat.le_of_ble_eq_true rfl, Nat.le_of_ble_eq_true rfl⟩ ⟨Nat.le_of_ble_eq_true rfl, Nat.le_of_ble_eq_true rfl⟩ (fun H locs z56 (hD : tD G _ _ u H locs) => ?_)
        refine lv_if_eq (tgt := 58) hx hb dX11_meet_40 (by decide) (fun c57 => ?_) (fun c57 => ?_)
        · have hF := ite_p hF c57
          exact B_X11_meet_j58 hE hD (lv_sub hl [2] rfl) hF
        · have hF := ite_n hF c57
          refine lv_iload_n hx hb dX11_meet_43 rfl (lv_at hl 3 rfl) ?_
          refine lv_iload_n hx hb dX11_meet_44 rfl (lv_at hl 4 rfl) ?_
          refine lv_icmp_eq (tgt := 58) hx hb dX11_meet_45 (by decide) (fun c58 => ?_) (fun c58 => ?_)
          · have hF := ite_p hF c58
            exact B_X11_meet_j58 hE hD (lv_sub hl [2] rfl) hF
          · have hF := ite_n hF c58
            refine lv_aloadN hx hb dX11_meet_48 (lv_at hl 1 rfl) ?_
            refine lv_ifnullN (tgt := 58) hx hb dX11_meet_50 (by decide) ?_
            exact B_X11_meet_j58 hE hD (lv_sub hl [2] rfl) hF
  · refine lv_astore (lv' := [(5, .ref q20), (0, .ref a0), (1, .int xa), (2, .int xb), (3, .int xc), (4, .int xd)]) hx hb dX11_meet_8 hl (by decide) rfl (fun ls hl => ?_)
    refine lv_aload_n hx hb dX11_meet_10 rfl (lv_at hl 1 rfl) ?_
    obtain ⟨q59, h60, hF⟩ := xb_s hF
    refine gr_X11_10 hE hD h14 h60 dX11_meet_11 ?_
    refine lv_iload hx hb dX11_meet_14 (lv_at hl 5 rfl) ?_
    obtain ⟨h61, hF⟩ := ite_s hF
    obtain ⟨r62, k63, hF⟩ := xb_s hF
    refine kVq (As := [.int xd]) (rest := []) hE hl hD (c_X7_bridgeAt k63) kl_X11_82 (tE_7 h61) rfl rfl rfl rfl (Nat.le_of_ble_eq_true rfl) dX11_meet_16 ⟨Nat.le_of_ble_eq_true rfl, Nat.le_of_ble_eq_true rfl⟩ ⟨Nat.le_of_ble_eq_true rfl, Nat.le_of_ble_eq_true rfl⟩ (fun H locs (hD : tD G _ _ u H locs) => ?_)
    refine t_split hF (fun h65 hF => ?_) (fun q64 h65 hF => ?_)
    · refine lv_astoreN (lv' := [(6, .null), (5, .ref q20), (0, .ref a0), (1, .int xa), (2, .int xb), (3, .int xc), (4, .int xd)]) hx hb dX11_meet_19 hl (by decide) rfl (fun ls hl => ?_)
      refine lv_aload_n hx hb dX11_meet_21 rfl (lv_at hl 2 rfl) ?_
      obtain ⟨q66, h67, hF⟩ := xb_s hF
      refine gr_X11_10 hE hD h14 h67 dX11_meet_22 ?_
      refine lv_iload_n hx hb dX11_meet_25 rfl (lv_at hl 3 rfl) ?_
      obtain ⟨h68, hF⟩ := ite_s hF
      obtain ⟨r69, k70, hF⟩ := xb_s hF
      refine kVz (As := [.int xa]) (rest := []) hE hl hD (c_X7_isPerson k70) kl_X11_161 (tE_7 h68) rfl rfl rfl rfl (Nat.le_of_ble_eq_true rfl) dX11_meet_26 ⟨Nat.le_of_ble_eq_true rfl, Nat.le_of_ble_eq_true rfl⟩ ⟨Nat.le_of_ble_eq_true rfl, Nat.le_of_ble_eq_true rfl⟩ (fun H locs z71 (hD : tD G _ _ u H locs) => ?_)
      refine lv_if_eq (tgt := 58) hx hb dX11_meet_29 (by decide) (fun c72 => ?_) (fun c72 => ?_)
      · have hF := ite_p hF c72
        exact B_X11_meet_j58 hE hD (lv_sub hl [2] rfl) hF
      · have hF := ite_n hF c72
        refine lv_aload_n hx hb dX11_meet_32 rfl (lv_at hl 2 rfl) ?_
        obtain ⟨q73, h74, hF⟩ := xb_s hF
        refine gr_X11_10 hE hD h14 h74 dX11_meet_33 ?_
        refine lv_iload_n hx hb dX11_meet_36 rfl (lv_at hl 4 rfl) ?_
        obtain ⟨h75, hF⟩ := ite_s hF
        obtain ⟨r76, k77, hF⟩ := xb_s hF
        refine kVz (As := [.int xb]) (rest := []) hE hl hD (c_X7_isPerson k77) kl_X11_161 (tE_7 h75) rfl rfl rfl rfl (Nat.le_of_ble_eq_true rfl) dX11_meet_37 ⟨Nat.le_of_ble_eq_true rfl, Nat.le_of_ble_eq_true rfl⟩ ⟨Nat.le_of_ble_eq_true rfl, Nat.le_of_ble_eq_true rfl⟩ (fun H locs z78 (hD : tD G _ _ u H locs) => ?_)
        refine lv_if_eq (tgt := 58) hx hb dX11_meet_40 (by decide) (fun c79 => ?_) (fun c79 => ?_)
        · have hF := ite_p hF c79
          exact B_X11_meet_j58 hE hD (lv_sub hl [2] rfl) hF
        · have hF := ite_n hF c79
          refine lv_iload_n hx hb dX11_meet_43 rfl (lv_at hl 3 rfl) ?_
          refine lv_iload_n hx hb dX11_meet_44 rfl (lv_at hl 4 rfl) ?_
          refine lv_icmp_eq (tgt := 58) hx hb dX11_meet_45 (by decide) (fun c80 => ?_) (fun c80 => ?_)
          · have hF := ite_p hF c80
            exact B_X11_meet_j58 hE hD (lv_sub hl [2] rfl) hF
          · have hF := ite_n hF c80
            refine lv_aload hx hb dX11_meet_48 (lv_at hl 1 rfl) ?_
            refine lv_ifnull hx hb dX11_meet_50 ?_
            refine lv_aloadN hx hb dX11_meet_53 (lv_at hl 0 rfl) ?_
            refine lv_ifnonnullN hx hb dX11_meet_55 ?_
            exact B_X11_meet_j58 hE hD (lv_sub hl [2] rfl) hF
    · refine lv_astore (lv' := [(6, .ref q64), (5, .ref q20), (0, .ref a0), (1, .int xa), (2, .int xb), (3, .int xc), (4, .int xd)]) hx hb dX11_meet_19 hl (by decide) rfl (fun ls hl => ?_)
      refine lv_aload_n hx hb dX11_meet_21 rfl (lv_at hl 2 rfl) ?_
      obtain ⟨q81, h82, hF⟩ := xb_s hF
      refine gr_X11_10 hE hD h14 h82 dX11_meet_22 ?_
      refine lv_iload_n hx hb dX11_meet_25 rfl (lv_at hl 3 rfl) ?_
      obtain ⟨h83, hF⟩ := ite_s hF
      obtain ⟨r84, k85, hF⟩ := xb_s hF
      refine kVz (As := [.int xa]) (rest := []) hE hl hD (c_X7_isPerson k85) kl_X11_161 (tE_7 h83) rfl rfl rfl rfl (Nat.le_of_ble_eq_true rfl) dX11_meet_26 ⟨Nat.le_of_ble_eq_true rfl, Nat.le_of_ble_eq_true rfl⟩ ⟨Nat.le_of_ble_eq_true rfl, Nat.le_of_ble_eq_true rfl⟩ (fun H locs z86 (hD : tD G _ _ u H locs) => ?_)
      refine lv_if_eq (tgt := 58) hx hb dX11_meet_29 (by decide) (fun c87 => ?_) (fun c87 => ?_)
      · have hF := ite_p hF c87
        exact B_X11_meet_j58 hE hD (lv_sub hl [2] rfl) hF
      · have hF := ite_n hF c87
        refine lv_aload_n hx hb dX11_meet_32 rfl (lv_at hl 2 rfl) ?_
        obtain ⟨q88, h89, hF⟩ := xb_s hF
        refine gr_X11_10 hE hD h14 h89 dX11_meet_33 ?_
        refine lv_iload_n hx hb dX11_meet_36 rfl (lv_at hl 4 rfl) ?_
        obtain ⟨h90, hF⟩ := ite_s hF
        obtain ⟨r91, k92, hF⟩ := xb_s hF
        refine kVz (As := [.int xb]) (rest := []) hE hl hD (c_X7_isPerson k92) kl_X11_161 (tE_7 h90) rfl rfl rfl rfl (Nat.le_of_ble_eq_true rfl) dX11_meet_37 ⟨Nat.le_of_ble_eq_true rfl, Nat.le_of_ble_eq_true rfl⟩ ⟨Nat.le_of_ble_eq_true rfl, Nat.le_of_ble_eq_true rfl⟩ (fun H locs z93 (hD : tD G _ _ u H locs) => ?_)
        refine lv_if_eq (tgt := 58) hx hb dX11_meet_40 (by decide) (fun c94 => ?_) (fun c94 => ?_)
        · have hF := ite_p hF c94
          exact B_X11_meet_j58 hE hD (lv_sub hl [2] rfl) hF
        · have hF := ite_n hF c94
          refine lv_iload_n hx hb dX11_meet_43 rfl (lv_at hl 3 rfl) ?_
          refine lv_iload_n hx hb dX11_meet_44 rfl (lv_at hl 4 rfl) ?_
          refine lv_icmp_eq (tgt := 58) hx hb dX11_meet_45 (by decide) (fun c95 => ?_) (fun c95 => ?_)
          · have hF := ite_p hF c95
            exact B_X11_meet_j58 hE hD (lv_sub hl [2] rfl) hF
          · have hF := ite_n hF c95
            refine lv_aload hx hb dX11_meet_48 (lv_at hl 1 rfl) ?_
            refine lv_ifnull hx hb dX11_meet_50 ?_
            refine lv_aload hx hb dX11_meet_53 (lv_at hl 0 rfl) ?_
            refine lv_ifnonnull (tgt := 60) hx hb dX11_meet_55 (by decide) ?_
            refine lv_aload_n hx hb dX11_meet_60 rfl (lv_at hl 2 rfl) ?_
            obtain ⟨q96, h97, hF⟩ := xb_s hF
            refine gr_X11_10 hE hD h14 h97 dX11_meet_61 ?_
            obtain ⟨h98, hF⟩ := ite_s hF
            obtain ⟨q99, h100, hF⟩ := xb_s hF
            refine gr_X11_164 hE hD h98 h100 dX11_meet_64 ?_
            refine lv_iload_n hx hb dX11_meet_67 rfl (lv_at hl 3 rfl) ?_
            obtain ⟨h101, hF⟩ := ite_s hF
            obtain ⟨h102, hF⟩ := ite_s hF
            refine t_iald hE hD h101 h102 dX11_meet_68 ?_
            refine lv_topi (fun x103 ex103 => ?_)
            have hF := xlet_e hF ex103
            refine lv_istore (lv' := [(7, .int x103), (6, .ref q64), (5, .ref q20), (0, .ref a0), (1, .int xa), (2, .int xb), (3, .int xc), (4, .int xd)]) hx hb dX11_meet_69 hl (by decide) rfl (fun ls hl => ?_)
            refine lv_aload_n hx hb dX11_meet_71 rfl (lv_at hl 3 rfl) ?_
            obtain ⟨q104, h105, hF⟩ := xb_s hF
            refine gr_X11_10 hE hD h14 h105 dX11_meet_72 ?_
            obtain ⟨h106, hF⟩ := ite_s hF
            obtain ⟨q107, h108, hF⟩ := xb_s hF
            refine gr_X11_164 hE hD h106 h108 dX11_meet_75 ?_
            refine lv_iload_n hx hb dX11_meet_78 rfl (lv_at hl 5 rfl) ?_
            obtain ⟨h109, hF⟩ := ite_s hF
            obtain ⟨h110, hF⟩ := ite_s hF
            refine t_iald hE hD h109 h110 dX11_meet_79 ?_
            refine lv_topi (fun x111 ex111 => ?_)
            have hF := xlet_e hF ex111
            refine lv_istore (lv' := [(8, .int x111), (7, .int x103), (6, .ref q64), (5, .ref q20), (0, .ref a0), (1, .int xa), (2, .int xb), (3, .int xc), (4, .int xd)]) hx hb dX11_meet_80 hl (by decide) rfl (fun ls hl => ?_)
            refine lv_iload hx hb dX11_meet_82 (lv_at hl 1 rfl) ?_
            refine lv_iload hx hb dX11_meet_84 (lv_at hl 0 rfl) ?_
            refine lv_icmp_gt (tgt := 93) hx hb dX11_meet_86 (by decide) (fun c112 => ?_) (fun c112 => ?_)
            · have hF := ite_p hF c112
              refine lv_iconst (v := (0 : Int32)) hx hb dX11_meet_93 (by decide) ?_
              exact B_X11_meet_j94 hE hD (lv_sub hl [4, 3, 2, 1, 0] rfl) hF
            · have hF := ite_n hF c112
              refine lv_iconst (v := (1 : Int32)) hx hb dX11_meet_89 (by decide) ?_
              refine lv_goto (tgt := 94) hx hb dX11_meet_90 (by decide) ?_
              exact B_X11_meet_j94 hE hD (lv_sub hl [4, 3, 2, 1, 0] rfl) hF
def F_X11_tale_j20 (u : xT) (a0 : Nat) : Option (Int32 × xT) := some ((-1 : Int32), u)
theorem B_X11_tale_j20 {p : Program} {l : Launch} {e : Env} {s : State} {m : MethodId} {args : Array Value} {below : List Frame} {meth : Method} {cd : Code} {G : xG} {w0 : xW} {rr : (Int32 × xT)} (hE : xE p s m args meth cd cX11_tale RX11 G 3 (Option.some Jvm.ClassFile.FieldType.int)) {u : xT} {a0 : Nat} {H : Heap} {locs : List Loc} {ls : Array Slot} (hD : tD G (xA w0 s.heap.size) s.heap u H locs) (hl : lv_has ls 3 [(0, .ref a0)]) (hF : F_X11_tale_j20 u a0 = some rr) : W p l e (xR 3 0 0) s m args below meth cd H locs 0 0 (xQi G w0 (fun r z => r = rr.1 ∧ z = ((tE G rr.2), rr.2.1)) below args s 0 0) (F0 m 20 ls []) := by
  have hx := hE.1; have hb := hE.2.1
  unfold F_X11_tale_j20 at hF
  refine lv_iconst (v := (-1 : Int32)) hx hb dX11_tale_20 (by decide) ?_
  obtain rfl := Option.some.inj hF
  exact x_iret hE hD ⟨rfl, rfl⟩ (by omega) (by omega) dX11_tale_21
def F_X11_tale (u : xT) (a0 : Nat) (xa : Int32) (xb : Int32) : Option (Int32 × xT) := (F_X11_isIn xa (0 : Int32) (99999 : Int32)).bind (fun r1 => if r1 = 0 then F_X11_tale_j20 u a0 else (F_X11_isIn xb (0 : Int32) (99999 : Int32)).bind (fun r5 => if r5 = 0 then F_X11_tale_j20 u a0 else if tK u a0 = 11 then (tP u a0 0).bind (fun q10 => if tK u q10 = 7 then (F_X7_hear u q10 xa xb).bind (fun r13 => some (r13.1, r13.2)) else none) else none))
theorem c_X11_tale {l : Launch} {G : xG} {rr : (Int32 × xT)} {u : xT} {a0 : Nat} {xa : Int32} {xb : Int32} (hF : F_X11_tale u a0 xa xb = some rr) : xMi l G yX11_tale cX11_tale 3 (Option.some Jvm.ClassFile.FieldType.int) 3 0 0 [.ref a0, .int xa, .int xb] (tE G u) u.1 (fun r z => r = rr.1 ∧ z = ((tE G rr.2), rr.2.1)) := by
  unfold F_X11_tale at hF
  refine x_startI rfl (Nat.le_of_ble_eq_true rfl) (fun p e s m args below meth cd ls hE hnm hl hD => ?_)
  have hx := hE.1; have hb := hE.2.1
  have hl : lv_has ls 3 [(0, .ref a0), (1, .int xa), (2, .int xb)] := hl
  have hD : tD G (xA (tE G u) s.heap.size) s.heap u s.heap [] := hD
  refine lv_iload_n hx hb dX11_tale_0 rfl (lv_at hl 1 rfl) ?_
  refine lv_iconst (v := (0 : Int32)) hx hb dX11_tale_1 (by decide) ?_
  refine lv_ldc (v := (99999 : Int32)) hx hb hE.2.2.1 (hE.2.2.2.1 _ kw4_13) dX11_tale_2 ?_
  obtain ⟨r1, k2, hF⟩ := xb_s hF
  refine kSz (As := [.int xa, .int (0 : Int32), .int (99999 : Int32)]) (rest := []) hE hl hD (c_X11_isIn k2) kl_X11_183 rfl rfl (Nat.le_of_ble_eq_true rfl) dX11_tale_4 ⟨Nat.le_of_ble_eq_true rfl, Nat.le_of_ble_eq_true rfl⟩ ⟨Nat.le_of_ble_eq_true rfl, Nat.le_of_ble_eq_true rfl⟩ (fun H locs z3 (hD : tD G _ _ u H locs) => ?_)
  refine lv_if_eq (tgt := 20) hx hb dX11_tale_7 (by decide) (fun c4 => ?_) (fun c4 => ?_)
  · have hF := ite_p hF c4
    exact B_X11_tale_j20 hE hD (lv_sub hl [0] rfl) hF
  · have hF := ite_n hF c4
    refine lv_iload_n hx hb dX11_tale_10 rfl (lv_at hl 2 rfl) ?_
    refine lv_iconst (v := (0 : Int32)) hx hb dX11_tale_11 (by decide) ?_
    refine lv_ldc (v := (99999 : Int32)) hx hb hE.2.2.1 (hE.2.2.2.1 _ kw4_13) dX11_tale_12 ?_
    obtain ⟨r5, k6, hF⟩ := xb_s hF
    refine kSz (As := [.int xb, .int (0 : Int32), .int (99999 : Int32)]) (rest := []) hE hl hD (c_X11_isIn k6) kl_X11_183 rfl rfl (Nat.le_of_ble_eq_true rfl) dX11_tale_14 ⟨Nat.le_of_ble_eq_true rfl, Nat.le_of_ble_eq_true rfl⟩ ⟨Nat.le_of_ble_eq_true rfl, Nat.le_of_ble_eq_true rfl⟩ (fun H locs z7 (hD : tD G _ _ u H locs) => ?_)
    refine lv_if_ne (tgt := 22) hx hb dX11_tale_17 (by decide) (fun c8 => ?_) (fun c8 => ?_)
    · have hF := ite_n hF c8
      refine lv_aload_n hx hb dX11_tale_22 rfl (lv_at hl 0 rfl) ?_
      obtain ⟨h9, hF⟩ := ite_s hF
      obtain ⟨q10, h11, hF⟩ := xb_s hF
      refine gr_X11_10 hE hD h9 h11 dX11_tale_23 ?_
      refine lv_iload_n hx hb dX11_tale_26 rfl (lv_at hl 1 rfl) ?_
      refine lv_iload_n hx hb dX11_tale_27 rfl (lv_at hl 2 rfl) ?_
      obtain ⟨h12, hF⟩ := ite_s hF
      obtain ⟨r13, k14, hF⟩ := xb_s hF
      refine kVi (As := [.int xa, .int xb]) (rest := []) hE hl hD (c_X7_hear k14) kl_X11_248 (tE_7 h12) rfl rfl rfl rfl (Nat.le_of_ble_eq_true rfl) dX11_tale_28 ⟨Nat.le_of_ble_eq_true rfl, Nat.le_of_ble_eq_true rfl⟩ ⟨Nat.le_of_ble_eq_true rfl, Nat.le_of_ble_eq_true rfl⟩ (fun H locs (hD : tD G _ _ r13.2 H locs) => ?_)
      obtain rfl := Option.some.inj hF
      exact x_iret hE hD ⟨rfl, rfl⟩ (by omega) (by omega) dX11_tale_31
    · have hF := ite_p hF c8
      exact B_X11_tale_j20 hE hD (lv_sub hl [0] rfl) hF
def F_X11_forget (u : xT) (a0 : Nat) : Option (Int32 × xT) := if tK u a0 = 11 then (tP u a0 0).bind (fun q2 => if tK u q2 = 7 then xlet (tI u q2 10) (fun x5 => (tP u a0 0).bind (fun q6 => if tK u q6 = 7 then xlet (tSI u q6 10 (0 : Int32)) (fun t9 => some (x5, t9)) else none)) else none) else none
theorem c_X11_forget {l : Launch} {G : xG} {rr : (Int32 × xT)} {u : xT} {a0 : Nat} (hF : F_X11_forget u a0 = some rr) : xMi l G yX11_forget cX11_forget 2 (Option.some Jvm.ClassFile.FieldType.int) 2 0 0 [.ref a0] (tE G u) u.1 (fun r z => r = rr.1 ∧ z = ((tE G rr.2), rr.2.1)) := by
  unfold F_X11_forget at hF
  refine x_startI rfl (Nat.le_of_ble_eq_true rfl) (fun p e s m args below meth cd ls hE hnm hl hD => ?_)
  have hx := hE.1; have hb := hE.2.1
  have hl : lv_has ls 2 [(0, .ref a0)] := hl
  have hD : tD G (xA (tE G u) s.heap.size) s.heap u s.heap [] := hD
  refine lv_aload_n hx hb dX11_forget_0 rfl (lv_at hl 0 rfl) ?_
  obtain ⟨h1, hF⟩ := ite_s hF
  obtain ⟨q2, h3, hF⟩ := xb_s hF
  refine gr_X11_10 hE hD h1 h3 dX11_forget_1 ?_
  obtain ⟨h4, hF⟩ := ite_s hF
  refine gf_X11_251 hE hD h4 dX11_forget_4 ?_
  refine lv_topi (fun x5 ex5 => ?_)
  have hF := xlet_e hF ex5
  refine lv_istore_n (lv' := [(1, .int x5), (0, .ref a0)]) hx hb dX11_forget_7 rfl hl (by decide) rfl (fun ls hl => ?_)
  refine lv_aload_n hx hb dX11_forget_8 rfl (lv_at hl 1 rfl) ?_
  obtain ⟨q6, h7, hF⟩ := xb_s hF
  refine gr_X11_10 hE hD h1 h7 dX11_forget_9 ?_
  refine lv_iconst (v := (0 : Int32)) hx hb dX11_forget_12 (by decide) ?_
  obtain ⟨h8, hF⟩ := ite_s hF
  refine pf_X11_251 hE hD h8 dX11_forget_13 (fun t9 H locs et9 hD => ?_)
  have hF := xlet_e hF et9
  have h10 : tK t9 a0 = 11 := by rw [et9]; exact h1
  have h11 : tK t9 q2 = 7 := by rw [et9]; exact h4
  have h12 : tK t9 q6 = 7 := by rw [et9]; exact h8
  refine lv_iload_n hx hb dX11_forget_16 rfl (lv_at hl 0 rfl) ?_
  obtain rfl := Option.some.inj hF
  exact x_iret hE hD ⟨rfl, rfl⟩ (by omega) (by omega) dX11_forget_17
def F_X11_isGuessed_j20 (s0 : Int32) : Option Int32 := if s0 = 0 ∨ s0 = 1 then some s0 else none
theorem B_X11_isGuessed_j20 {p : Program} {l : Launch} {e : Env} {s : State} {m : MethodId} {args : Array Value} {below : List Frame} {meth : Method} {cd : Code} {G : xG} {w0 : xW} {w : xW} {sz : Nat} {rr : Int32} (hE : xE p s m args meth cd cX11_isGuessed RX11 G 1 (Option.some Jvm.ClassFile.FieldType.boolean)) {s0 : Int32} {H : Heap} {locs : List Loc} {ls : Array Slot} (hD : xD G (xA w0 s.heap.size) s.heap w sz H locs) (hl : lv_has ls 1 []) (hF : F_X11_isGuessed_j20 s0 = some rr) : W p l e (xR 2 0 0) s m args below meth cd H locs 0 0 (xQi G w0 (fun r z => r = rr ∧ (rr = 0 ∨ rr = 1) ∧ z = (w, sz)) below args s 0 0) (F0 m 20 ls [.int s0]) := by
  have hx := hE.1; have hb := hE.2.1
  unfold F_X11_isGuessed_j20 at hF
  obtain ⟨h1, hF⟩ := ite_s hF
  obtain rfl := Option.some.inj hF
  exact x_zret hE hD h1 ⟨rfl, h1, rfl⟩ (by omega) (by omega) dX11_isGuessed_20
def F_X11_isGuessed_j15  : Option Int32 := F_X11_isGuessed_j20 (1 : Int32)
theorem B_X11_isGuessed_j15 {p : Program} {l : Launch} {e : Env} {s : State} {m : MethodId} {args : Array Value} {below : List Frame} {meth : Method} {cd : Code} {G : xG} {w0 : xW} {w : xW} {sz : Nat} {rr : Int32} (hE : xE p s m args meth cd cX11_isGuessed RX11 G 1 (Option.some Jvm.ClassFile.FieldType.boolean))  {H : Heap} {locs : List Loc} {ls : Array Slot} (hD : xD G (xA w0 s.heap.size) s.heap w sz H locs) (hl : lv_has ls 1 []) (hF : F_X11_isGuessed_j15  = some rr) : W p l e (xR 2 0 0) s m args below meth cd H locs 0 0 (xQi G w0 (fun r z => r = rr ∧ (rr = 0 ∨ rr = 1) ∧ z = (w, sz)) below args s 0 0) (F0 m 15 ls []) := by
  have hx := hE.1; have hb := hE.2.1
  unfold F_X11_isGuessed_j15 at hF
  refine lv_iconst (v := (1 : Int32)) hx hb dX11_isGuessed_15 (by decide) ?_
  refine lv_goto (tgt := 20) hx hb dX11_isGuessed_16 (by decide) ?_
  exact B_X11_isGuessed_j20 hE hD (lv_sub hl [] rfl) hF
def F_X11_isGuessed (xa : Int32) : Option Int32 := if xa = (1 : Int32) then F_X11_isGuessed_j15 else if xa = (2 : Int32) then F_X11_isGuessed_j15 else if xa = (4 : Int32) then F_X11_isGuessed_j15 else F_X11_isGuessed_j20 (0 : Int32)
theorem c_X11_isGuessed {l : Launch} {G : xG} {w : xW} {sz : Nat} {rr : Int32} {xa : Int32} (hF : F_X11_isGuessed xa = some rr) : xMi l G yX11_isGuessed cX11_isGuessed 1 (Option.some Jvm.ClassFile.FieldType.boolean) 2 0 0 [.int xa] w sz (fun r z => r = rr ∧ (rr = 0 ∨ rr = 1) ∧ z = (w, sz)) := by
  unfold F_X11_isGuessed at hF
  refine x_startI rfl (Nat.le_of_ble_eq_true rfl) (fun p e s m args below meth cd ls hE hnm hl hD => ?_)
  have hx := hE.1; have hb := hE.2.1
  have hl : lv_has ls 1 [(0, .int xa)] := hl
  refine lv_iload_n hx hb dX11_isGuessed_0 rfl (lv_at hl 0 rfl) ?_
  refine lv_iconst (v := (1 : Int32)) hx hb dX11_isGuessed_1 (by decide) ?_
  refine lv_icmp_eq (tgt := 15) hx hb dX11_isGuessed_2 (by decide) (fun c2 => ?_) (fun c2 => ?_)
  · have hF := ite_p hF c2
    exact B_X11_isGuessed_j15 hE hD (lv_sub hl [] rfl) hF
  · have hF := ite_n hF c2
    refine lv_iload_n hx hb dX11_isGuessed_5 rfl (lv_at hl 0 rfl) ?_
    refine lv_iconst (v := (2 : Int32)) hx hb dX11_isGuessed_6 (by decide) ?_
    refine lv_icmp_eq (tgt := 15) hx hb dX11_isGuessed_7 (by decide) (fun c3 => ?_) (fun c3 => ?_)
    · have hF := ite_p hF c3
      exact B_X11_isGuessed_j15 hE hD (lv_sub hl [] rfl) hF
    · have hF := ite_n hF c3
      refine lv_iload_n hx hb dX11_isGuessed_10 rfl (lv_at hl 0 rfl) ?_
      refine lv_iconst (v := (4 : Int32)) hx hb dX11_isGuessed_11 (by decide) ?_
      refine lv_icmp_ne (tgt := 19) hx hb dX11_isGuessed_12 (by decide) (fun c4 => ?_) (fun c4 => ?_)
      · have hF := ite_n hF c4
        refine lv_iconst (v := (0 : Int32)) hx hb dX11_isGuessed_19 (by decide) ?_
        exact B_X11_isGuessed_j20 hE hD (lv_sub hl [] rfl) hF
      · have hF := ite_p hF c4
        exact B_X11_isGuessed_j15 hE hD (lv_sub hl [] rfl) hF
theorem ku_X11_257_1 : xLU RX11 RX1 "DoubledBridge$Bridge" 257 ⟨"DoubledBridge$Bridge", "suppose", "(II)V"⟩ yX0_suppose cX0_suppose 3 (Option.none : Option Jvm.ClassFile.FieldType) 2 := ⟨List.forall_mem_cons.mpr ⟨kw4_174, List.forall_mem_cons.mpr ⟨kw4_176, List.forall_mem_cons.mpr ⟨kw4_177, List.forall_mem_cons.mpr ⟨kw4_175, List.forall_mem_cons.mpr ⟨kw1_6, List.forall_mem_cons.mpr ⟨kw4_182, fun _ h => absurd h List.not_mem_nil⟩⟩⟩⟩⟩⟩, Or.inl rfl, by decide, by decide, by decide +kernel⟩
theorem ku_X11_257_4 : xLU RX11 RX4 "DoubledBridge$Bridge" 257 ⟨"DoubledBridge$Bridge", "suppose", "(II)V"⟩ yX0_suppose cX0_suppose 3 (Option.none : Option Jvm.ClassFile.FieldType) 2 := ⟨List.forall_mem_cons.mpr ⟨kw4_174, List.forall_mem_cons.mpr ⟨kw4_176, List.forall_mem_cons.mpr ⟨kw4_178, List.forall_mem_cons.mpr ⟨kw4_175, List.forall_mem_cons.mpr ⟨kw1_6, List.forall_mem_cons.mpr ⟨kw4_182, fun _ h => absurd h List.not_mem_nil⟩⟩⟩⟩⟩⟩, Or.inl rfl, by decide, by decide, by decide +kernel⟩
theorem ku_X11_257_5 : xLU RX11 RX5 "DoubledBridge$Bridge" 257 ⟨"DoubledBridge$Bridge", "suppose", "(II)V"⟩ yX0_suppose cX0_suppose 3 (Option.none : Option Jvm.ClassFile.FieldType) 2 := ⟨List.forall_mem_cons.mpr ⟨kw4_174, List.forall_mem_cons.mpr ⟨kw4_176, List.forall_mem_cons.mpr ⟨kw4_179, List.forall_mem_cons.mpr ⟨kw4_175, List.forall_mem_cons.mpr ⟨kw1_6, List.forall_mem_cons.mpr ⟨kw4_182, fun _ h => absurd h List.not_mem_nil⟩⟩⟩⟩⟩⟩, Or.inl rfl, by decide, by decide, by decide +kernel⟩
theorem ku_X11_257_6 : xLU RX11 RX6 "DoubledBridge$Bridge" 257 ⟨"DoubledBridge$Bridge", "suppose", "(II)V"⟩ yX0_suppose cX0_suppose 3 (Option.none : Option Jvm.ClassFile.FieldType) 2 := ⟨List.forall_mem_cons.mpr ⟨kw4_174, List.forall_mem_cons.mpr ⟨kw4_176, List.forall_mem_cons.mpr ⟨kw4_180, List.forall_mem_cons.mpr ⟨kw4_175, List.forall_mem_cons.mpr ⟨kw1_6, List.forall_mem_cons.mpr ⟨kw4_182, fun _ h => absurd h List.not_mem_nil⟩⟩⟩⟩⟩⟩, Or.inl rfl, by decide, by decide, by decide +kernel⟩
theorem ku_X11_257_9 : xLU RX11 RX9 "DoubledBridge$Bridge" 257 ⟨"DoubledBridge$Bridge", "suppose", "(II)V"⟩ yX0_suppose cX0_suppose 3 (Option.none : Option Jvm.ClassFile.FieldType) 2 := ⟨List.forall_mem_cons.mpr ⟨kw4_174, List.forall_mem_cons.mpr ⟨kw4_176, List.forall_mem_cons.mpr ⟨kw4_181, List.forall_mem_cons.mpr ⟨kw4_175, List.forall_mem_cons.mpr ⟨kw1_6, List.forall_mem_cons.mpr ⟨kw4_182, fun _ h => absurd h List.not_mem_nil⟩⟩⟩⟩⟩⟩, Or.inl rfl, by decide, by decide, by decide +kernel⟩
theorem kB_X11_257 {p : Program} {l : Launch} {e : Env} {R : Room} {s : State} {m : MethodId} {args : Array Value} {below : List Frame} {meth : Method} {c : Code} {H : Heap} {locs : List Loc} {cells slots : Nat} {Q : State → Prop} {cc : ByteArray} {pc : Nat} {ls : Array Slot} {rest : List Value} {G : xG} {A : Nat → Prop} {a nL : Nat} {H0 : Heap} {ret : Option FieldType} {t : xT} {lv : List (Nat × Value)} (hE : xE p s m args meth c cc RX11 G nL ret) (hl : lv_has ls nL lv) (hD : tD G A H0 t H locs) (hk : isBk (tK t a)) {xa : Int32} {xb : Int32} {v : xT} (hF : F_X0_suppose t a xa xb = some v) (hr : (rest.map fun v => v.category).sum ≤ 8) (hdg : decode cc pc = .ok (.invokevirtual 257, 3)) (hR : 2 + 1 ≤ R.frames ∧ 8 + (3 + 11) + 40 * 2 ≤ R.locals) (hR2 : cells ≤ R.cells ∧ slots ≤ R.slots) (kk : ∀ (H1 : Heap) (locs1 : List Loc), tD G A H0 v H1 locs1 → W p l e R s m args below meth c H1 locs1 cells slots Q (F0 m (pc + 3) ls (rest))) : W p l e R s m args below meth c H locs cells slots Q (F0 m pc ls (.int xb :: .int xa :: .ref a :: rest)) := by
  rcases hk with h | h | h | h | h
  · exact kUv (As := [.int xa, .int xb]) (rest := rest) hE hl hD (c_X0_suppose hF) ku_X11_257_1 (tE_1 h) rfl rfl rfl rfl hr hdg ⟨by have := hR.1; omega, by have := hR.2; omega⟩ hR2 kk
  · exact kUv (As := [.int xa, .int xb]) (rest := rest) hE hl hD (c_X0_suppose hF) ku_X11_257_4 (tE_4 h) rfl rfl rfl rfl hr hdg ⟨by have := hR.1; omega, by have := hR.2; omega⟩ hR2 kk
  · exact kUv (As := [.int xa, .int xb]) (rest := rest) hE hl hD (c_X0_suppose hF) ku_X11_257_5 (tE_5 h) rfl rfl rfl rfl hr hdg ⟨by have := hR.1; omega, by have := hR.2; omega⟩ hR2 kk
  · exact kUv (As := [.int xa, .int xb]) (rest := rest) hE hl hD (c_X0_suppose hF) ku_X11_257_6 (tE_6 h) rfl rfl rfl rfl hr hdg ⟨by have := hR.1; omega, by have := hR.2; omega⟩ hR2 kk
  · exact kUv (As := [.int xa, .int xb]) (rest := rest) hE hl hD (c_X0_suppose hF) ku_X11_257_9 (tE_9 h) rfl rfl rfl rfl hr hdg ⟨by have := hR.1; omega, by have := hR.2; omega⟩ hR2 kk
def F_X11_fits_j117 (u : xT) (a0 : Nat) (s0 : Int32) : Option (Int32 × xT) := some (s0, u)
theorem B_X11_fits_j117 {p : Program} {l : Launch} {e : Env} {s : State} {m : MethodId} {args : Array Value} {below : List Frame} {meth : Method} {cd : Code} {G : xG} {w0 : xW} {rr : (Int32 × xT)} (hE : xE p s m args meth cd cX11_fits RX11 G 7 (Option.some Jvm.ClassFile.FieldType.int)) {u : xT} {a0 : Nat} {s0 : Int32} {H : Heap} {locs : List Loc} {ls : Array Slot} {cells slots : Nat} (hcc : cells + 0 ≤ 1) (hkk : slots + 0 ≤ 8) (hD : tD G (xA w0 s.heap.size) s.heap u H locs) (hl : lv_has ls 7 [(0, .ref a0)]) (hF : F_X11_fits_j117 u a0 s0 = some rr) : W p l e (xR 7 1 8) s m args below meth cd H locs cells slots (xQi G w0 (fun r z => r = rr.1 ∧ z = ((tE G rr.2), rr.2.1)) below args s 1 8) (F0 m 117 ls [.int s0]) := by
  have hx := hE.1; have hb := hE.2.1
  unfold F_X11_fits_j117 at hF
  obtain rfl := Option.some.inj hF
  exact x_iret hE hD ⟨rfl, rfl⟩ (by omega) (by omega) dX11_fits_117
def F_X11_fits_j94 (kc33 : xT → Nat → Int32 → (Option Nat) → Int32 → Int32 → Option (Int32 × xT)) (kc43 : xT → Nat → Int32 → (Option Nat) → Int32 → Int32 → Int32 → Option (Int32 × xT)) (u : xT) (a0 : Nat) (y2 : Int32) (o3 : Option Nat) (y4 : Int32) (y5 : Int32) (y6 : Int32) : Option (Int32 × xT) := xopt o3 (xlet (y6 + (1 : Int32)) (fun x3 => kc43 u a0 y2 none y4 y5 x3)) (fun q1 => xlet (y6 + (1 : Int32)) (fun x4 => kc43 u a0 y2 (some q1) y4 y5 x4))
theorem B_X11_fits_j94 {p : Program} {l : Launch} {e : Env} {s : State} {m : MethodId} {args : Array Value} {below : List Frame} {meth : Method} {cd : Code} {G : xG} {w0 : xW} {rr : (Int32 × xT)} (hE : xE p s m args meth cd cX11_fits RX11 G 7 (Option.some Jvm.ClassFile.FieldType.int)) {u : xT} (kc33 : xT → Nat → Int32 → (Option Nat) → Int32 → Int32 → Option (Int32 × xT)) (hc33 : ∀ {u1 : xT} {a0 : Nat} {y2 : Int32} {o3 : Option Nat} {y4 : Int32} {y5 : Int32} {H : Heap} {locs : List Loc} {ls : Array Slot} {cells slots : Nat}, cells + 0 ≤ 1 → slots + 0 ≤ 8 → tD G (xA w0 s.heap.size) s.heap u1 H locs → lv_has ls 7 [(0, .ref a0), (2, .int y2), (3, va_rf o3), (4, .int y4), (5, .int y5)] → kc33 u1 a0 y2 o3 y4 y5 = some rr → W p l e (xR 7 1 8) s m args below meth cd H locs cells slots (xQi G w0 (fun r z => r = rr.1 ∧ z = ((tE G rr.2), rr.2.1)) below args s 1 8) (F0 m 33 ls [])) (kc43 : xT → Nat → Int32 → (Option Nat) → Int32 → Int32 → Int32 → Option (Int32 × xT)) (hc43 : ∀ {u1 : xT} {a0 : Nat} {y2 : Int32} {o3 : Option Nat} {y4 : Int32} {y5 : Int32} {y6 : Int32} {H : Heap} {locs : List Loc} {ls : Array Slot} {cells slots : Nat}, cells + 0 ≤ 1 → slots + 0 ≤ 8 → tD G (xA w0 s.heap.size) s.heap u1 H locs → lv_has ls 7 [(0, .ref a0), (2, .int y2), (3, va_rf o3), (4, .int y4), (5, .int y5), (6, .int y6)] → kc43 u1 a0 y2 o3 y4 y5 y6 = some rr → W p l e (xR 7 1 8) s m args below meth cd H locs cells slots (xQi G w0 (fun r z => r = rr.1 ∧ z = ((tE G rr.2), rr.2.1)) below args s 1 8) (F0 m 43 ls [])) {a0 : Nat} {y2 : Int32} {o3 : Option Nat} {y4 : Int32} {y5 : Int32} {y6 : Int32} {H : Heap} {locs : List Loc} {ls : Array Slot} {cells slots : Nat} (hcc : cells + 0 ≤ 1) (hkk : slots + 0 ≤ 8) (hD : tD G (xA w0 s.heap.size) s.heap u H locs) (hl : lv_has ls 7 [(0, .ref a0), (2, .int y2), (3, va_rf o3), (4, .int y4), (5, .int y5), (6, .int y6)]) (hF : F_X11_fits_j94 kc33 kc43 u a0 y2 o3 y4 y5 y6 = some rr) : W p l e (xR 7 1 8) s m args below meth cd H locs cells slots (xQi G w0 (fun r z => r = rr.1 ∧ z = ((tE G rr.2), rr.2.1)) below args s 1 8) (F0 m 94 ls []) := by
  have hx := hE.1; have hb := hE.2.1
  unfold F_X11_fits_j94 at hF
  refine t_splitL hF (fun h2 hF9 => ?_) (fun q1 h2 hF9 => ?_)
  · subst h2
    have hF := hF9
    have hl : lv_has ls 7 [(0, .ref a0), (2, .int y2), (3, .null), (4, .int y4), (5, .int y5), (6, .int y6)] := hl
    refine W.eq (g2 := F0 m 94 ls []) rfl ?_
    obtain ⟨x3, ex3⟩ : ∃ y : Int32, y = y6 + (1 : Int32) := ⟨_, rfl⟩
    have hF := xlet_e hF ex3
    refine lv_iinc (v := x3) (lv' := [(6, .int x3), (0, .ref a0), (2, .int y2), (3, .null), (4, .int y4), (5, .int y5)]) hx hb dX11_fits_94 hl (k := 5) rfl (by rw [ex3]; rfl) (by decide) rfl (fun ls hl => ?_)
    refine lv_goto (tgt := 43) hx hb dX11_fits_97 (by decide) ?_
    exact hc43 (by omega) (by omega) hD (lv_sub hl [1, 2, 3, 4, 5, 0] rfl) hF
  · subst h2
    have hF := hF9
    have hl : lv_has ls 7 [(0, .ref a0), (2, .int y2), (3, .ref q1), (4, .int y4), (5, .int y5), (6, .int y6)] := hl
    refine W.eq (g2 := F0 m 94 ls []) rfl ?_
    obtain ⟨x4, ex4⟩ : ∃ y : Int32, y = y6 + (1 : Int32) := ⟨_, rfl⟩
    have hF := xlet_e hF ex4
    refine lv_iinc (v := x4) (lv' := [(6, .int x4), (0, .ref a0), (2, .int y2), (3, .ref q1), (4, .int y4), (5, .int y5)]) hx hb dX11_fits_94 hl (k := 5) rfl (by rw [ex4]; rfl) (by decide) rfl (fun ls hl => ?_)
    refine lv_goto (tgt := 43) hx hb dX11_fits_97 (by decide) ?_
    exact hc43 (by omega) (by omega) hD (lv_sub hl [1, 2, 3, 4, 5, 0] rfl) hF
def F_X11_fits_j90 (u : xT) (a0 : Nat) (s0 : Int32) : Option (Int32 × xT) := some (s0, u)
theorem B_X11_fits_j90 {p : Program} {l : Launch} {e : Env} {s : State} {m : MethodId} {args : Array Value} {below : List Frame} {meth : Method} {cd : Code} {G : xG} {w0 : xW} {rr : (Int32 × xT)} (hE : xE p s m args meth cd cX11_fits RX11 G 7 (Option.some Jvm.ClassFile.FieldType.int)) {u : xT} {a0 : Nat} {s0 : Int32} {H : Heap} {locs : List Loc} {ls : Array Slot} {cells slots : Nat} (hcc : cells + 0 ≤ 1) (hkk : slots + 0 ≤ 8) (hD : tD G (xA w0 s.heap.size) s.heap u H locs) (hl : lv_has ls 7 [(0, .ref a0)]) (hF : F_X11_fits_j90 u a0 s0 = some rr) : W p l e (xR 7 1 8) s m args below meth cd H locs cells slots (xQi G w0 (fun r z => r = rr.1 ∧ z = ((tE G rr.2), rr.2.1)) below args s 1 8) (F0 m 90 ls [.int s0]) := by
  have hx := hE.1; have hb := hE.2.1
  unfold F_X11_fits_j90 at hF
  obtain rfl := Option.some.inj hF
  exact x_iret hE hD ⟨rfl, rfl⟩ (by omega) (by omega) dX11_fits_90
def F_X11_fits_l43 (kc33 : xT → Nat → Int32 → (Option Nat) → Int32 → Int32 → Option (Int32 × xT)) : Nat → xT → Nat → Int32 → (Option Nat) → Int32 → Int32 → Int32 → Option (Int32 × xT)
  | 0, _, _, _, _, _, _, _ => none
  | nn + 1, u, a0, y2, o3, y4, y5, y6 => xopt o3 (if (999 : Int32) < y6 then xlet (y5 + (1 : Int32)) (fun x8 => kc33 u a0 y2 none y4 x8) else none) (fun q5 => if (999 : Int32) < y6 then xlet (y5 + (1 : Int32)) (fun x10 => kc33 u a0 y2 (some q5) y4 x10) else if isBk (tK u q5) then (F_X0_suppose u q5 y5 y6).bind (fun r12 => if tK r12 a0 = 11 then (tP r12 a0 0).bind (fun q15 => if tK r12 q15 = 7 then (F_X7_lies r12 q15 q5).bind (fun r18 => if r18 = (-1 : Int32) then if y2 = 0 then xlet (y4 + (1 : Int32)) (fun x22 => F_X11_fits_j94 kc33 (F_X11_fits_l43 kc33 nn) r12 a0 y2 (some q5) x22 y5 y6) else if y2 = (1 : Int32) then F_X11_fits_j90 r12 a0 y5 else F_X11_fits_j90 r12 a0 y6 else F_X11_fits_j94 kc33 (F_X11_fits_l43 kc33 nn) r12 a0 y2 (some q5) y4 y5 y6) else none) else none) else none)
theorem L_X11_fits_l43 {p : Program} {l : Launch} {e : Env} {s : State} {m : MethodId} {args : Array Value} {below : List Frame} {meth : Method} {cd : Code} {G : xG} {w0 : xW} {rr : (Int32 × xT)} (hE : xE p s m args meth cd cX11_fits RX11 G 7 (Option.some Jvm.ClassFile.FieldType.int)) (kc33 : xT → Nat → Int32 → (Option Nat) → Int32 → Int32 → Option (Int32 × xT)) (hc33 : ∀ {u1 : xT} {a0 : Nat} {y2 : Int32} {o3 : Option Nat} {y4 : Int32} {y5 : Int32} {H : Heap} {locs : List Loc} {ls : Array Slot} {cells slots : Nat}, cells + 0 ≤ 1 → slots + 0 ≤ 8 → tD G (xA w0 s.heap.size) s.heap u1 H locs → lv_has ls 7 [(0, .ref a0), (2, .int y2), (3, va_rf o3), (4, .int y4), (5, .int y5)] → kc33 u1 a0 y2 o3 y4 y5 = some rr → W p l e (xR 7 1 8) s m args below meth cd H locs cells slots (xQi G w0 (fun r z => r = rr.1 ∧ z = ((tE G rr.2), rr.2.1)) below args s 1 8) (F0 m 33 ls [])) : ∀ (nn : Nat) {u : xT} {a0 : Nat} {y2 : Int32} {o3 : Option Nat} {y4 : Int32} {y5 : Int32} {y6 : Int32} {H : Heap} {locs : List Loc} {ls : Array Slot} {cells slots : Nat}, cells + 0 ≤ 1 → slots + 0 ≤ 8 → tD G (xA w0 s.heap.size) s.heap u H locs → lv_has ls 7 [(0, .ref a0), (2, .int y2), (3, va_rf o3), (4, .int y4), (5, .int y5), (6, .int y6)] → F_X11_fits_l43 kc33 nn u a0 y2 o3 y4 y5 y6 = some rr → W p l e (xR 7 1 8) s m args below meth cd H locs cells slots (xQi G w0 (fun r z => r = rr.1 ∧ z = ((tE G rr.2), rr.2.1)) below args s 1 8) (F0 m 43 ls []) := by
  have hx := hE.1; have hb := hE.2.1
  intro nn
  induction nn with
  | zero => intro u a0 y2 o3 y4 y5 y6 H locs ls cells slots hcc hkk hD hl hF; rw [F_X11_fits_l43] at hF; cases hF
  | succ nn ih =>
    intro u a0 y2 o3 y4 y5 y6 H locs ls cells slots hcc hkk hD hl hF
    rw [F_X11_fits_l43] at hF
    refine t_splitL hF (fun h6 hF9 => ?_) (fun q5 h6 hF9 => ?_)
    · subst h6
      have hF := hF9
      have hl : lv_has ls 7 [(0, .ref a0), (2, .int y2), (3, .null), (4, .int y4), (5, .int y5), (6, .int y6)] := hl
      refine W.eq (g2 := F0 m 43 ls []) rfl ?_
      refine lv_iload hx hb dX11_fits_43 (lv_at hl 5 rfl) ?_
      refine lv_sipush (v := (999 : Int32)) hx hb dX11_fits_45 (by decide) ?_
      refine lv_icmp_gt (tgt := 100) hx hb dX11_fits_48 (by decide) (fun c7 => ?_) (fun c7 => ?_)
      · have hF := ite_p hF c7
        obtain ⟨x8, ex8⟩ : ∃ y : Int32, y = y5 + (1 : Int32) := ⟨_, rfl⟩
        have hF := xlet_e hF ex8
        refine lv_iinc (v := x8) (lv' := [(5, .int x8), (0, .ref a0), (2, .int y2), (3, .null), (4, .int y4), (6, .int y6)]) hx hb dX11_fits_100 hl (k := 4) rfl (by rw [ex8]; rfl) (by decide) rfl (fun ls hl => ?_)
        refine lv_goto (tgt := 33) hx hb dX11_fits_103 (by decide) ?_
        exact hc33 (by omega) (by omega) hD (lv_sub hl [1, 2, 3, 4, 0] rfl) hF
      · have hF := ite_n hF c7
        refine lv_aload_nN hx hb dX11_fits_51 rfl (lv_at hl 2 rfl) ?_
        refine lv_iload hx hb dX11_fits_52 (lv_at hl 4 rfl) ?_
        refine lv_iload hx hb dX11_fits_54 (lv_at hl 5 rfl) ?_
        cases hF
    · subst h6
      have hF := hF9
      have hl : lv_has ls 7 [(0, .ref a0), (2, .int y2), (3, .ref q5), (4, .int y4), (5, .int y5), (6, .int y6)] := hl
      refine W.eq (g2 := F0 m 43 ls []) rfl ?_
      refine lv_iload hx hb dX11_fits_43 (lv_at hl 5 rfl) ?_
      refine lv_sipush (v := (999 : Int32)) hx hb dX11_fits_45 (by decide) ?_
      refine lv_icmp_gt (tgt := 100) hx hb dX11_fits_48 (by decide) (fun c9 => ?_) (fun c9 => ?_)
      · have hF := ite_p hF c9
        obtain ⟨x10, ex10⟩ : ∃ y : Int32, y = y5 + (1 : Int32) := ⟨_, rfl⟩
        have hF := xlet_e hF ex10
        refine lv_iinc (v := x10) (lv' := [(5, .int x10), (0, .ref a0), (2, .int y2), (3, .ref q5), (4, .int y4), (6, .int y6)]) hx hb dX11_fits_100 hl (k := 4) rfl (by rw [ex10]; rfl) (by decide) rfl (fun ls hl => ?_)
        refine lv_goto (tgt := 33) hx hb dX11_fits_103 (by decide) ?_
        exact hc33 (by omega) (by omega) hD (lv_sub hl [1, 2, 3, 4, 0] rfl) hF
      · have hF := ite_n hF c9
        refine lv_aload_n hx hb dX11_fits_51 rfl (lv_at hl 2 rfl) ?_
        refine lv_iload hx hb dX11_fits_52 (lv_at hl 4 rfl) ?_
        refine lv_iload hx hb dX11_fits_54 (lv_at hl 5 rfl) ?_
        obtain ⟨h11, hF⟩ := ite_s hF
        obtain ⟨r12, k13, hF⟩ := xb_s hF
        refine kB_X11_257 (rest := []) hE hl hD h11 k13 (Nat.le_of_ble_eq_true rfl) dX11_fits_56 ⟨Nat.le_of_ble_eq_true rfl, Nat.le_of_ble_eq_true rfl⟩ ⟨(by show cells ≤ 1; omega), (by show slots ≤ 8; omega)⟩ (fun H locs (hD : tD G _ _ r12 H locs) => ?_)
        refine lv_aload_n hx hb dX11_fits_59 rfl (lv_at hl 0 rfl) ?_
        obtain ⟨h14, hF⟩ := ite_s hF
        obtain ⟨q15, h16, hF⟩ := xb_s hF
        refine gr_X11_10 hE hD h14 h16 dX11_fits_60 ?_
        refine lv_aload_n hx hb dX11_fits_63 rfl (lv_at hl 2 rfl) ?_
        obtain ⟨h17, hF⟩ := ite_s hF
        obtain ⟨r18, k19, hF⟩ := xb_s hF
        refine kVi (As := [.ref q5]) (rest := []) hE hl hD (c_X7_lies k19) kl_X11_260 (tE_7 h17) rfl rfl rfl rfl (Nat.le_of_ble_eq_true rfl) dX11_fits_64 ⟨Nat.le_of_ble_eq_true rfl, Nat.le_of_ble_eq_true rfl⟩ ⟨(by show cells ≤ 1; omega), (by show slots ≤ 8; omega)⟩ (fun H locs (hD : tD G _ _ r12 H locs) => ?_)
        refine lv_iconst (v := (-1 : Int32)) hx hb dX11_fits_67 (by decide) ?_
        refine lv_icmp_eq (tgt := 74) hx hb dX11_fits_68 (by decide) (fun c20 => ?_) (fun c20 => ?_)
        · have hF := ite_p hF c20
          refine lv_iload_n hx hb dX11_fits_74 rfl (lv_at hl 1 rfl) ?_
          refine lv_if_eq (tgt := 91) hx hb dX11_fits_75 (by decide) (fun c21 => ?_) (fun c21 => ?_)
          · have hF := ite_p hF c21
            obtain ⟨x22, ex22⟩ : ∃ y : Int32, y = y4 + (1 : Int32) := ⟨_, rfl⟩
            have hF := xlet_e hF ex22
            refine lv_iinc (v := x22) (lv' := [(4, .int x22), (0, .ref a0), (2, .int y2), (3, .ref q5), (5, .int y5), (6, .int y6)]) hx hb dX11_fits_91 hl (k := 3) rfl (by rw [ex22]; rfl) (by decide) rfl (fun ls hl => ?_)
            exact B_X11_fits_j94 hE kc33 hc33 (F_X11_fits_l43 kc33 nn) ih (by omega) (by omega) hD (lv_sub hl [1, 2, 3, 0, 4, 5] rfl) hF
          · have hF := ite_n hF c21
            refine lv_iload_n hx hb dX11_fits_78 rfl (lv_at hl 1 rfl) ?_
            refine lv_iconst (v := (1 : Int32)) hx hb dX11_fits_79 (by decide) ?_
            refine lv_icmp_ne (tgt := 88) hx hb dX11_fits_80 (by decide) (fun c23 => ?_) (fun c23 => ?_)
            · have hF := ite_n hF c23
              refine lv_iload hx hb dX11_fits_88 (lv_at hl 5 rfl) ?_
              exact B_X11_fits_j90 hE (by omega) (by omega) hD (lv_sub hl [0] rfl) hF
            · have hF := ite_p hF c23
              refine lv_iload hx hb dX11_fits_83 (lv_at hl 4 rfl) ?_
              refine lv_goto (tgt := 90) hx hb dX11_fits_85 (by decide) ?_
              exact B_X11_fits_j90 hE (by omega) (by omega) hD (lv_sub hl [0] rfl) hF
        · have hF := ite_n hF c20
          refine lv_goto (tgt := 94) hx hb dX11_fits_71 (by decide) ?_
          exact B_X11_fits_j94 hE kc33 hc33 (F_X11_fits_l43 kc33 nn) ih (by omega) (by omega) hD (lv_sub hl [0, 1, 2, 3, 4, 5] rfl) hF
def F_X11_fits_l33 : Nat → xT → Nat → Int32 → (Option Nat) → Int32 → Int32 → Option (Int32 × xT)
  | 0, _, _, _, _, _, _ => none
  | nn + 1, u, a0, y2, o3, y4, y5 => xopt o3 (if (9 : Int32) < y5 then if y2 = 0 then F_X11_fits_j117 u a0 y4 else F_X11_fits_j117 u a0 (-3 : Int32) else F_X11_fits_l43 (F_X11_fits_l33 nn) xFuel u a0 y2 none y4 y5 (0 : Int32)) (fun q24 => if (9 : Int32) < y5 then if y2 = 0 then F_X11_fits_j117 u a0 y4 else F_X11_fits_j117 u a0 (-3 : Int32) else F_X11_fits_l43 (F_X11_fits_l33 nn) xFuel u a0 y2 (some q24) y4 y5 (0 : Int32))
theorem L_X11_fits_l33 {p : Program} {l : Launch} {e : Env} {s : State} {m : MethodId} {args : Array Value} {below : List Frame} {meth : Method} {cd : Code} {G : xG} {w0 : xW} {rr : (Int32 × xT)} (hE : xE p s m args meth cd cX11_fits RX11 G 7 (Option.some Jvm.ClassFile.FieldType.int)) : ∀ (nn : Nat) {u : xT} {a0 : Nat} {y2 : Int32} {o3 : Option Nat} {y4 : Int32} {y5 : Int32} {H : Heap} {locs : List Loc} {ls : Array Slot} {cells slots : Nat}, cells + 0 ≤ 1 → slots + 0 ≤ 8 → tD G (xA w0 s.heap.size) s.heap u H locs → lv_has ls 7 [(0, .ref a0), (2, .int y2), (3, va_rf o3), (4, .int y4), (5, .int y5)] → F_X11_fits_l33 nn u a0 y2 o3 y4 y5 = some rr → W p l e (xR 7 1 8) s m args below meth cd H locs cells slots (xQi G w0 (fun r z => r = rr.1 ∧ z = ((tE G rr.2), rr.2.1)) below args s 1 8) (F0 m 33 ls []) := by
  have hx := hE.1; have hb := hE.2.1
  intro nn
  induction nn with
  | zero => intro u a0 y2 o3 y4 y5 H locs ls cells slots hcc hkk hD hl hF; rw [F_X11_fits_l33] at hF; cases hF
  | succ nn ih =>
    intro u a0 y2 o3 y4 y5 H locs ls cells slots hcc hkk hD hl hF
    rw [F_X11_fits_l33] at hF
    refine t_splitL hF (fun h25 hF9 => ?_) (fun q24 h25 hF9 => ?_)
    · subst h25
      have hF := hF9
      have hl : lv_has ls 7 [(0, .ref a0), (2, .int y2), (3, .null), (4, .int y4), (5, .int y5)] := hl
      refine W.eq (g2 := F0 m 33 ls []) rfl ?_
      refine lv_iload hx hb dX11_fits_33 (lv_at hl 4 rfl) ?_
      refine lv_bipush (v := (9 : Int32)) hx hb dX11_fits_35 (by decide) ?_
      refine lv_icmp_gt (tgt := 106) hx hb dX11_fits_37 (by decide) (fun c26 => ?_) (fun c26 => ?_)
      · have hF := ite_p hF c26
        refine lv_iload_n hx hb dX11_fits_106 rfl (lv_at hl 1 rfl) ?_
        refine lv_if_ne (tgt := 115) hx hb dX11_fits_107 (by decide) (fun c27 => ?_) (fun c27 => ?_)
        · have hF := ite_n hF c27
          refine lv_bipush (v := (-3 : Int32)) hx hb dX11_fits_115 (by decide) ?_
          exact B_X11_fits_j117 hE (by omega) (by omega) hD (lv_sub hl [0] rfl) hF
        · have hF := ite_p hF c27
          refine lv_iload hx hb dX11_fits_110 (lv_at hl 3 rfl) ?_
          refine lv_goto (tgt := 117) hx hb dX11_fits_112 (by decide) ?_
          exact B_X11_fits_j117 hE (by omega) (by omega) hD (lv_sub hl [0] rfl) hF
      · have hF := ite_n hF c26
        refine lv_iconst (v := (0 : Int32)) hx hb dX11_fits_40 (by decide) ?_
        refine lv_istore (lv' := [(6, .int (0 : Int32)), (0, .ref a0), (2, .int y2), (3, .null), (4, .int y4), (5, .int y5)]) hx hb dX11_fits_41 hl (by decide) rfl (fun ls hl => ?_)
        exact L_X11_fits_l43 hE (F_X11_fits_l33 nn) ih _ (by omega) (by omega) hD (lv_sub hl [1, 2, 3, 4, 5, 0] rfl) hF
    · subst h25
      have hF := hF9
      have hl : lv_has ls 7 [(0, .ref a0), (2, .int y2), (3, .ref q24), (4, .int y4), (5, .int y5)] := hl
      refine W.eq (g2 := F0 m 33 ls []) rfl ?_
      refine lv_iload hx hb dX11_fits_33 (lv_at hl 4 rfl) ?_
      refine lv_bipush (v := (9 : Int32)) hx hb dX11_fits_35 (by decide) ?_
      refine lv_icmp_gt (tgt := 106) hx hb dX11_fits_37 (by decide) (fun c28 => ?_) (fun c28 => ?_)
      · have hF := ite_p hF c28
        refine lv_iload_n hx hb dX11_fits_106 rfl (lv_at hl 1 rfl) ?_
        refine lv_if_ne (tgt := 115) hx hb dX11_fits_107 (by decide) (fun c29 => ?_) (fun c29 => ?_)
        · have hF := ite_n hF c29
          refine lv_bipush (v := (-3 : Int32)) hx hb dX11_fits_115 (by decide) ?_
          exact B_X11_fits_j117 hE (by omega) (by omega) hD (lv_sub hl [0] rfl) hF
        · have hF := ite_p hF c29
          refine lv_iload hx hb dX11_fits_110 (lv_at hl 3 rfl) ?_
          refine lv_goto (tgt := 117) hx hb dX11_fits_112 (by decide) ?_
          exact B_X11_fits_j117 hE (by omega) (by omega) hD (lv_sub hl [0] rfl) hF
      · have hF := ite_n hF c28
        refine lv_iconst (v := (0 : Int32)) hx hb dX11_fits_40 (by decide) ?_
        refine lv_istore (lv' := [(6, .int (0 : Int32)), (0, .ref a0), (2, .int y2), (3, .ref q24), (4, .int y4), (5, .int y5)]) hx hb dX11_fits_41 hl (by decide) rfl (fun ls hl => ?_)
        exact L_X11_fits_l43 hE (F_X11_fits_l33 nn) ih _ (by omega) (by omega) hD (lv_sub hl [1, 2, 3, 4, 5, 0] rfl) hF
def F_X11_fits_j16 (u : xT) (a0 : Nat) : Option (Int32 × xT) := some ((-1 : Int32), u)
theorem B_X11_fits_j16 {p : Program} {l : Launch} {e : Env} {s : State} {m : MethodId} {args : Array Value} {below : List Frame} {meth : Method} {cd : Code} {G : xG} {w0 : xW} {rr : (Int32 × xT)} (hE : xE p s m args meth cd cX11_fits RX11 G 7 (Option.some Jvm.ClassFile.FieldType.int)) {u : xT} {a0 : Nat} {H : Heap} {locs : List Loc} {ls : Array Slot} {cells slots : Nat} (hcc : cells + 0 ≤ 1) (hkk : slots + 0 ≤ 8) (hD : tD G (xA w0 s.heap.size) s.heap u H locs) (hl : lv_has ls 7 [(0, .ref a0)]) (hF : F_X11_fits_j16 u a0 = some rr) : W p l e (xR 7 1 8) s m args below meth cd H locs cells slots (xQi G w0 (fun r z => r = rr.1 ∧ z = ((tE G rr.2), rr.2.1)) below args s 1 8) (F0 m 16 ls []) := by
  have hx := hE.1; have hb := hE.2.1
  unfold F_X11_fits_j16 at hF
  refine lv_iconst (v := (-1 : Int32)) hx hb dX11_fits_16 (by decide) ?_
  obtain rfl := Option.some.inj hF
  exact x_iret hE hD ⟨rfl, rfl⟩ (by omega) (by omega) dX11_fits_17
def F_X11_fits (u : xT) (a0 : Nat) (xa : Int32) (xb : Int32) : Option (Int32 × xT) := (F_X11_isGuessed xa).bind (fun r30 => if r30 = 0 then F_X11_fits_j16 u a0 else (F_X11_isIn xb (0 : Int32) (2 : Int32)).bind (fun r34 => if r34 = 0 then F_X11_fits_j16 u a0 else (F_X11_made u xa (0 : Int32) (1 : Int32) (0 : Int32) (0 : Int32)).bind (fun r38 => xopt (r38.1) (F_X11_fits_l33 xFuel r38.2 a0 xb none (0 : Int32) (1 : Int32)) (fun q40 => F_X11_fits_l33 xFuel r38.2 a0 xb (some q40) (0 : Int32) (1 : Int32)))))
theorem c_X11_fits {l : Launch} {G : xG} {rr : (Int32 × xT)} {u : xT} {a0 : Nat} {xa : Int32} {xb : Int32} (hF : F_X11_fits u a0 xa xb = some rr) : xMi l G yX11_fits cX11_fits 7 (Option.some Jvm.ClassFile.FieldType.int) 7 1 8 [.ref a0, .int xa, .int xb] (tE G u) u.1 (fun r z => r = rr.1 ∧ z = ((tE G rr.2), rr.2.1)) := by
  unfold F_X11_fits at hF
  refine x_startI rfl (Nat.le_of_ble_eq_true rfl) (fun p e s m args below meth cd ls hE hnm hl hD => ?_)
  have hx := hE.1; have hb := hE.2.1
  have hl : lv_has ls 7 [(0, .ref a0), (1, .int xa), (2, .int xb)] := hl
  have hD : tD G (xA (tE G u) s.heap.size) s.heap u s.heap [] := hD
  refine lv_iload_n hx hb dX11_fits_0 rfl (lv_at hl 1 rfl) ?_
  obtain ⟨r30, k31, hF⟩ := xb_s hF
  refine kSz (As := [.int xa]) (rest := []) hE hl hD (c_X11_isGuessed k31) kl_X11_254 rfl rfl (Nat.le_of_ble_eq_true rfl) dX11_fits_1 ⟨Nat.le_of_ble_eq_true rfl, Nat.le_of_ble_eq_true rfl⟩ ⟨(by show 0 ≤ 1; omega), (by show 0 ≤ 8; omega)⟩ (fun H locs z32 (hD : tD G _ _ u H locs) => ?_)
  refine lv_if_eq (tgt := 16) hx hb dX11_fits_4 (by decide) (fun c33 => ?_) (fun c33 => ?_)
  · have hF := ite_p hF c33
    exact B_X11_fits_j16 hE (by omega) (by omega) hD (lv_sub hl [0] rfl) hF
  · have hF := ite_n hF c33
    refine lv_iload_n hx hb dX11_fits_7 rfl (lv_at hl 2 rfl) ?_
    refine lv_iconst (v := (0 : Int32)) hx hb dX11_fits_8 (by decide) ?_
    refine lv_iconst (v := (2 : Int32)) hx hb dX11_fits_9 (by decide) ?_
    obtain ⟨r34, k35, hF⟩ := xb_s hF
    refine kSz (As := [.int xb, .int (0 : Int32), .int (2 : Int32)]) (rest := []) hE hl hD (c_X11_isIn k35) kl_X11_183 rfl rfl (Nat.le_of_ble_eq_true rfl) dX11_fits_10 ⟨Nat.le_of_ble_eq_true rfl, Nat.le_of_ble_eq_true rfl⟩ ⟨(by show 0 ≤ 1; omega), (by show 0 ≤ 8; omega)⟩ (fun H locs z36 (hD : tD G _ _ u H locs) => ?_)
    refine lv_if_ne (tgt := 18) hx hb dX11_fits_13 (by decide) (fun c37 => ?_) (fun c37 => ?_)
    · have hF := ite_n hF c37
      refine lv_iload_n hx hb dX11_fits_18 rfl (lv_at hl 1 rfl) ?_
      refine lv_iconst (v := (0 : Int32)) hx hb dX11_fits_19 (by decide) ?_
      refine lv_iconst (v := (1 : Int32)) hx hb dX11_fits_20 (by decide) ?_
      refine lv_iconst (v := (0 : Int32)) hx hb dX11_fits_21 (by decide) ?_
      refine lv_iconst (v := (0 : Int32)) hx hb dX11_fits_22 (by decide) ?_
      obtain ⟨r38, k39, hF⟩ := xb_s hF
      refine kSqA (As := [.int xa, .int (0 : Int32), .int (1 : Int32), .int (0 : Int32), .int (0 : Int32)]) (rest := []) hE hl hD (c_X11_made k39) kl_X11_120 rfl rfl (Nat.le_of_ble_eq_true rfl) dX11_fits_23 ⟨Nat.le_of_ble_eq_true rfl, Nat.le_of_ble_eq_true rfl⟩ ⟨(by show 0 + 1 ≤ 1; omega), (by show 0 + 8 ≤ 8; omega)⟩ (fun H locs (hD : tD G _ _ r38.2 H locs) => ?_)
      refine t_split hF (fun h41 hF => ?_) (fun q40 h41 hF => ?_)
      · refine lv_astore_nN (lv' := [(3, .null), (0, .ref a0), (1, .int xa), (2, .int xb)]) hx hb dX11_fits_26 rfl hl (by decide) rfl (fun ls hl => ?_)
        refine lv_iconst (v := (0 : Int32)) hx hb dX11_fits_27 (by decide) ?_
        refine lv_istore (lv' := [(4, .int (0 : Int32)), (3, .null), (0, .ref a0), (1, .int xa), (2, .int xb)]) hx hb dX11_fits_28 hl (by decide) rfl (fun ls hl => ?_)
        refine lv_iconst (v := (1 : Int32)) hx hb dX11_fits_30 (by decide) ?_
        refine lv_istore (lv' := [(5, .int (1 : Int32)), (4, .int (0 : Int32)), (3, .null), (0, .ref a0), (1, .int xa), (2, .int xb)]) hx hb dX11_fits_31 hl (by decide) rfl (fun ls hl => ?_)
        exact L_X11_fits_l33 hE _ (by omega) (by omega) hD (lv_sub hl [3, 5, 2, 1, 0] rfl) hF
      · refine lv_astore_n (lv' := [(3, .ref q40), (0, .ref a0), (1, .int xa), (2, .int xb)]) hx hb dX11_fits_26 rfl hl (by decide) rfl (fun ls hl => ?_)
        refine lv_iconst (v := (0 : Int32)) hx hb dX11_fits_27 (by decide) ?_
        refine lv_istore (lv' := [(4, .int (0 : Int32)), (3, .ref q40), (0, .ref a0), (1, .int xa), (2, .int xb)]) hx hb dX11_fits_28 hl (by decide) rfl (fun ls hl => ?_)
        refine lv_iconst (v := (1 : Int32)) hx hb dX11_fits_30 (by decide) ?_
        refine lv_istore (lv' := [(5, .int (1 : Int32)), (4, .int (0 : Int32)), (3, .ref q40), (0, .ref a0), (1, .int xa), (2, .int xb)]) hx hb dX11_fits_31 hl (by decide) rfl (fun ls hl => ?_)
        exact L_X11_fits_l33 hE _ (by omega) (by omega) hD (lv_sub hl [3, 5, 2, 1, 0] rfl) hF
    · have hF := ite_p hF c37
      exact B_X11_fits_j16 hE (by omega) (by omega) hD (lv_sub hl [0] rfl) hF
def F_X11_liar_j107 (u : xT) (a0 : Nat) (s0 : Int32) : Option (Int32 × xT) := some (s0, u)
theorem B_X11_liar_j107 {p : Program} {l : Launch} {e : Env} {s : State} {m : MethodId} {args : Array Value} {below : List Frame} {meth : Method} {cd : Code} {G : xG} {w0 : xW} {rr : (Int32 × xT)} (hE : xE p s m args meth cd cX11_liar RX11 G 7 (Option.some Jvm.ClassFile.FieldType.int)) {u : xT} {a0 : Nat} {s0 : Int32} {H : Heap} {locs : List Loc} {ls : Array Slot} {cells slots : Nat} (hcc : cells + 0 ≤ 1) (hkk : slots + 0 ≤ 8) (hD : tD G (xA w0 s.heap.size) s.heap u H locs) (hl : lv_has ls 7 [(0, .ref a0)]) (hF : F_X11_liar_j107 u a0 s0 = some rr) : W p l e (xR 7 1 8) s m args below meth cd H locs cells slots (xQi G w0 (fun r z => r = rr.1 ∧ z = ((tE G rr.2), rr.2.1)) below args s 1 8) (F0 m 107 ls [.int s0]) := by
  have hx := hE.1; have hb := hE.2.1
  unfold F_X11_liar_j107 at hF
  obtain rfl := Option.some.inj hF
  exact x_iret hE hD ⟨rfl, rfl⟩ (by omega) (by omega) dX11_liar_107
def F_X11_liar_j83 (kc24 : xT → Nat → (Option Nat) → Int32 → Int32 → Option (Int32 × xT)) (kc34 : xT → Nat → (Option Nat) → Int32 → Int32 → Int32 → Option (Int32 × xT)) (u : xT) (a0 : Nat) (o2 : Option Nat) (y3 : Int32) (y4 : Int32) (y5 : Int32) : Option (Int32 × xT) := xopt o2 (xlet (y5 + (1 : Int32)) (fun x3 => kc34 u a0 none y3 y4 x3)) (fun q1 => xlet (y5 + (1 : Int32)) (fun x4 => kc34 u a0 (some q1) y3 y4 x4))
theorem B_X11_liar_j83 {p : Program} {l : Launch} {e : Env} {s : State} {m : MethodId} {args : Array Value} {below : List Frame} {meth : Method} {cd : Code} {G : xG} {w0 : xW} {rr : (Int32 × xT)} (hE : xE p s m args meth cd cX11_liar RX11 G 7 (Option.some Jvm.ClassFile.FieldType.int)) {u : xT} (kc24 : xT → Nat → (Option Nat) → Int32 → Int32 → Option (Int32 × xT)) (hc24 : ∀ {u1 : xT} {a0 : Nat} {o2 : Option Nat} {y3 : Int32} {y4 : Int32} {H : Heap} {locs : List Loc} {ls : Array Slot} {cells slots : Nat}, cells + 0 ≤ 1 → slots + 0 ≤ 8 → tD G (xA w0 s.heap.size) s.heap u1 H locs → lv_has ls 7 [(0, .ref a0), (2, va_rf o2), (3, .int y3), (4, .int y4)] → kc24 u1 a0 o2 y3 y4 = some rr → W p l e (xR 7 1 8) s m args below meth cd H locs cells slots (xQi G w0 (fun r z => r = rr.1 ∧ z = ((tE G rr.2), rr.2.1)) below args s 1 8) (F0 m 24 ls [])) (kc34 : xT → Nat → (Option Nat) → Int32 → Int32 → Int32 → Option (Int32 × xT)) (hc34 : ∀ {u1 : xT} {a0 : Nat} {o2 : Option Nat} {y3 : Int32} {y4 : Int32} {y5 : Int32} {H : Heap} {locs : List Loc} {ls : Array Slot} {cells slots : Nat}, cells + 0 ≤ 1 → slots + 0 ≤ 8 → tD G (xA w0 s.heap.size) s.heap u1 H locs → lv_has ls 7 [(0, .ref a0), (2, va_rf o2), (3, .int y3), (4, .int y4), (5, .int y5)] → kc34 u1 a0 o2 y3 y4 y5 = some rr → W p l e (xR 7 1 8) s m args below meth cd H locs cells slots (xQi G w0 (fun r z => r = rr.1 ∧ z = ((tE G rr.2), rr.2.1)) below args s 1 8) (F0 m 34 ls [])) {a0 : Nat} {o2 : Option Nat} {y3 : Int32} {y4 : Int32} {y5 : Int32} {H : Heap} {locs : List Loc} {ls : Array Slot} {cells slots : Nat} (hcc : cells + 0 ≤ 1) (hkk : slots + 0 ≤ 8) (hD : tD G (xA w0 s.heap.size) s.heap u H locs) (hl : lv_has ls 7 [(0, .ref a0), (2, va_rf o2), (3, .int y3), (4, .int y4), (5, .int y5)]) (hF : F_X11_liar_j83 kc24 kc34 u a0 o2 y3 y4 y5 = some rr) : W p l e (xR 7 1 8) s m args below meth cd H locs cells slots (xQi G w0 (fun r z => r = rr.1 ∧ z = ((tE G rr.2), rr.2.1)) below args s 1 8) (F0 m 83 ls []) := by
  have hx := hE.1; have hb := hE.2.1
  unfold F_X11_liar_j83 at hF
  refine t_splitL hF (fun h2 hF9 => ?_) (fun q1 h2 hF9 => ?_)
  · subst h2
    have hF := hF9
    have hl : lv_has ls 7 [(0, .ref a0), (2, .null), (3, .int y3), (4, .int y4), (5, .int y5)] := hl
    refine W.eq (g2 := F0 m 83 ls []) rfl ?_
    obtain ⟨x3, ex3⟩ : ∃ y : Int32, y = y5 + (1 : Int32) := ⟨_, rfl⟩
    have hF := xlet_e hF ex3
    refine lv_iinc (v := x3) (lv' := [(5, .int x3), (0, .ref a0), (2, .null), (3, .int y3), (4, .int y4)]) hx hb dX11_liar_83 hl (k := 4) rfl (by rw [ex3]; rfl) (by decide) rfl (fun ls hl => ?_)
    refine lv_goto (tgt := 34) hx hb dX11_liar_86 (by decide) ?_
    exact hc34 (by omega) (by omega) hD (lv_sub hl [1, 2, 3, 4, 0] rfl) hF
  · subst h2
    have hF := hF9
    have hl : lv_has ls 7 [(0, .ref a0), (2, .ref q1), (3, .int y3), (4, .int y4), (5, .int y5)] := hl
    refine W.eq (g2 := F0 m 83 ls []) rfl ?_
    obtain ⟨x4, ex4⟩ : ∃ y : Int32, y = y5 + (1 : Int32) := ⟨_, rfl⟩
    have hF := xlet_e hF ex4
    refine lv_iinc (v := x4) (lv' := [(5, .int x4), (0, .ref a0), (2, .ref q1), (3, .int y3), (4, .int y4)]) hx hb dX11_liar_83 hl (k := 4) rfl (by rw [ex4]; rfl) (by decide) rfl (fun ls hl => ?_)
    refine lv_goto (tgt := 34) hx hb dX11_liar_86 (by decide) ?_
    exact hc34 (by omega) (by omega) hD (lv_sub hl [1, 2, 3, 4, 0] rfl) hF
def F_X11_liar_l34 (kc24 : xT → Nat → (Option Nat) → Int32 → Int32 → Option (Int32 × xT)) : Nat → xT → Nat → (Option Nat) → Int32 → Int32 → Int32 → Option (Int32 × xT)
  | 0, _, _, _, _, _, _ => none
  | nn + 1, u, a0, o2, y3, y4, y5 => xopt o2 (if (999 : Int32) < y5 then xlet (y4 + (1 : Int32)) (fun x8 => kc24 u a0 none y3 x8) else none) (fun q5 => if (999 : Int32) < y5 then xlet (y4 + (1 : Int32)) (fun x10 => kc24 u a0 (some q5) y3 x10) else if isBk (tK u q5) then (F_X0_suppose u q5 y4 y5).bind (fun r12 => if tK r12 a0 = 11 then (tP r12 a0 0).bind (fun q15 => if tK r12 q15 = 7 then (F_X7_lies r12 q15 q5).bind (fun r18 => if r18 = (-1 : Int32) then some ((-3 : Int32), r12) else if r18 = (-2 : Int32) then F_X11_liar_j83 kc24 (F_X11_liar_l34 kc24 nn) r12 a0 (some q5) y3 y4 y5 else xlet (if r18 < y3 then r18 else y3) (fun x22 => F_X11_liar_j83 kc24 (F_X11_liar_l34 kc24 nn) r12 a0 (some q5) x22 y4 y5)) else none) else none) else none)
theorem L_X11_liar_l34 {p : Program} {l : Launch} {e : Env} {s : State} {m : MethodId} {args : Array Value} {below : List Frame} {meth : Method} {cd : Code} {G : xG} {w0 : xW} {rr : (Int32 × xT)} (hE : xE p s m args meth cd cX11_liar RX11 G 7 (Option.some Jvm.ClassFile.FieldType.int)) (kc24 : xT → Nat → (Option Nat) → Int32 → Int32 → Option (Int32 × xT)) (hc24 : ∀ {u1 : xT} {a0 : Nat} {o2 : Option Nat} {y3 : Int32} {y4 : Int32} {H : Heap} {locs : List Loc} {ls : Array Slot} {cells slots : Nat}, cells + 0 ≤ 1 → slots + 0 ≤ 8 → tD G (xA w0 s.heap.size) s.heap u1 H locs → lv_has ls 7 [(0, .ref a0), (2, va_rf o2), (3, .int y3), (4, .int y4)] → kc24 u1 a0 o2 y3 y4 = some rr → W p l e (xR 7 1 8) s m args below meth cd H locs cells slots (xQi G w0 (fun r z => r = rr.1 ∧ z = ((tE G rr.2), rr.2.1)) below args s 1 8) (F0 m 24 ls [])) : ∀ (nn : Nat) {u : xT} {a0 : Nat} {o2 : Option Nat} {y3 : Int32} {y4 : Int32} {y5 : Int32} {H : Heap} {locs : List Loc} {ls : Array Slot} {cells slots : Nat}, cells + 0 ≤ 1 → slots + 0 ≤ 8 → tD G (xA w0 s.heap.size) s.heap u H locs → lv_has ls 7 [(0, .ref a0), (2, va_rf o2), (3, .int y3), (4, .int y4), (5, .int y5)] → F_X11_liar_l34 kc24 nn u a0 o2 y3 y4 y5 = some rr → W p l e (xR 7 1 8) s m args below meth cd H locs cells slots (xQi G w0 (fun r z => r = rr.1 ∧ z = ((tE G rr.2), rr.2.1)) below args s 1 8) (F0 m 34 ls []) := by
  have hx := hE.1; have hb := hE.2.1
  intro nn
  induction nn with
  | zero => intro u a0 o2 y3 y4 y5 H locs ls cells slots hcc hkk hD hl hF; rw [F_X11_liar_l34] at hF; cases hF
  | succ nn ih =>
    intro u a0 o2 y3 y4 y5 H locs ls cells slots hcc hkk hD hl hF
    rw [F_X11_liar_l34] at hF
    refine t_splitL hF (fun h6 hF9 => ?_) (fun q5 h6 hF9 => ?_)
    · subst h6
      have hF := hF9
      have hl : lv_has ls 7 [(0, .ref a0), (2, .null), (3, .int y3), (4, .int y4), (5, .int y5)] := hl
      refine W.eq (g2 := F0 m 34 ls []) rfl ?_
      refine lv_iload hx hb dX11_liar_34 (lv_at hl 4 rfl) ?_
      refine lv_sipush (v := (999 : Int32)) hx hb dX11_liar_36 (by decide) ?_
      refine lv_icmp_gt (tgt := 89) hx hb dX11_liar_39 (by decide) (fun c7 => ?_) (fun c7 => ?_)
      · have hF := ite_p hF c7
        obtain ⟨x8, ex8⟩ : ∃ y : Int32, y = y4 + (1 : Int32) := ⟨_, rfl⟩
        have hF := xlet_e hF ex8
        refine lv_iinc (v := x8) (lv' := [(4, .int x8), (0, .ref a0), (2, .null), (3, .int y3), (5, .int y5)]) hx hb dX11_liar_89 hl (k := 3) rfl (by rw [ex8]; rfl) (by decide) rfl (fun ls hl => ?_)
        refine lv_goto (tgt := 24) hx hb dX11_liar_92 (by decide) ?_
        exact hc24 (by omega) (by omega) hD (lv_sub hl [1, 2, 3, 0] rfl) hF
      · have hF := ite_n hF c7
        refine lv_aload_nN hx hb dX11_liar_42 rfl (lv_at hl 1 rfl) ?_
        refine lv_iload hx hb dX11_liar_43 (lv_at hl 3 rfl) ?_
        refine lv_iload hx hb dX11_liar_45 (lv_at hl 4 rfl) ?_
        cases hF
    · subst h6
      have hF := hF9
      have hl : lv_has ls 7 [(0, .ref a0), (2, .ref q5), (3, .int y3), (4, .int y4), (5, .int y5)] := hl
      refine W.eq (g2 := F0 m 34 ls []) rfl ?_
      refine lv_iload hx hb dX11_liar_34 (lv_at hl 4 rfl) ?_
      refine lv_sipush (v := (999 : Int32)) hx hb dX11_liar_36 (by decide) ?_
      refine lv_icmp_gt (tgt := 89) hx hb dX11_liar_39 (by decide) (fun c9 => ?_) (fun c9 => ?_)
      · have hF := ite_p hF c9
        obtain ⟨x10, ex10⟩ : ∃ y : Int32, y = y4 + (1 : Int32) := ⟨_, rfl⟩
        have hF := xlet_e hF ex10
        refine lv_iinc (v := x10) (lv' := [(4, .int x10), (0, .ref a0), (2, .ref q5), (3, .int y3), (5, .int y5)]) hx hb dX11_liar_89 hl (k := 3) rfl (by rw [ex10]; rfl) (by decide) rfl (fun ls hl => ?_)
        refine lv_goto (tgt := 24) hx hb dX11_liar_92 (by decide) ?_
        exact hc24 (by omega) (by omega) hD (lv_sub hl [1, 2, 3, 0] rfl) hF
      · have hF := ite_n hF c9
        refine lv_aload_n hx hb dX11_liar_42 rfl (lv_at hl 1 rfl) ?_
        refine lv_iload hx hb dX11_liar_43 (lv_at hl 3 rfl) ?_
        refine lv_iload hx hb dX11_liar_45 (lv_at hl 4 rfl) ?_
        obtain ⟨h11, hF⟩ := ite_s hF
        obtain ⟨r12, k13, hF⟩ := xb_s hF
        refine kB_X11_257 (rest := []) hE hl hD h11 k13 (Nat.le_of_ble_eq_true rfl) dX11_liar_47 ⟨Nat.le_of_ble_eq_true rfl, Nat.le_of_ble_eq_true rfl⟩ ⟨(by show cells ≤ 1; omega), (by show slots ≤ 8; omega)⟩ (fun H locs (hD : tD G _ _ r12 H locs) => ?_)
        refine lv_aload_n hx hb dX11_liar_50 rfl (lv_at hl 0 rfl) ?_
        obtain ⟨h14, hF⟩ := ite_s hF
        obtain ⟨q15, h16, hF⟩ := xb_s hF
        refine gr_X11_10 hE hD h14 h16 dX11_liar_51 ?_
        refine lv_aload_n hx hb dX11_liar_54 rfl (lv_at hl 1 rfl) ?_
        obtain ⟨h17, hF⟩ := ite_s hF
        obtain ⟨r18, k19, hF⟩ := xb_s hF
        refine kVi (As := [.ref q5]) (rest := []) hE hl hD (c_X7_lies k19) kl_X11_260 (tE_7 h17) rfl rfl rfl rfl (Nat.le_of_ble_eq_true rfl) dX11_liar_55 ⟨Nat.le_of_ble_eq_true rfl, Nat.le_of_ble_eq_true rfl⟩ ⟨(by show cells ≤ 1; omega), (by show slots ≤ 8; omega)⟩ (fun H locs (hD : tD G _ _ r12 H locs) => ?_)
        refine lv_istore (lv' := [(6, .int r18), (0, .ref a0), (2, .ref q5), (3, .int y3), (4, .int y4), (5, .int y5)]) hx hb dX11_liar_58 hl (by decide) rfl (fun ls hl => ?_)
        refine lv_iload hx hb dX11_liar_60 (lv_at hl 0 rfl) ?_
        refine lv_iconst (v := (-1 : Int32)) hx hb dX11_liar_62 (by decide) ?_
        refine lv_icmp_ne (tgt := 69) hx hb dX11_liar_63 (by decide) (fun c20 => ?_) (fun c20 => ?_)
        · have hF := ite_n hF c20
          refine lv_iload hx hb dX11_liar_69 (lv_at hl 0 rfl) ?_
          refine lv_bipush (v := (-2 : Int32)) hx hb dX11_liar_71 (by decide) ?_
          refine lv_icmp_eq (tgt := 83) hx hb dX11_liar_73 (by decide) (fun c21 => ?_) (fun c21 => ?_)
          · have hF := ite_p hF c21
            exact B_X11_liar_j83 hE kc24 hc24 (F_X11_liar_l34 kc24 nn) ih (by omega) (by omega) hD (lv_sub hl [1, 2, 3, 4, 5] rfl) hF
          · have hF := ite_n hF c21
            refine lv_iload_n hx hb dX11_liar_76 rfl (lv_at hl 3 rfl) ?_
            refine lv_iload hx hb dX11_liar_77 (lv_at hl 0 rfl) ?_
            refine x_mminI (rest := []) hE hl kw4_65 (Nat.le_of_ble_eq_true rfl) (Nat.le_of_ble_eq_true rfl) (by show cells ≤ 1; omega) (by show slots ≤ 8; omega) dX11_liar_79 ?_
            refine lv_topi (fun x22 ex22 => ?_)
            have hF := xlet_e hF ex22
            refine lv_istore_n (lv' := [(3, .int x22), (6, .int r18), (0, .ref a0), (2, .ref q5), (4, .int y4), (5, .int y5)]) hx hb dX11_liar_82 rfl hl (by decide) rfl (fun ls hl => ?_)
            exact B_X11_liar_j83 hE kc24 hc24 (F_X11_liar_l34 kc24 nn) ih (by omega) (by omega) hD (lv_sub hl [2, 3, 0, 4, 5] rfl) hF
        · have hF := ite_p hF c20
          refine lv_bipush (v := (-3 : Int32)) hx hb dX11_liar_66 (by decide) ?_
          obtain rfl := Option.some.inj hF
          exact x_iret hE hD ⟨rfl, rfl⟩ (by omega) (by omega) dX11_liar_68
def F_X11_liar_l24 : Nat → xT → Nat → (Option Nat) → Int32 → Int32 → Option (Int32 × xT)
  | 0, _, _, _, _, _ => none
  | nn + 1, u, a0, o2, y3, y4 => xopt o2 (if (9 : Int32) < y4 then if (6 : Int32) ≤ y3 then F_X11_liar_j107 u a0 (-3 : Int32) else F_X11_liar_j107 u a0 y3 else F_X11_liar_l34 (F_X11_liar_l24 nn) xFuel u a0 none y3 y4 (0 : Int32)) (fun q23 => if (9 : Int32) < y4 then if (6 : Int32) ≤ y3 then F_X11_liar_j107 u a0 (-3 : Int32) else F_X11_liar_j107 u a0 y3 else F_X11_liar_l34 (F_X11_liar_l24 nn) xFuel u a0 (some q23) y3 y4 (0 : Int32))
theorem L_X11_liar_l24 {p : Program} {l : Launch} {e : Env} {s : State} {m : MethodId} {args : Array Value} {below : List Frame} {meth : Method} {cd : Code} {G : xG} {w0 : xW} {rr : (Int32 × xT)} (hE : xE p s m args meth cd cX11_liar RX11 G 7 (Option.some Jvm.ClassFile.FieldType.int)) : ∀ (nn : Nat) {u : xT} {a0 : Nat} {o2 : Option Nat} {y3 : Int32} {y4 : Int32} {H : Heap} {locs : List Loc} {ls : Array Slot} {cells slots : Nat}, cells + 0 ≤ 1 → slots + 0 ≤ 8 → tD G (xA w0 s.heap.size) s.heap u H locs → lv_has ls 7 [(0, .ref a0), (2, va_rf o2), (3, .int y3), (4, .int y4)] → F_X11_liar_l24 nn u a0 o2 y3 y4 = some rr → W p l e (xR 7 1 8) s m args below meth cd H locs cells slots (xQi G w0 (fun r z => r = rr.1 ∧ z = ((tE G rr.2), rr.2.1)) below args s 1 8) (F0 m 24 ls []) := by
  have hx := hE.1; have hb := hE.2.1
  intro nn
  induction nn with
  | zero => intro u a0 o2 y3 y4 H locs ls cells slots hcc hkk hD hl hF; rw [F_X11_liar_l24] at hF; cases hF
  | succ nn ih =>
    intro u a0 o2 y3 y4 H locs ls cells slots hcc hkk hD hl hF
    rw [F_X11_liar_l24] at hF
    refine t_splitL hF (fun h24 hF9 => ?_) (fun q23 h24 hF9 => ?_)
    · subst h24
      have hF := hF9
      have hl : lv_has ls 7 [(0, .ref a0), (2, .null), (3, .int y3), (4, .int y4)] := hl
      refine W.eq (g2 := F0 m 24 ls []) rfl ?_
      refine lv_iload hx hb dX11_liar_24 (lv_at hl 3 rfl) ?_
      refine lv_bipush (v := (9 : Int32)) hx hb dX11_liar_26 (by decide) ?_
      refine lv_icmp_gt (tgt := 95) hx hb dX11_liar_28 (by decide) (fun c25 => ?_) (fun c25 => ?_)
      · have hF := ite_p hF c25
        refine lv_iload_n hx hb dX11_liar_95 rfl (lv_at hl 2 rfl) ?_
        refine lv_bipush (v := (6 : Int32)) hx hb dX11_liar_96 (by decide) ?_
        refine lv_icmp_ge (tgt := 105) hx hb dX11_liar_98 (by decide) (fun c26 => ?_) (fun c26 => ?_)
        · have hF := ite_p hF c26
          refine lv_bipush (v := (-3 : Int32)) hx hb dX11_liar_105 (by decide) ?_
          exact B_X11_liar_j107 hE (by omega) (by omega) hD (lv_sub hl [0] rfl) hF
        · have hF := ite_n hF c26
          refine lv_iload_n hx hb dX11_liar_101 rfl (lv_at hl 2 rfl) ?_
          refine lv_goto (tgt := 107) hx hb dX11_liar_102 (by decide) ?_
          exact B_X11_liar_j107 hE (by omega) (by omega) hD (lv_sub hl [0] rfl) hF
      · have hF := ite_n hF c25
        refine lv_iconst (v := (0 : Int32)) hx hb dX11_liar_31 (by decide) ?_
        refine lv_istore (lv' := [(5, .int (0 : Int32)), (0, .ref a0), (2, .null), (3, .int y3), (4, .int y4)]) hx hb dX11_liar_32 hl (by decide) rfl (fun ls hl => ?_)
        exact L_X11_liar_l34 hE (F_X11_liar_l24 nn) ih _ (by omega) (by omega) hD (lv_sub hl [1, 2, 3, 4, 0] rfl) hF
    · subst h24
      have hF := hF9
      have hl : lv_has ls 7 [(0, .ref a0), (2, .ref q23), (3, .int y3), (4, .int y4)] := hl
      refine W.eq (g2 := F0 m 24 ls []) rfl ?_
      refine lv_iload hx hb dX11_liar_24 (lv_at hl 3 rfl) ?_
      refine lv_bipush (v := (9 : Int32)) hx hb dX11_liar_26 (by decide) ?_
      refine lv_icmp_gt (tgt := 95) hx hb dX11_liar_28 (by decide) (fun c27 => ?_) (fun c27 => ?_)
      · have hF := ite_p hF c27
        refine lv_iload_n hx hb dX11_liar_95 rfl (lv_at hl 2 rfl) ?_
        refine lv_bipush (v := (6 : Int32)) hx hb dX11_liar_96 (by decide) ?_
        refine lv_icmp_ge (tgt := 105) hx hb dX11_liar_98 (by decide) (fun c28 => ?_) (fun c28 => ?_)
        · have hF := ite_p hF c28
          refine lv_bipush (v := (-3 : Int32)) hx hb dX11_liar_105 (by decide) ?_
          exact B_X11_liar_j107 hE (by omega) (by omega) hD (lv_sub hl [0] rfl) hF
        · have hF := ite_n hF c28
          refine lv_iload_n hx hb dX11_liar_101 rfl (lv_at hl 2 rfl) ?_
          refine lv_goto (tgt := 107) hx hb dX11_liar_102 (by decide) ?_
          exact B_X11_liar_j107 hE (by omega) (by omega) hD (lv_sub hl [0] rfl) hF
      · have hF := ite_n hF c27
        refine lv_iconst (v := (0 : Int32)) hx hb dX11_liar_31 (by decide) ?_
        refine lv_istore (lv' := [(5, .int (0 : Int32)), (0, .ref a0), (2, .ref q23), (3, .int y3), (4, .int y4)]) hx hb dX11_liar_32 hl (by decide) rfl (fun ls hl => ?_)
        exact L_X11_liar_l34 hE (F_X11_liar_l24 nn) ih _ (by omega) (by omega) hD (lv_sub hl [1, 2, 3, 4, 0] rfl) hF
def F_X11_liar (u : xT) (a0 : Nat) (xa : Int32) : Option (Int32 × xT) := (F_X11_isGuessed xa).bind (fun r29 => if r29 = 0 then some ((-1 : Int32), u) else (F_X11_made u xa (0 : Int32) (1 : Int32) (0 : Int32) (0 : Int32)).bind (fun r33 => xopt (r33.1) (F_X11_liar_l24 xFuel r33.2 a0 none (6 : Int32) (1 : Int32)) (fun q35 => F_X11_liar_l24 xFuel r33.2 a0 (some q35) (6 : Int32) (1 : Int32))))
theorem c_X11_liar {l : Launch} {G : xG} {rr : (Int32 × xT)} {u : xT} {a0 : Nat} {xa : Int32} (hF : F_X11_liar u a0 xa = some rr) : xMi l G yX11_liar cX11_liar 7 (Option.some Jvm.ClassFile.FieldType.int) 7 1 8 [.ref a0, .int xa] (tE G u) u.1 (fun r z => r = rr.1 ∧ z = ((tE G rr.2), rr.2.1)) := by
  unfold F_X11_liar at hF
  refine x_startI rfl (Nat.le_of_ble_eq_true rfl) (fun p e s m args below meth cd ls hE hnm hl hD => ?_)
  have hx := hE.1; have hb := hE.2.1
  have hl : lv_has ls 7 [(0, .ref a0), (1, .int xa)] := hl
  have hD : tD G (xA (tE G u) s.heap.size) s.heap u s.heap [] := hD
  refine lv_iload_n hx hb dX11_liar_0 rfl (lv_at hl 1 rfl) ?_
  obtain ⟨r29, k30, hF⟩ := xb_s hF
  refine kSz (As := [.int xa]) (rest := []) hE hl hD (c_X11_isGuessed k30) kl_X11_254 rfl rfl (Nat.le_of_ble_eq_true rfl) dX11_liar_1 ⟨Nat.le_of_ble_eq_true rfl, Nat.le_of_ble_eq_true rfl⟩ ⟨(by show 0 ≤ 1; omega), (by show 0 ≤ 8; omega)⟩ (fun H locs z31 (hD : tD G _ _ u H locs) => ?_)
  refine lv_if_ne (tgt := 9) hx hb dX11_liar_4 (by decide) (fun c32 => ?_) (fun c32 => ?_)
  · have hF := ite_n hF c32
    refine lv_iload_n hx hb dX11_liar_9 rfl (lv_at hl 1 rfl) ?_
    refine lv_iconst (v := (0 : Int32)) hx hb dX11_liar_10 (by decide) ?_
    refine lv_iconst (v := (1 : Int32)) hx hb dX11_liar_11 (by decide) ?_
    refine lv_iconst (v := (0 : Int32)) hx hb dX11_liar_12 (by decide) ?_
    refine lv_iconst (v := (0 : Int32)) hx hb dX11_liar_13 (by decide) ?_
    obtain ⟨r33, k34, hF⟩ := xb_s hF
    refine kSqA (As := [.int xa, .int (0 : Int32), .int (1 : Int32), .int (0 : Int32), .int (0 : Int32)]) (rest := []) hE hl hD (c_X11_made k34) kl_X11_120 rfl rfl (Nat.le_of_ble_eq_true rfl) dX11_liar_14 ⟨Nat.le_of_ble_eq_true rfl, Nat.le_of_ble_eq_true rfl⟩ ⟨(by show 0 + 1 ≤ 1; omega), (by show 0 + 8 ≤ 8; omega)⟩ (fun H locs (hD : tD G _ _ r33.2 H locs) => ?_)
    refine t_split hF (fun h36 hF => ?_) (fun q35 h36 hF => ?_)
    · refine lv_astore_nN (lv' := [(2, .null), (0, .ref a0), (1, .int xa)]) hx hb dX11_liar_17 rfl hl (by decide) rfl (fun ls hl => ?_)
      refine lv_bipush (v := (6 : Int32)) hx hb dX11_liar_18 (by decide) ?_
      refine lv_istore_n (lv' := [(3, .int (6 : Int32)), (2, .null), (0, .ref a0), (1, .int xa)]) hx hb dX11_liar_20 rfl hl (by decide) rfl (fun ls hl => ?_)
      refine lv_iconst (v := (1 : Int32)) hx hb dX11_liar_21 (by decide) ?_
      refine lv_istore (lv' := [(4, .int (1 : Int32)), (3, .int (6 : Int32)), (2, .null), (0, .ref a0), (1, .int xa)]) hx hb dX11_liar_22 hl (by decide) rfl (fun ls hl => ?_)
      exact L_X11_liar_l24 hE _ (by omega) (by omega) hD (lv_sub hl [3, 2, 1, 0] rfl) hF
    · refine lv_astore_n (lv' := [(2, .ref q35), (0, .ref a0), (1, .int xa)]) hx hb dX11_liar_17 rfl hl (by decide) rfl (fun ls hl => ?_)
      refine lv_bipush (v := (6 : Int32)) hx hb dX11_liar_18 (by decide) ?_
      refine lv_istore_n (lv' := [(3, .int (6 : Int32)), (2, .ref q35), (0, .ref a0), (1, .int xa)]) hx hb dX11_liar_20 rfl hl (by decide) rfl (fun ls hl => ?_)
      refine lv_iconst (v := (1 : Int32)) hx hb dX11_liar_21 (by decide) ?_
      refine lv_istore (lv' := [(4, .int (1 : Int32)), (3, .int (6 : Int32)), (2, .ref q35), (0, .ref a0), (1, .int xa)]) hx hb dX11_liar_22 hl (by decide) rfl (fun ls hl => ?_)
      exact L_X11_liar_l24 hE _ (by omega) (by omega) hD (lv_sub hl [3, 2, 1, 0] rfl) hF
  · have hF := ite_p hF c32
    refine lv_iconst (v := (-1 : Int32)) hx hb dX11_liar_7 (by decide) ?_
    obtain rfl := Option.some.inj hF
    exact x_iret hE hD ⟨rfl, rfl⟩ (by omega) (by omega) dX11_liar_8
def F_X11_setRowPart_j30 (u : xT) (a0 : Nat) : Option (xT) := some u
theorem B_X11_setRowPart_j30 {p : Program} {l : Launch} {e : Env} {s : State} {m : MethodId} {args : Array Value} {below : List Frame} {meth : Method} {cd : Code} {G : xG} {w0 : xW} {rr : (xT)} (hE : xE p s m args meth cd cX11_setRowPart RX11 G 5 (Option.none : Option Jvm.ClassFile.FieldType)) {u : xT} {a0 : Nat} {H : Heap} {locs : List Loc} {ls : Array Slot} (hD : tD G (xA w0 s.heap.size) s.heap u H locs) (hl : lv_has ls 5 [(0, .ref a0)]) (hF : F_X11_setRowPart_j30 u a0 = some rr) : W p l e (xR 2 0 0) s m args below meth cd H locs 0 0 (xQv G w0 (fun z => z = ((tE G rr), rr.1)) below args s 0 0) (F0 m 30 ls []) := by
  have hx := hE.1; have hb := hE.2.1
  unfold F_X11_setRowPart_j30 at hF
  obtain rfl := Option.some.inj hF
  exact x_vret hE hD rfl (by omega) (by omega) dX11_setRowPart_30
def F_X11_setRowPart (u : xT) (a0 : Nat) (xa : Int32) (xb : Int32) (xc : Int32) : Option (xT) := xlet ((xa * (3 : Int32)) + xb) (fun x1 => if x1 < 0 then F_X11_setRowPart_j30 u a0 else if tK u a0 = 11 then (tP u a0 5).bind (fun q4 => if tK u q4 = 20 then if (nI (tN u q4)) ≤ x1 then F_X11_setRowPart_j30 u a0 else (tP u a0 5).bind (fun q8 => if tK u q8 = 20 then if xIn x1 (tN u q8) then xlet (tSI u q8 x1.toNatClampNeg xc) (fun t12 => F_X11_setRowPart_j30 t12 a0) else none else none) else none) else none)
theorem c_X11_setRowPart {l : Launch} {G : xG} {rr : (xT)} {u : xT} {a0 : Nat} {xa : Int32} {xb : Int32} {xc : Int32} (hF : F_X11_setRowPart u a0 xa xb xc = some rr) : xMv l G yX11_setRowPart cX11_setRowPart 5 (Option.none : Option Jvm.ClassFile.FieldType) 2 0 0 [.ref a0, .int xa, .int xb, .int xc] (tE G u) u.1 (fun z => z = ((tE G rr), rr.1)) := by
  unfold F_X11_setRowPart at hF
  refine x_startV rfl (Nat.le_of_ble_eq_true rfl) (fun p e s m args below meth cd ls hE hnm hl hD => ?_)
  have hx := hE.1; have hb := hE.2.1
  have hl : lv_has ls 5 [(0, .ref a0), (1, .int xa), (2, .int xb), (3, .int xc)] := hl
  have hD : tD G (xA (tE G u) s.heap.size) s.heap u s.heap [] := hD
  refine lv_iload_n hx hb dX11_setRowPart_0 rfl (lv_at hl 1 rfl) ?_
  refine lv_iconst (v := (3 : Int32)) hx hb dX11_setRowPart_1 (by decide) ?_
  refine lv_imul hx hb dX11_setRowPart_2 ?_
  refine lv_iload_n hx hb dX11_setRowPart_3 rfl (lv_at hl 2 rfl) ?_
  refine lv_iadd hx hb dX11_setRowPart_4 ?_
  refine lv_topi (fun x1 ex1 => ?_)
  have hF := xlet_e hF ex1
  refine lv_istore (lv' := [(4, .int x1), (0, .ref a0), (1, .int xa), (2, .int xb), (3, .int xc)]) hx hb dX11_setRowPart_5 hl (by decide) rfl (fun ls hl => ?_)
  refine lv_iload hx hb dX11_setRowPart_7 (lv_at hl 0 rfl) ?_
  refine lv_if_lt (tgt := 30) hx hb dX11_setRowPart_9 (by decide) (fun c2 => ?_) (fun c2 => ?_)
  · have hF := ite_p hF c2
    exact B_X11_setRowPart_j30 hE hD (lv_sub hl [1] rfl) hF
  · have hF := ite_n hF c2
    refine lv_iload hx hb dX11_setRowPart_12 (lv_at hl 0 rfl) ?_
    refine lv_aload_n hx hb dX11_setRowPart_14 rfl (lv_at hl 1 rfl) ?_
    obtain ⟨h3, hF⟩ := ite_s hF
    obtain ⟨q4, h5, hF⟩ := xb_s hF
    refine gr_X11_31 hE hD h3 h5 dX11_setRowPart_15 ?_
    obtain ⟨h6, hF⟩ := ite_s hF
    refine t_alen hE hD h6 dX11_setRowPart_18 ?_
    refine lv_icmp_ge (tgt := 30) hx hb dX11_setRowPart_19 (by decide) (fun c7 => ?_) (fun c7 => ?_)
    · have hF := ite_p hF c7
      exact B_X11_setRowPart_j30 hE hD (lv_sub hl [1] rfl) hF
    · have hF := ite_n hF c7
      refine lv_aload_n hx hb dX11_setRowPart_22 rfl (lv_at hl 1 rfl) ?_
      obtain ⟨q8, h9, hF⟩ := xb_s hF
      refine gr_X11_31 hE hD h3 h9 dX11_setRowPart_23 ?_
      refine lv_iload hx hb dX11_setRowPart_26 (lv_at hl 0 rfl) ?_
      refine lv_iload_n hx hb dX11_setRowPart_28 rfl (lv_at hl 4 rfl) ?_
      obtain ⟨h10, hF⟩ := ite_s hF
      obtain ⟨h11, hF⟩ := ite_s hF
      refine t_iast hE hD h10 h11 dX11_setRowPart_29 (fun t12 H locs et12 hD => ?_)
      have hF := xlet_e hF et12
      have h13 : tK t12 a0 = 11 := by rw [et12]; exact h3
      have h14 : tK t12 q4 = 20 := by rw [et12]; exact h6
      have h15 : tK t12 q8 = 20 := by rw [et12]; exact h10
      exact B_X11_setRowPart_j30 hE hD (lv_sub hl [1] rfl) hF
def F_X11_prove_j115 (u : xT) (a0 : Nat) : Option (Int32 × xT) := if tK u a0 = 11 then some (tI u a0 6, u) else none
theorem B_X11_prove_j115 {p : Program} {l : Launch} {e : Env} {s : State} {m : MethodId} {args : Array Value} {below : List Frame} {meth : Method} {cd : Code} {G : xG} {w0 : xW} {rr : (Int32 × xT)} (hE : xE p s m args meth cd cX11_prove RX11 G 8 (Option.some Jvm.ClassFile.FieldType.int)) {u : xT} {a0 : Nat} {H : Heap} {locs : List Loc} {ls : Array Slot} (hD : tD G (xA w0 s.heap.size) s.heap u H locs) (hl : lv_has ls 8 [(0, .ref a0)]) (hF : F_X11_prove_j115 u a0 = some rr) : W p l e (xR 6 0 0) s m args below meth cd H locs 0 0 (xQi G w0 (fun r z => r = rr.1 ∧ z = ((tE G rr.2), rr.2.1)) below args s 0 0) (F0 m 115 ls []) := by
  have hx := hE.1; have hb := hE.2.1
  unfold F_X11_prove_j115 at hF
  refine lv_aload_n hx hb dX11_prove_115 rfl (lv_at hl 0 rfl) ?_
  obtain ⟨h1, hF⟩ := ite_s hF
  refine gf_X11_34 hE hD h1 dX11_prove_116 ?_
  obtain rfl := Option.some.inj hF
  exact x_iret hE hD ⟨rfl, rfl⟩ (by omega) (by omega) dX11_prove_119
def F_X11_prove_l45 : Nat → xT → Nat → Int32 → Nat → Int32 → Int32 → Option (Int32 × xT)
  | 0, _, _, _, _, _, _ => none
  | nn + 1, u, a0, y3, y4, y5, y6 => if y3 ≤ y6 then F_X11_prove_j115 u a0 else if isBk (tK u y4) then (F_X0_becomes u y4 y5).bind (fun r4 => if 0 ≤ r4 then if tK u a0 = 11 then xlet (tSI u a0 6 (y6 + (1 : Int32))) (fun t8 => (F_X11_setRowPart t8 a0 y6 (0 : Int32) (y6 + (1 : Int32))).bind (fun r11 => if tK r11 a0 = 11 then (F_X11_setRowPart r11 a0 y6 (1 : Int32) y5).bind (fun r14 => if tK r14 a0 = 11 then (F_X11_setRowPart r14 a0 y6 (2 : Int32) r4).bind (fun r17 => xlet (y6 + (1 : Int32)) (fun x19 => F_X11_prove_l45 nn r17 a0 y3 y4 r4 x19)) else none) else none)) else none else F_X11_prove_j115 u a0) else none
theorem L_X11_prove_l45 {p : Program} {l : Launch} {e : Env} {s : State} {m : MethodId} {args : Array Value} {below : List Frame} {meth : Method} {cd : Code} {G : xG} {w0 : xW} {rr : (Int32 × xT)} (hE : xE p s m args meth cd cX11_prove RX11 G 8 (Option.some Jvm.ClassFile.FieldType.int)) : ∀ (nn : Nat) {u : xT} {a0 : Nat} {y3 : Int32} {y4 : Nat} {y5 : Int32} {y6 : Int32} {H : Heap} {locs : List Loc} {ls : Array Slot} , tD G (xA w0 s.heap.size) s.heap u H locs → lv_has ls 8 [(0, .ref a0), (3, .int y3), (4, .ref y4), (5, .int y5), (6, .int y6)] → F_X11_prove_l45 nn u a0 y3 y4 y5 y6 = some rr → W p l e (xR 6 0 0) s m args below meth cd H locs 0 0 (xQi G w0 (fun r z => r = rr.1 ∧ z = ((tE G rr.2), rr.2.1)) below args s 0 0) (F0 m 45 ls []) := by
  have hx := hE.1; have hb := hE.2.1
  intro nn
  induction nn with
  | zero => intro u a0 y3 y4 y5 y6 H locs ls hD hl hF; rw [F_X11_prove_l45] at hF; cases hF
  | succ nn ih =>
    intro u a0 y3 y4 y5 y6 H locs ls hD hl hF
    rw [F_X11_prove_l45] at hF
    refine lv_iload hx hb dX11_prove_45 (lv_at hl 4 rfl) ?_
    refine lv_iload_n hx hb dX11_prove_47 rfl (lv_at hl 1 rfl) ?_
    refine lv_icmp_ge (tgt := 115) hx hb dX11_prove_48 (by decide) (fun c2 => ?_) (fun c2 => ?_)
    · have hF := ite_p hF c2
      exact B_X11_prove_j115 hE hD (lv_sub hl [0] rfl) hF
    · have hF := ite_n hF c2
      refine lv_aload hx hb dX11_prove_51 (lv_at hl 2 rfl) ?_
      refine lv_iload hx hb dX11_prove_53 (lv_at hl 3 rfl) ?_
      obtain ⟨h3, hF⟩ := ite_s hF
      obtain ⟨r4, k5, hF⟩ := xb_s hF
      refine kB_X11_173 (rest := []) hE hl hD h3 k5 (Nat.le_of_ble_eq_true rfl) dX11_prove_55 ⟨Nat.le_of_ble_eq_true rfl, Nat.le_of_ble_eq_true rfl⟩ ⟨Nat.le_of_ble_eq_true rfl, Nat.le_of_ble_eq_true rfl⟩ (fun H locs (hD : tD G _ _ u H locs) => ?_)
      refine lv_istore (lv' := [(7, .int r4), (0, .ref a0), (3, .int y3), (4, .ref y4), (5, .int y5), (6, .int y6)]) hx hb dX11_prove_58 hl (by decide) rfl (fun ls hl => ?_)
      refine lv_iload hx hb dX11_prove_60 (lv_at hl 0 rfl) ?_
      refine lv_if_ge (tgt := 68) hx hb dX11_prove_62 (by decide) (fun c6 => ?_) (fun c6 => ?_)
      · have hF := ite_p hF c6
        refine lv_aload_n hx hb dX11_prove_68 rfl (lv_at hl 1 rfl) ?_
        refine lv_iload hx hb dX11_prove_69 (lv_at hl 5 rfl) ?_
        refine lv_iconst (v := (1 : Int32)) hx hb dX11_prove_71 (by decide) ?_
        refine lv_iadd hx hb dX11_prove_72 ?_
        obtain ⟨h7, hF⟩ := ite_s hF
        refine pf_X11_34 hE hD h7 dX11_prove_73 (fun t8 H locs et8 hD => ?_)
        have hF := xlet_e hF et8
        have h9 : isBk (tK t8 y4) := by rw [et8]; exact h3
        have h10 : tK t8 a0 = 11 := by rw [et8]; exact h7
        refine lv_aload_n hx hb dX11_prove_76 rfl (lv_at hl 1 rfl) ?_
        refine lv_iload hx hb dX11_prove_77 (lv_at hl 5 rfl) ?_
        refine lv_iconst (v := (0 : Int32)) hx hb dX11_prove_79 (by decide) ?_
        refine lv_iload hx hb dX11_prove_80 (lv_at hl 5 rfl) ?_
        refine lv_iconst (v := (1 : Int32)) hx hb dX11_prove_82 (by decide) ?_
        refine lv_iadd hx hb dX11_prove_83 ?_
        obtain ⟨r11, k12, hF⟩ := xb_s hF
        refine kVv (As := [.int y6, .int (0 : Int32), .int (y6 + (1 : Int32))]) (rest := []) hE hl hD (c_X11_setRowPart k12) kl_X11_269 (tE_11 h10) rfl rfl rfl rfl (Nat.le_of_ble_eq_true rfl) dX11_prove_84 ⟨Nat.le_of_ble_eq_true rfl, Nat.le_of_ble_eq_true rfl⟩ ⟨Nat.le_of_ble_eq_true rfl, Nat.le_of_ble_eq_true rfl⟩ (fun H locs (hD : tD G _ _ r11 H locs) => ?_)
        refine lv_aload_n hx hb dX11_prove_87 rfl (lv_at hl 1 rfl) ?_
        refine lv_iload hx hb dX11_prove_88 (lv_at hl 5 rfl) ?_
        refine lv_iconst (v := (1 : Int32)) hx hb dX11_prove_90 (by decide) ?_
        refine lv_iload hx hb dX11_prove_91 (lv_at hl 4 rfl) ?_
        obtain ⟨h13, hF⟩ := ite_s hF
        obtain ⟨r14, k15, hF⟩ := xb_s hF
        refine kVv (As := [.int y6, .int (1 : Int32), .int y5]) (rest := []) hE hl hD (c_X11_setRowPart k15) kl_X11_269 (tE_11 h13) rfl rfl rfl rfl (Nat.le_of_ble_eq_true rfl) dX11_prove_93 ⟨Nat.le_of_ble_eq_true rfl, Nat.le_of_ble_eq_true rfl⟩ ⟨Nat.le_of_ble_eq_true rfl, Nat.le_of_ble_eq_true rfl⟩ (fun H locs (hD : tD G _ _ r14 H locs) => ?_)
        refine lv_aload_n hx hb dX11_prove_96 rfl (lv_at hl 1 rfl) ?_
        refine lv_iload hx hb dX11_prove_97 (lv_at hl 5 rfl) ?_
        refine lv_iconst (v := (2 : Int32)) hx hb dX11_prove_99 (by decide) ?_
        refine lv_iload hx hb dX11_prove_100 (lv_at hl 0 rfl) ?_
        obtain ⟨h16, hF⟩ := ite_s hF
        obtain ⟨r17, k18, hF⟩ := xb_s hF
        refine kVv (As := [.int y6, .int (2 : Int32), .int r4]) (rest := []) hE hl hD (c_X11_setRowPart k18) kl_X11_269 (tE_11 h16) rfl rfl rfl rfl (Nat.le_of_ble_eq_true rfl) dX11_prove_102 ⟨Nat.le_of_ble_eq_true rfl, Nat.le_of_ble_eq_true rfl⟩ ⟨Nat.le_of_ble_eq_true rfl, Nat.le_of_ble_eq_true rfl⟩ (fun H locs (hD : tD G _ _ r17 H locs) => ?_)
        refine lv_iload hx hb dX11_prove_105 (lv_at hl 0 rfl) ?_
        refine lv_istore (lv' := [(5, .int r4), (7, .int r4), (0, .ref a0), (3, .int y3), (4, .ref y4), (6, .int y6)]) hx hb dX11_prove_107 hl (by decide) rfl (fun ls hl => ?_)
        obtain ⟨x19, ex19⟩ : ∃ y : Int32, y = y6 + (1 : Int32) := ⟨_, rfl⟩
        have hF := xlet_e hF ex19
        refine lv_iinc (v := x19) (lv' := [(6, .int x19), (5, .int r4), (7, .int r4), (0, .ref a0), (3, .int y3), (4, .ref y4)]) hx hb dX11_prove_109 hl (k := 5) rfl (by rw [ex19]; rfl) (by decide) rfl (fun ls hl => ?_)
        refine lv_goto (tgt := 45) hx hb dX11_prove_112 (by decide) ?_
        exact ih hD (lv_sub hl [3, 4, 5, 1, 0] rfl) hF
      · have hF := ite_n hF c6
        refine lv_goto (tgt := 115) hx hb dX11_prove_65 (by decide) ?_
        exact B_X11_prove_j115 hE hD (lv_sub hl [1] rfl) hF
def F_X11_prove_j32 (u : xT) (a0 : Nat) : Option (Int32 × xT) := some ((-1 : Int32), u)
theorem B_X11_prove_j32 {p : Program} {l : Launch} {e : Env} {s : State} {m : MethodId} {args : Array Value} {below : List Frame} {meth : Method} {cd : Code} {G : xG} {w0 : xW} {rr : (Int32 × xT)} (hE : xE p s m args meth cd cX11_prove RX11 G 8 (Option.some Jvm.ClassFile.FieldType.int)) {u : xT} {a0 : Nat} {H : Heap} {locs : List Loc} {ls : Array Slot} (hD : tD G (xA w0 s.heap.size) s.heap u H locs) (hl : lv_has ls 8 [(0, .ref a0)]) (hF : F_X11_prove_j32 u a0 = some rr) : W p l e (xR 6 0 0) s m args below meth cd H locs 0 0 (xQi G w0 (fun r z => r = rr.1 ∧ z = ((tE G rr.2), rr.2.1)) below args s 0 0) (F0 m 32 ls []) := by
  have hx := hE.1; have hb := hE.2.1
  unfold F_X11_prove_j32 at hF
  refine lv_iconst (v := (-1 : Int32)) hx hb dX11_prove_32 (by decide) ?_
  obtain rfl := Option.some.inj hF
  exact x_iret hE hD ⟨rfl, rfl⟩ (by omega) (by omega) dX11_prove_33
def F_X11_prove (u : xT) (a0 : Nat) (xa : Int32) (xb : Int32) (xc : Int32) : Option (Int32 × xT) := if tK u a0 = 11 then (tP u a0 0).bind (fun q21 => if tK u q21 = 7 then (F_X7_bridgeAt u q21 xa).bind (fun r24 => xopt (r24) (F_X11_prove_j32 u a0) (fun q26 => (F_X11_isPurse xb).bind (fun r28 => if r28 = 0 then F_X11_prove_j32 u a0 else (F_X11_isIn xc (1 : Int32) (20 : Int32)).bind (fun r32 => if r32 = 0 then F_X11_prove_j32 u a0 else xlet (tSI u a0 6 (0 : Int32)) (fun t36 => F_X11_prove_l45 xFuel t36 a0 xc q26 xb (0 : Int32)))))) else none) else none
theorem c_X11_prove {l : Launch} {G : xG} {rr : (Int32 × xT)} {u : xT} {a0 : Nat} {xa : Int32} {xb : Int32} {xc : Int32} (hF : F_X11_prove u a0 xa xb xc = some rr) : xMi l G yX11_prove cX11_prove 8 (Option.some Jvm.ClassFile.FieldType.int) 6 0 0 [.ref a0, .int xa, .int xb, .int xc] (tE G u) u.1 (fun r z => r = rr.1 ∧ z = ((tE G rr.2), rr.2.1)) := by
  unfold F_X11_prove at hF
  refine x_startI rfl (Nat.le_of_ble_eq_true rfl) (fun p e s m args below meth cd ls hE hnm hl hD => ?_)
  have hx := hE.1; have hb := hE.2.1
  have hl : lv_has ls 8 [(0, .ref a0), (1, .int xa), (2, .int xb), (3, .int xc)] := hl
  have hD : tD G (xA (tE G u) s.heap.size) s.heap u s.heap [] := hD
  refine lv_aload_n hx hb dX11_prove_0 rfl (lv_at hl 0 rfl) ?_
  obtain ⟨h20, hF⟩ := ite_s hF
  obtain ⟨q21, h22, hF⟩ := xb_s hF
  refine gr_X11_10 hE hD h20 h22 dX11_prove_1 ?_
  refine lv_iload_n hx hb dX11_prove_4 rfl (lv_at hl 1 rfl) ?_
  obtain ⟨h23, hF⟩ := ite_s hF
  obtain ⟨r24, k25, hF⟩ := xb_s hF
  refine kVq (As := [.int xa]) (rest := []) hE hl hD (c_X7_bridgeAt k25) kl_X11_82 (tE_7 h23) rfl rfl rfl rfl (Nat.le_of_ble_eq_true rfl) dX11_prove_5 ⟨Nat.le_of_ble_eq_true rfl, Nat.le_of_ble_eq_true rfl⟩ ⟨Nat.le_of_ble_eq_true rfl, Nat.le_of_ble_eq_true rfl⟩ (fun H locs (hD : tD G _ _ u H locs) => ?_)
  refine t_split hF (fun h27 hF => ?_) (fun q26 h27 hF => ?_)
  · refine lv_astoreN (lv' := [(4, .null), (0, .ref a0), (1, .int xa), (2, .int xb), (3, .int xc)]) hx hb dX11_prove_8 hl (by decide) rfl (fun ls hl => ?_)
    refine lv_aloadN hx hb dX11_prove_10 (lv_at hl 0 rfl) ?_
    refine lv_ifnullN (tgt := 32) hx hb dX11_prove_12 (by decide) ?_
    exact B_X11_prove_j32 hE hD (lv_sub hl [1] rfl) hF
  · refine lv_astore (lv' := [(4, .ref q26), (0, .ref a0), (1, .int xa), (2, .int xb), (3, .int xc)]) hx hb dX11_prove_8 hl (by decide) rfl (fun ls hl => ?_)
    refine lv_aload hx hb dX11_prove_10 (lv_at hl 0 rfl) ?_
    refine lv_ifnull hx hb dX11_prove_12 ?_
    refine lv_iload_n hx hb dX11_prove_15 rfl (lv_at hl 3 rfl) ?_
    obtain ⟨r28, k29, hF⟩ := xb_s hF
    refine kSz (As := [.int xb]) (rest := []) hE hl hD (c_X11_isPurse k29) kl_X11_154 rfl rfl (Nat.le_of_ble_eq_true rfl) dX11_prove_16 ⟨Nat.le_of_ble_eq_true rfl, Nat.le_of_ble_eq_true rfl⟩ ⟨Nat.le_of_ble_eq_true rfl, Nat.le_of_ble_eq_true rfl⟩ (fun H locs z30 (hD : tD G _ _ u H locs) => ?_)
    refine lv_if_eq (tgt := 32) hx hb dX11_prove_19 (by decide) (fun c31 => ?_) (fun c31 => ?_)
    · have hF := ite_p hF c31
      exact B_X11_prove_j32 hE hD (lv_sub hl [1] rfl) hF
    · have hF := ite_n hF c31
      refine lv_iload_n hx hb dX11_prove_22 rfl (lv_at hl 4 rfl) ?_
      refine lv_iconst (v := (1 : Int32)) hx hb dX11_prove_23 (by decide) ?_
      refine lv_bipush (v := (20 : Int32)) hx hb dX11_prove_24 (by decide) ?_
      obtain ⟨r32, k33, hF⟩ := xb_s hF
      refine kSz (As := [.int xc, .int (1 : Int32), .int (20 : Int32)]) (rest := []) hE hl hD (c_X11_isIn k33) kl_X11_183 rfl rfl (Nat.le_of_ble_eq_true rfl) dX11_prove_26 ⟨Nat.le_of_ble_eq_true rfl, Nat.le_of_ble_eq_true rfl⟩ ⟨Nat.le_of_ble_eq_true rfl, Nat.le_of_ble_eq_true rfl⟩ (fun H locs z34 (hD : tD G _ _ u H locs) => ?_)
      refine lv_if_ne (tgt := 34) hx hb dX11_prove_29 (by decide) (fun c35 => ?_) (fun c35 => ?_)
      · have hF := ite_n hF c35
        refine lv_aload_n hx hb dX11_prove_34 rfl (lv_at hl 1 rfl) ?_
        refine lv_iconst (v := (0 : Int32)) hx hb dX11_prove_35 (by decide) ?_
        refine pf_X11_34 hE hD h20 dX11_prove_36 (fun t36 H locs et36 hD => ?_)
        have hF := xlet_e hF et36
        have h37 : tK t36 a0 = 11 := by rw [et36]; exact h20
        have h38 : tK t36 q21 = 7 := by rw [et36]; exact h23
        refine lv_iload_n hx hb dX11_prove_39 rfl (lv_at hl 3 rfl) ?_
        refine lv_istore (lv' := [(5, .int xb), (4, .ref q26), (0, .ref a0), (1, .int xa), (2, .int xb), (3, .int xc)]) hx hb dX11_prove_40 hl (by decide) rfl (fun ls hl => ?_)
        refine lv_iconst (v := (0 : Int32)) hx hb dX11_prove_42 (by decide) ?_
        refine lv_istore (lv' := [(6, .int (0 : Int32)), (5, .int xb), (4, .ref q26), (0, .ref a0), (1, .int xa), (2, .int xb), (3, .int xc)]) hx hb dX11_prove_43 hl (by decide) rfl (fun ls hl => ?_)
        exact L_X11_prove_l45 hE _ hD (lv_sub hl [3, 6, 2, 1, 0] rfl) hF
      · have hF := ite_p hF c35
        exact B_X11_prove_j32 hE hD (lv_sub hl [1] rfl) hF
def F_X11_isRowPart_j26 (u : xT) (a0 : Nat) (s0 : Int32) : Option Int32 := if s0 = 0 ∨ s0 = 1 then some s0 else none
theorem B_X11_isRowPart_j26 {p : Program} {l : Launch} {e : Env} {s : State} {m : MethodId} {args : Array Value} {below : List Frame} {meth : Method} {cd : Code} {G : xG} {w0 : xW} {rr : Int32} (hE : xE p s m args meth cd cX11_isRowPart RX11 G 3 (Option.some Jvm.ClassFile.FieldType.boolean)) {u : xT} {a0 : Nat} {s0 : Int32} {H : Heap} {locs : List Loc} {ls : Array Slot} (hD : tD G (xA w0 s.heap.size) s.heap u H locs) (hl : lv_has ls 3 [(0, .ref a0)]) (hF : F_X11_isRowPart_j26 u a0 s0 = some rr) : W p l e (xR 3 0 0) s m args below meth cd H locs 0 0 (xQi G w0 (fun r z => r = rr ∧ (rr = 0 ∨ rr = 1) ∧ z = ((tE G u), u.1)) below args s 0 0) (F0 m 26 ls [.int s0]) := by
  have hx := hE.1; have hb := hE.2.1
  unfold F_X11_isRowPart_j26 at hF
  obtain ⟨h1, hF⟩ := ite_s hF
  obtain rfl := Option.some.inj hF
  exact x_zret hE hD h1 ⟨rfl, h1, rfl⟩ (by omega) (by omega) dX11_isRowPart_26
def F_X11_isRowPart_j25 (u : xT) (a0 : Nat) : Option Int32 := F_X11_isRowPart_j26 u a0 (0 : Int32)
theorem B_X11_isRowPart_j25 {p : Program} {l : Launch} {e : Env} {s : State} {m : MethodId} {args : Array Value} {below : List Frame} {meth : Method} {cd : Code} {G : xG} {w0 : xW} {rr : Int32} (hE : xE p s m args meth cd cX11_isRowPart RX11 G 3 (Option.some Jvm.ClassFile.FieldType.boolean)) {u : xT} {a0 : Nat} {H : Heap} {locs : List Loc} {ls : Array Slot} (hD : tD G (xA w0 s.heap.size) s.heap u H locs) (hl : lv_has ls 3 [(0, .ref a0)]) (hF : F_X11_isRowPart_j25 u a0 = some rr) : W p l e (xR 3 0 0) s m args below meth cd H locs 0 0 (xQi G w0 (fun r z => r = rr ∧ (rr = 0 ∨ rr = 1) ∧ z = ((tE G u), u.1)) below args s 0 0) (F0 m 25 ls []) := by
  have hx := hE.1; have hb := hE.2.1
  unfold F_X11_isRowPart_j25 at hF
  refine lv_iconst (v := (0 : Int32)) hx hb dX11_isRowPart_25 (by decide) ?_
  exact B_X11_isRowPart_j26 hE hD (lv_sub hl [0] rfl) hF
def F_X11_isRowPart (u : xT) (a0 : Nat) (xa : Int32) (xb : Int32) : Option Int32 := if xa < 0 then F_X11_isRowPart_j25 u a0 else if tK u a0 = 11 then if (tI u a0 6) ≤ xa then F_X11_isRowPart_j25 u a0 else (F_X11_isIn xb (0 : Int32) (2 : Int32)).bind (fun r5 => if r5 = 0 then F_X11_isRowPart_j25 u a0 else F_X11_isRowPart_j26 u a0 (1 : Int32)) else none
theorem c_X11_isRowPart {l : Launch} {G : xG} {rr : Int32} {u : xT} {a0 : Nat} {xa : Int32} {xb : Int32} (hF : F_X11_isRowPart u a0 xa xb = some rr) : xMi l G yX11_isRowPart cX11_isRowPart 3 (Option.some Jvm.ClassFile.FieldType.boolean) 3 0 0 [.ref a0, .int xa, .int xb] (tE G u) u.1 (fun r z => r = rr ∧ (rr = 0 ∨ rr = 1) ∧ z = ((tE G u), u.1)) := by
  unfold F_X11_isRowPart at hF
  refine x_startI rfl (Nat.le_of_ble_eq_true rfl) (fun p e s m args below meth cd ls hE hnm hl hD => ?_)
  have hx := hE.1; have hb := hE.2.1
  have hl : lv_has ls 3 [(0, .ref a0), (1, .int xa), (2, .int xb)] := hl
  have hD : tD G (xA (tE G u) s.heap.size) s.heap u s.heap [] := hD
  refine lv_iload_n hx hb dX11_isRowPart_0 rfl (lv_at hl 1 rfl) ?_
  refine lv_if_lt (tgt := 25) hx hb dX11_isRowPart_1 (by decide) (fun c2 => ?_) (fun c2 => ?_)
  · have hF := ite_p hF c2
    exact B_X11_isRowPart_j25 hE hD (lv_sub hl [0] rfl) hF
  · have hF := ite_n hF c2
    refine lv_iload_n hx hb dX11_isRowPart_4 rfl (lv_at hl 1 rfl) ?_
    refine lv_aload_n hx hb dX11_isRowPart_5 rfl (lv_at hl 0 rfl) ?_
    obtain ⟨h3, hF⟩ := ite_s hF
    refine gf_X11_34 hE hD h3 dX11_isRowPart_6 ?_
    refine lv_icmp_ge (tgt := 25) hx hb dX11_isRowPart_9 (by decide) (fun c4 => ?_) (fun c4 => ?_)
    · have hF := ite_p hF c4
      exact B_X11_isRowPart_j25 hE hD (lv_sub hl [0] rfl) hF
    · have hF := ite_n hF c4
      refine lv_iload_n hx hb dX11_isRowPart_12 rfl (lv_at hl 2 rfl) ?_
      refine lv_iconst (v := (0 : Int32)) hx hb dX11_isRowPart_13 (by decide) ?_
      refine lv_iconst (v := (2 : Int32)) hx hb dX11_isRowPart_14 (by decide) ?_
      obtain ⟨r5, k6, hF⟩ := xb_s hF
      refine kSz (As := [.int xb, .int (0 : Int32), .int (2 : Int32)]) (rest := []) hE hl hD (c_X11_isIn k6) kl_X11_183 rfl rfl (Nat.le_of_ble_eq_true rfl) dX11_isRowPart_15 ⟨Nat.le_of_ble_eq_true rfl, Nat.le_of_ble_eq_true rfl⟩ ⟨Nat.le_of_ble_eq_true rfl, Nat.le_of_ble_eq_true rfl⟩ (fun H locs z7 (hD : tD G _ _ u H locs) => ?_)
      refine lv_if_eq (tgt := 25) hx hb dX11_isRowPart_18 (by decide) (fun c8 => ?_) (fun c8 => ?_)
      · have hF := ite_p hF c8
        exact B_X11_isRowPart_j25 hE hD (lv_sub hl [0] rfl) hF
      · have hF := ite_n hF c8
        refine lv_iconst (v := (1 : Int32)) hx hb dX11_isRowPart_21 (by decide) ?_
        refine lv_goto (tgt := 26) hx hb dX11_isRowPart_22 (by decide) ?_
        exact B_X11_isRowPart_j26 hE hD (lv_sub hl [0] rfl) hF
def F_X11_rowPart (u : xT) (a0 : Nat) (xa : Int32) (xb : Int32) : Option Int32 := if tK u a0 = 11 then (tP u a0 5).bind (fun q2 => (F_X11_entryOf u q2 ((xa * (3 : Int32)) + xb)).bind (fun r4 => some r4)) else none
theorem c_X11_rowPart {l : Launch} {G : xG} {rr : Int32} {u : xT} {a0 : Nat} {xa : Int32} {xb : Int32} (hF : F_X11_rowPart u a0 xa xb = some rr) : xMi l G yX11_rowPart cX11_rowPart 3 (Option.some Jvm.ClassFile.FieldType.int) 3 0 0 [.ref a0, .int xa, .int xb] (tE G u) u.1 (fun r z => r = rr ∧ z = ((tE G u), u.1)) := by
  unfold F_X11_rowPart at hF
  refine x_startI rfl (Nat.le_of_ble_eq_true rfl) (fun p e s m args below meth cd ls hE hnm hl hD => ?_)
  have hx := hE.1; have hb := hE.2.1
  have hl : lv_has ls 3 [(0, .ref a0), (1, .int xa), (2, .int xb)] := hl
  have hD : tD G (xA (tE G u) s.heap.size) s.heap u s.heap [] := hD
  refine lv_aload_n hx hb dX11_rowPart_0 rfl (lv_at hl 0 rfl) ?_
  obtain ⟨h1, hF⟩ := ite_s hF
  obtain ⟨q2, h3, hF⟩ := xb_s hF
  refine gr_X11_31 hE hD h1 h3 dX11_rowPart_1 ?_
  refine lv_iload_n hx hb dX11_rowPart_4 rfl (lv_at hl 1 rfl) ?_
  refine lv_iconst (v := (3 : Int32)) hx hb dX11_rowPart_5 (by decide) ?_
  refine lv_imul hx hb dX11_rowPart_6 ?_
  refine lv_iload_n hx hb dX11_rowPart_7 rfl (lv_at hl 2 rfl) ?_
  refine lv_iadd hx hb dX11_rowPart_8 ?_
  obtain ⟨r4, k5, hF⟩ := xb_s hF
  refine kSi (As := [.ref q2, .int ((xa * (3 : Int32)) + xb)]) (rest := []) hE hl hD (c_X11_entryOf k5) kl_X11_347 rfl rfl (Nat.le_of_ble_eq_true rfl) dX11_rowPart_9 ⟨Nat.le_of_ble_eq_true rfl, Nat.le_of_ble_eq_true rfl⟩ ⟨Nat.le_of_ble_eq_true rfl, Nat.le_of_ble_eq_true rfl⟩ (fun H locs (hD : tD G _ _ u H locs) => ?_)
  obtain rfl := Option.some.inj hF
  exact x_iret hE hD ⟨rfl, rfl⟩ (by omega) (by omega) dX11_rowPart_12
def F_X11_row_j20 (u : xT) (a0 : Nat) (s0 : Int32) : Option Int32 := some s0
theorem B_X11_row_j20 {p : Program} {l : Launch} {e : Env} {s : State} {m : MethodId} {args : Array Value} {below : List Frame} {meth : Method} {cd : Code} {G : xG} {w0 : xW} {rr : Int32} (hE : xE p s m args meth cd cX11_row RX11 G 3 (Option.some Jvm.ClassFile.FieldType.int)) {u : xT} {a0 : Nat} {s0 : Int32} {H : Heap} {locs : List Loc} {ls : Array Slot} (hD : tD G (xA w0 s.heap.size) s.heap u H locs) (hl : lv_has ls 3 [(0, .ref a0)]) (hF : F_X11_row_j20 u a0 s0 = some rr) : W p l e (xR 4 0 0) s m args below meth cd H locs 0 0 (xQi G w0 (fun r z => r = rr ∧ z = ((tE G u), u.1)) below args s 0 0) (F0 m 20 ls [.int s0]) := by
  have hx := hE.1; have hb := hE.2.1
  unfold F_X11_row_j20 at hF
  obtain rfl := Option.some.inj hF
  exact x_iret hE hD ⟨rfl, rfl⟩ (by omega) (by omega) dX11_row_20
def F_X11_row (u : xT) (a0 : Nat) (xa : Int32) (xb : Int32) : Option Int32 := if tK u a0 = 11 then (F_X11_isRowPart u a0 xa xb).bind (fun r2 => if r2 = 0 then F_X11_row_j20 u a0 (-9 : Int32) else (F_X11_rowPart u a0 xa xb).bind (fun r6 => F_X11_row_j20 u a0 r6)) else none
theorem c_X11_row {l : Launch} {G : xG} {rr : Int32} {u : xT} {a0 : Nat} {xa : Int32} {xb : Int32} (hF : F_X11_row u a0 xa xb = some rr) : xMi l G yX11_row cX11_row 3 (Option.some Jvm.ClassFile.FieldType.int) 4 0 0 [.ref a0, .int xa, .int xb] (tE G u) u.1 (fun r z => r = rr ∧ z = ((tE G u), u.1)) := by
  unfold F_X11_row at hF
  refine x_startI rfl (Nat.le_of_ble_eq_true rfl) (fun p e s m args below meth cd ls hE hnm hl hD => ?_)
  have hx := hE.1; have hb := hE.2.1
  have hl : lv_has ls 3 [(0, .ref a0), (1, .int xa), (2, .int xb)] := hl
  have hD : tD G (xA (tE G u) s.heap.size) s.heap u s.heap [] := hD
  refine lv_aload_n hx hb dX11_row_0 rfl (lv_at hl 0 rfl) ?_
  refine lv_iload_n hx hb dX11_row_1 rfl (lv_at hl 1 rfl) ?_
  refine lv_iload_n hx hb dX11_row_2 rfl (lv_at hl 2 rfl) ?_
  obtain ⟨h1, hF⟩ := ite_s hF
  obtain ⟨r2, k3, hF⟩ := xb_s hF
  refine kVz (As := [.int xa, .int xb]) (rest := []) hE hl hD (c_X11_isRowPart k3) kl_X11_272 (tE_11 h1) rfl rfl rfl rfl (Nat.le_of_ble_eq_true rfl) dX11_row_3 ⟨Nat.le_of_ble_eq_true rfl, Nat.le_of_ble_eq_true rfl⟩ ⟨Nat.le_of_ble_eq_true rfl, Nat.le_of_ble_eq_true rfl⟩ (fun H locs z4 (hD : tD G _ _ u H locs) => ?_)
  refine lv_if_eq (tgt := 18) hx hb dX11_row_6 (by decide) (fun c5 => ?_) (fun c5 => ?_)
  · have hF := ite_p hF c5
    refine lv_bipush (v := (-9 : Int32)) hx hb dX11_row_18 (by decide) ?_
    exact B_X11_row_j20 hE hD (lv_sub hl [0] rfl) hF
  · have hF := ite_n hF c5
    refine lv_aload_n hx hb dX11_row_9 rfl (lv_at hl 0 rfl) ?_
    refine lv_iload_n hx hb dX11_row_10 rfl (lv_at hl 1 rfl) ?_
    refine lv_iload_n hx hb dX11_row_11 rfl (lv_at hl 2 rfl) ?_
    obtain ⟨r6, k7, hF⟩ := xb_s hF
    refine kVi (As := [.int xa, .int xb]) (rest := []) hE hl hD (c_X11_rowPart k7) kl_X11_276 (tE_11 h1) rfl rfl rfl rfl (Nat.le_of_ble_eq_true rfl) dX11_row_12 ⟨Nat.le_of_ble_eq_true rfl, Nat.le_of_ble_eq_true rfl⟩ ⟨Nat.le_of_ble_eq_true rfl, Nat.le_of_ble_eq_true rfl⟩ (fun H locs (hD : tD G _ _ u H locs) => ?_)
    refine lv_goto (tgt := 20) hx hb dX11_row_15 (by decide) ?_
    exact B_X11_row_j20 hE hD (lv_sub hl [0] rfl) hF
def F_X11_alterRow (u : xT) (a0 : Nat) (xa : Int32) (xb : Int32) (xc : Int32) : Option (Int32 × xT) := if tK u a0 = 11 then (F_X11_isRowPart u a0 xa xb).bind (fun r2 => if r2 = 0 then some ((-9 : Int32), u) else (F_X11_rowPart u a0 xa xb).bind (fun r6 => (F_X11_setRowPart u a0 xa xb xc).bind (fun r8 => some (r6, r8)))) else none
theorem c_X11_alterRow {l : Launch} {G : xG} {rr : (Int32 × xT)} {u : xT} {a0 : Nat} {xa : Int32} {xb : Int32} {xc : Int32} (hF : F_X11_alterRow u a0 xa xb xc = some rr) : xMi l G yX11_alterRow cX11_alterRow 5 (Option.some Jvm.ClassFile.FieldType.int) 4 0 0 [.ref a0, .int xa, .int xb, .int xc] (tE G u) u.1 (fun r z => r = rr.1 ∧ z = ((tE G rr.2), rr.2.1)) := by
  unfold F_X11_alterRow at hF
  refine x_startI rfl (Nat.le_of_ble_eq_true rfl) (fun p e s m args below meth cd ls hE hnm hl hD => ?_)
  have hx := hE.1; have hb := hE.2.1
  have hl : lv_has ls 5 [(0, .ref a0), (1, .int xa), (2, .int xb), (3, .int xc)] := hl
  have hD : tD G (xA (tE G u) s.heap.size) s.heap u s.heap [] := hD
  refine lv_aload_n hx hb dX11_alterRow_0 rfl (lv_at hl 0 rfl) ?_
  refine lv_iload_n hx hb dX11_alterRow_1 rfl (lv_at hl 1 rfl) ?_
  refine lv_iload_n hx hb dX11_alterRow_2 rfl (lv_at hl 2 rfl) ?_
  obtain ⟨h1, hF⟩ := ite_s hF
  obtain ⟨r2, k3, hF⟩ := xb_s hF
  refine kVz (As := [.int xa, .int xb]) (rest := []) hE hl hD (c_X11_isRowPart k3) kl_X11_272 (tE_11 h1) rfl rfl rfl rfl (Nat.le_of_ble_eq_true rfl) dX11_alterRow_3 ⟨Nat.le_of_ble_eq_true rfl, Nat.le_of_ble_eq_true rfl⟩ ⟨Nat.le_of_ble_eq_true rfl, Nat.le_of_ble_eq_true rfl⟩ (fun H locs z4 (hD : tD G _ _ u H locs) => ?_)
  refine lv_if_ne (tgt := 12) hx hb dX11_alterRow_6 (by decide) (fun c5 => ?_) (fun c5 => ?_)
  · have hF := ite_n hF c5
    refine lv_aload_n hx hb dX11_alterRow_12 rfl (lv_at hl 0 rfl) ?_
    refine lv_iload_n hx hb dX11_alterRow_13 rfl (lv_at hl 1 rfl) ?_
    refine lv_iload_n hx hb dX11_alterRow_14 rfl (lv_at hl 2 rfl) ?_
    obtain ⟨r6, k7, hF⟩ := xb_s hF
    refine kVi (As := [.int xa, .int xb]) (rest := []) hE hl hD (c_X11_rowPart k7) kl_X11_276 (tE_11 h1) rfl rfl rfl rfl (Nat.le_of_ble_eq_true rfl) dX11_alterRow_15 ⟨Nat.le_of_ble_eq_true rfl, Nat.le_of_ble_eq_true rfl⟩ ⟨Nat.le_of_ble_eq_true rfl, Nat.le_of_ble_eq_true rfl⟩ (fun H locs (hD : tD G _ _ u H locs) => ?_)
    refine lv_istore (lv' := [(4, .int r6), (0, .ref a0), (1, .int xa), (2, .int xb), (3, .int xc)]) hx hb dX11_alterRow_18 hl (by decide) rfl (fun ls hl => ?_)
    refine lv_aload_n hx hb dX11_alterRow_20 rfl (lv_at hl 1 rfl) ?_
    refine lv_iload_n hx hb dX11_alterRow_21 rfl (lv_at hl 2 rfl) ?_
    refine lv_iload_n hx hb dX11_alterRow_22 rfl (lv_at hl 3 rfl) ?_
    refine lv_iload_n hx hb dX11_alterRow_23 rfl (lv_at hl 4 rfl) ?_
    obtain ⟨r8, k9, hF⟩ := xb_s hF
    refine kVv (As := [.int xa, .int xb, .int xc]) (rest := []) hE hl hD (c_X11_setRowPart k9) kl_X11_269 (tE_11 h1) rfl rfl rfl rfl (Nat.le_of_ble_eq_true rfl) dX11_alterRow_24 ⟨Nat.le_of_ble_eq_true rfl, Nat.le_of_ble_eq_true rfl⟩ ⟨Nat.le_of_ble_eq_true rfl, Nat.le_of_ble_eq_true rfl⟩ (fun H locs (hD : tD G _ _ r8 H locs) => ?_)
    refine lv_iload hx hb dX11_alterRow_27 (lv_at hl 0 rfl) ?_
    obtain rfl := Option.some.inj hF
    exact x_iret hE hD ⟨rfl, rfl⟩ (by omega) (by omega) dX11_alterRow_29
  · have hF := ite_p hF c5
    refine lv_bipush (v := (-9 : Int32)) hx hb dX11_alterRow_9 (by decide) ?_
    obtain rfl := Option.some.inj hF
    exact x_iret hE hD ⟨rfl, rfl⟩ (by omega) (by omega) dX11_alterRow_11
def F_X11_isRightRow_j82 (u : xT) (a0 : Nat) (s0 : Int32) : Option Int32 := if s0 = 0 ∨ s0 = 1 then some s0 else none
theorem B_X11_isRightRow_j82 {p : Program} {l : Launch} {e : Env} {s : State} {m : MethodId} {args : Array Value} {below : List Frame} {meth : Method} {cd : Code} {G : xG} {w0 : xW} {rr : Int32} (hE : xE p s m args meth cd cX11_isRightRow RX11 G 6 (Option.some Jvm.ClassFile.FieldType.boolean)) {u : xT} {a0 : Nat} {s0 : Int32} {H : Heap} {locs : List Loc} {ls : Array Slot} (hD : tD G (xA w0 s.heap.size) s.heap u H locs) (hl : lv_has ls 6 [(0, .ref a0)]) (hF : F_X11_isRightRow_j82 u a0 s0 = some rr) : W p l e (xR 6 0 0) s m args below meth cd H locs 0 0 (xQi G w0 (fun r z => r = rr ∧ (rr = 0 ∨ rr = 1) ∧ z = ((tE G u), u.1)) below args s 0 0) (F0 m 82 ls [.int s0]) := by
  have hx := hE.1; have hb := hE.2.1
  unfold F_X11_isRightRow_j82 at hF
  obtain ⟨h1, hF⟩ := ite_s hF
  obtain rfl := Option.some.inj hF
  exact x_zret hE hD h1 ⟨rfl, h1, rfl⟩ (by omega) (by omega) dX11_isRightRow_82
def F_X11_isRightRow_j81 (u : xT) (a0 : Nat) : Option Int32 := F_X11_isRightRow_j82 u a0 (0 : Int32)
theorem B_X11_isRightRow_j81 {p : Program} {l : Launch} {e : Env} {s : State} {m : MethodId} {args : Array Value} {below : List Frame} {meth : Method} {cd : Code} {G : xG} {w0 : xW} {rr : Int32} (hE : xE p s m args meth cd cX11_isRightRow RX11 G 6 (Option.some Jvm.ClassFile.FieldType.boolean)) {u : xT} {a0 : Nat} {H : Heap} {locs : List Loc} {ls : Array Slot} (hD : tD G (xA w0 s.heap.size) s.heap u H locs) (hl : lv_has ls 6 [(0, .ref a0)]) (hF : F_X11_isRightRow_j81 u a0 = some rr) : W p l e (xR 6 0 0) s m args below meth cd H locs 0 0 (xQi G w0 (fun r z => r = rr ∧ (rr = 0 ∨ rr = 1) ∧ z = ((tE G u), u.1)) below args s 0 0) (F0 m 81 ls []) := by
  have hx := hE.1; have hb := hE.2.1
  unfold F_X11_isRightRow_j81 at hF
  refine lv_iconst (v := (0 : Int32)) hx hb dX11_isRightRow_81 (by decide) ?_
  exact B_X11_isRightRow_j82 hE hD (lv_sub hl [0] rfl) hF
def F_X11_isRightRow_j35 (u : xT) (a0 : Nat) (y1 : Int32) (y2 : Nat) (y3 : Int32) (s0 : Int32) : Option Int32 := if isBk (tK u y2) then (F_X0_becomes u y2 y3).bind (fun r3 => if tK u a0 = 11 then (F_X11_rowPart u a0 y1 (0 : Int32)).bind (fun r6 => if r6 = (y1 + (1 : Int32)) then if s0 = 0 then F_X11_isRightRow_j81 u a0 else if r3 < 0 then F_X11_isRightRow_j81 u a0 else (F_X11_rowPart u a0 y1 (2 : Int32)).bind (fun r11 => if r3 = r11 then F_X11_isRightRow_j82 u a0 (1 : Int32) else F_X11_isRightRow_j81 u a0) else F_X11_isRightRow_j81 u a0) else none) else none
theorem B_X11_isRightRow_j35 {p : Program} {l : Launch} {e : Env} {s : State} {m : MethodId} {args : Array Value} {below : List Frame} {meth : Method} {cd : Code} {G : xG} {w0 : xW} {rr : Int32} (hE : xE p s m args meth cd cX11_isRightRow RX11 G 6 (Option.some Jvm.ClassFile.FieldType.boolean)) {u : xT} {a0 : Nat} {y1 : Int32} {y2 : Nat} {y3 : Int32} {s0 : Int32} {H : Heap} {locs : List Loc} {ls : Array Slot} (hD : tD G (xA w0 s.heap.size) s.heap u H locs) (hl : lv_has ls 6 [(0, .ref a0), (1, .int y1), (2, .ref y2), (3, .int y3)]) (hF : F_X11_isRightRow_j35 u a0 y1 y2 y3 s0 = some rr) : W p l e (xR 6 0 0) s m args below meth cd H locs 0 0 (xQi G w0 (fun r z => r = rr ∧ (rr = 0 ∨ rr = 1) ∧ z = ((tE G u), u.1)) below args s 0 0) (F0 m 35 ls [.int s0]) := by
  have hx := hE.1; have hb := hE.2.1
  unfold F_X11_isRightRow_j35 at hF
  refine lv_istore (lv' := [(4, .int s0), (0, .ref a0), (1, .int y1), (2, .ref y2), (3, .int y3)]) hx hb dX11_isRightRow_35 hl (by decide) rfl (fun ls hl => ?_)
  refine lv_aload_n hx hb dX11_isRightRow_37 rfl (lv_at hl 3 rfl) ?_
  refine lv_iload_n hx hb dX11_isRightRow_38 rfl (lv_at hl 4 rfl) ?_
  obtain ⟨h2, hF⟩ := ite_s hF
  obtain ⟨r3, k4, hF⟩ := xb_s hF
  refine kB_X11_173 (rest := []) hE hl hD h2 k4 (Nat.le_of_ble_eq_true rfl) dX11_isRightRow_39 ⟨Nat.le_of_ble_eq_true rfl, Nat.le_of_ble_eq_true rfl⟩ ⟨Nat.le_of_ble_eq_true rfl, Nat.le_of_ble_eq_true rfl⟩ (fun H locs (hD : tD G _ _ u H locs) => ?_)
  refine lv_istore (lv' := [(5, .int r3), (4, .int s0), (0, .ref a0), (1, .int y1), (2, .ref y2), (3, .int y3)]) hx hb dX11_isRightRow_42 hl (by decide) rfl (fun ls hl => ?_)
  refine lv_aload_n hx hb dX11_isRightRow_44 rfl (lv_at hl 2 rfl) ?_
  refine lv_iload_n hx hb dX11_isRightRow_45 rfl (lv_at hl 3 rfl) ?_
  refine lv_iconst (v := (0 : Int32)) hx hb dX11_isRightRow_46 (by decide) ?_
  obtain ⟨h5, hF⟩ := ite_s hF
  obtain ⟨r6, k7, hF⟩ := xb_s hF
  refine kVi (As := [.int y1, .int (0 : Int32)]) (rest := []) hE hl hD (c_X11_rowPart k7) kl_X11_276 (tE_11 h5) rfl rfl rfl rfl (Nat.le_of_ble_eq_true rfl) dX11_isRightRow_47 ⟨Nat.le_of_ble_eq_true rfl, Nat.le_of_ble_eq_true rfl⟩ ⟨Nat.le_of_ble_eq_true rfl, Nat.le_of_ble_eq_true rfl⟩ (fun H locs (hD : tD G _ _ u H locs) => ?_)
  refine lv_iload_n hx hb dX11_isRightRow_50 rfl (lv_at hl 3 rfl) ?_
  refine lv_iconst (v := (1 : Int32)) hx hb dX11_isRightRow_51 (by decide) ?_
  refine lv_iadd hx hb dX11_isRightRow_52 ?_
  refine lv_icmp_ne (tgt := 81) hx hb dX11_isRightRow_53 (by decide) (fun c8 => ?_) (fun c8 => ?_)
  · have hF := ite_n hF c8
    exact B_X11_isRightRow_j81 hE hD (lv_sub hl [2] rfl) hF
  · have hF := ite_p hF c8
    refine lv_iload hx hb dX11_isRightRow_56 (lv_at hl 1 rfl) ?_
    refine lv_if_eq (tgt := 81) hx hb dX11_isRightRow_58 (by decide) (fun c9 => ?_) (fun c9 => ?_)
    · have hF := ite_p hF c9
      exact B_X11_isRightRow_j81 hE hD (lv_sub hl [2] rfl) hF
    · have hF := ite_n hF c9
      refine lv_iload hx hb dX11_isRightRow_61 (lv_at hl 0 rfl) ?_
      refine lv_if_lt (tgt := 81) hx hb dX11_isRightRow_63 (by decide) (fun c10 => ?_) (fun c10 => ?_)
      · have hF := ite_p hF c10
        exact B_X11_isRightRow_j81 hE hD (lv_sub hl [2] rfl) hF
      · have hF := ite_n hF c10
        refine lv_iload hx hb dX11_isRightRow_66 (lv_at hl 0 rfl) ?_
        refine lv_aload_n hx hb dX11_isRightRow_68 rfl (lv_at hl 2 rfl) ?_
        refine lv_iload_n hx hb dX11_isRightRow_69 rfl (lv_at hl 3 rfl) ?_
        refine lv_iconst (v := (2 : Int32)) hx hb dX11_isRightRow_70 (by decide) ?_
        obtain ⟨r11, k12, hF⟩ := xb_s hF
        refine kVi (As := [.int y1, .int (2 : Int32)]) (rest := [.int r3]) hE hl hD (c_X11_rowPart k12) kl_X11_276 (tE_11 h5) rfl rfl rfl rfl (Nat.le_of_ble_eq_true rfl) dX11_isRightRow_71 ⟨Nat.le_of_ble_eq_true rfl, Nat.le_of_ble_eq_true rfl⟩ ⟨Nat.le_of_ble_eq_true rfl, Nat.le_of_ble_eq_true rfl⟩ (fun H locs (hD : tD G _ _ u H locs) => ?_)
        refine lv_icmp_ne (tgt := 81) hx hb dX11_isRightRow_74 (by decide) (fun c13 => ?_) (fun c13 => ?_)
        · have hF := ite_n hF c13
          exact B_X11_isRightRow_j81 hE hD (lv_sub hl [2] rfl) hF
        · have hF := ite_p hF c13
          refine lv_iconst (v := (1 : Int32)) hx hb dX11_isRightRow_77 (by decide) ?_
          refine lv_goto (tgt := 82) hx hb dX11_isRightRow_78 (by decide) ?_
          exact B_X11_isRightRow_j82 hE hD (lv_sub hl [2] rfl) hF
def F_X11_isRightRow (u : xT) (a0 : Nat) (xa : Int32) (xb : Nat) : Option Int32 := if tK u a0 = 11 then (F_X11_rowPart u a0 xa (1 : Int32)).bind (fun r15 => if xa = 0 then (F_X11_isPurse r15).bind (fun r21 => F_X11_isRightRow_j35 u a0 xa xb r15 r21) else (F_X11_rowPart u a0 (xa - (1 : Int32)) (2 : Int32)).bind (fun r18 => if r15 = r18 then F_X11_isRightRow_j35 u a0 xa xb r15 (1 : Int32) else F_X11_isRightRow_j35 u a0 xa xb r15 (0 : Int32))) else none
theorem c_X11_isRightRow {l : Launch} {G : xG} {rr : Int32} {u : xT} {a0 : Nat} {xa : Int32} {xb : Nat} (hF : F_X11_isRightRow u a0 xa xb = some rr) : xMi l G yX11_isRightRow cX11_isRightRow 6 (Option.some Jvm.ClassFile.FieldType.boolean) 6 0 0 [.ref a0, .int xa, .ref xb] (tE G u) u.1 (fun r z => r = rr ∧ (rr = 0 ∨ rr = 1) ∧ z = ((tE G u), u.1)) := by
  unfold F_X11_isRightRow at hF
  refine x_startI rfl (Nat.le_of_ble_eq_true rfl) (fun p e s m args below meth cd ls hE hnm hl hD => ?_)
  have hx := hE.1; have hb := hE.2.1
  have hl : lv_has ls 6 [(0, .ref a0), (1, .int xa), (2, .ref xb)] := hl
  have hD : tD G (xA (tE G u) s.heap.size) s.heap u s.heap [] := hD
  refine lv_aload_n hx hb dX11_isRightRow_0 rfl (lv_at hl 0 rfl) ?_
  refine lv_iload_n hx hb dX11_isRightRow_1 rfl (lv_at hl 1 rfl) ?_
  refine lv_iconst (v := (1 : Int32)) hx hb dX11_isRightRow_2 (by decide) ?_
  obtain ⟨h14, hF⟩ := ite_s hF
  obtain ⟨r15, k16, hF⟩ := xb_s hF
  refine kVi (As := [.int xa, .int (1 : Int32)]) (rest := []) hE hl hD (c_X11_rowPart k16) kl_X11_276 (tE_11 h14) rfl rfl rfl rfl (Nat.le_of_ble_eq_true rfl) dX11_isRightRow_3 ⟨Nat.le_of_ble_eq_true rfl, Nat.le_of_ble_eq_true rfl⟩ ⟨Nat.le_of_ble_eq_true rfl, Nat.le_of_ble_eq_true rfl⟩ (fun H locs (hD : tD G _ _ u H locs) => ?_)
  refine lv_istore_n (lv' := [(3, .int r15), (0, .ref a0), (1, .int xa), (2, .ref xb)]) hx hb dX11_isRightRow_6 rfl hl (by decide) rfl (fun ls hl => ?_)
  refine lv_iload_n hx hb dX11_isRightRow_7 rfl (lv_at hl 2 rfl) ?_
  refine lv_if_ne (tgt := 18) hx hb dX11_isRightRow_8 (by decide) (fun c17 => ?_) (fun c17 => ?_)
  · have hF := ite_n hF c17
    refine lv_iload_n hx hb dX11_isRightRow_18 rfl (lv_at hl 0 rfl) ?_
    refine lv_aload_n hx hb dX11_isRightRow_19 rfl (lv_at hl 1 rfl) ?_
    refine lv_iload_n hx hb dX11_isRightRow_20 rfl (lv_at hl 2 rfl) ?_
    refine lv_iconst (v := (1 : Int32)) hx hb dX11_isRightRow_21 (by decide) ?_
    refine lv_isub hx hb dX11_isRightRow_22 ?_
    refine lv_iconst (v := (2 : Int32)) hx hb dX11_isRightRow_23 (by decide) ?_
    obtain ⟨r18, k19, hF⟩ := xb_s hF
    refine kVi (As := [.int (xa - (1 : Int32)), .int (2 : Int32)]) (rest := [.int r15]) hE hl hD (c_X11_rowPart k19) kl_X11_276 (tE_11 h14) rfl rfl rfl rfl (Nat.le_of_ble_eq_true rfl) dX11_isRightRow_24 ⟨Nat.le_of_ble_eq_true rfl, Nat.le_of_ble_eq_true rfl⟩ ⟨Nat.le_of_ble_eq_true rfl, Nat.le_of_ble_eq_true rfl⟩ (fun H locs (hD : tD G _ _ u H locs) => ?_)
    refine lv_icmp_ne (tgt := 34) hx hb dX11_isRightRow_27 (by decide) (fun c20 => ?_) (fun c20 => ?_)
    · have hF := ite_n hF c20
      refine lv_iconst (v := (0 : Int32)) hx hb dX11_isRightRow_34 (by decide) ?_
      exact B_X11_isRightRow_j35 hE hD (lv_sub hl [1, 2, 3, 0] rfl) hF
    · have hF := ite_p hF c20
      refine lv_iconst (v := (1 : Int32)) hx hb dX11_isRightRow_30 (by decide) ?_
      refine lv_goto (tgt := 35) hx hb dX11_isRightRow_31 (by decide) ?_
      exact B_X11_isRightRow_j35 hE hD (lv_sub hl [1, 2, 3, 0] rfl) hF
  · have hF := ite_p hF c17
    refine lv_iload_n hx hb dX11_isRightRow_11 rfl (lv_at hl 0 rfl) ?_
    obtain ⟨r21, k22, hF⟩ := xb_s hF
    refine kSz (As := [.int r15]) (rest := []) hE hl hD (c_X11_isPurse k22) kl_X11_154 rfl rfl (Nat.le_of_ble_eq_true rfl) dX11_isRightRow_12 ⟨Nat.le_of_ble_eq_true rfl, Nat.le_of_ble_eq_true rfl⟩ ⟨Nat.le_of_ble_eq_true rfl, Nat.le_of_ble_eq_true rfl⟩ (fun H locs z23 (hD : tD G _ _ u H locs) => ?_)
    refine lv_goto (tgt := 35) hx hb dX11_isRightRow_15 (by decide) ?_
    exact B_X11_isRightRow_j35 hE hD (lv_sub hl [1, 2, 3, 0] rfl) hF
def F_X11_judge_l17 : Nat → xT → Nat → Nat → Int32 → Option Int32
  | 0, _, _, _, _ => none
  | nn + 1, u, a0, y2, y3 => if tK u a0 = 11 then if (tI u a0 6) ≤ y3 then some (0 : Int32) else (F_X11_isRightRow u a0 y3 y2).bind (fun r3 => if r3 = 0 then some (y3 + (1 : Int32)) else xlet (y3 + (1 : Int32)) (fun x7 => F_X11_judge_l17 nn u a0 y2 x7)) else none
theorem L_X11_judge_l17 {p : Program} {l : Launch} {e : Env} {s : State} {m : MethodId} {args : Array Value} {below : List Frame} {meth : Method} {cd : Code} {G : xG} {w0 : xW} {rr : Int32} (hE : xE p s m args meth cd cX11_judge RX11 G 4 (Option.some Jvm.ClassFile.FieldType.int)) : ∀ (nn : Nat) {u : xT} {a0 : Nat} {y2 : Nat} {y3 : Int32} {H : Heap} {locs : List Loc} {ls : Array Slot} , tD G (xA w0 s.heap.size) s.heap u H locs → lv_has ls 4 [(0, .ref a0), (2, .ref y2), (3, .int y3)] → F_X11_judge_l17 nn u a0 y2 y3 = some rr → W p l e (xR 7 0 0) s m args below meth cd H locs 0 0 (xQi G w0 (fun r z => r = rr ∧ z = ((tE G u), u.1)) below args s 0 0) (F0 m 17 ls []) := by
  have hx := hE.1; have hb := hE.2.1
  intro nn
  induction nn with
  | zero => intro u a0 y2 y3 H locs ls hD hl hF; rw [F_X11_judge_l17] at hF; cases hF
  | succ nn ih =>
    intro u a0 y2 y3 H locs ls hD hl hF
    rw [F_X11_judge_l17] at hF
    refine lv_iload_n hx hb dX11_judge_17 rfl (lv_at hl 2 rfl) ?_
    refine lv_aload_n hx hb dX11_judge_18 rfl (lv_at hl 0 rfl) ?_
    obtain ⟨h1, hF⟩ := ite_s hF
    refine gf_X11_34 hE hD h1 dX11_judge_19 ?_
    refine lv_icmp_ge (tgt := 44) hx hb dX11_judge_22 (by decide) (fun c2 => ?_) (fun c2 => ?_)
    · have hF := ite_p hF c2
      refine lv_iconst (v := (0 : Int32)) hx hb dX11_judge_44 (by decide) ?_
      obtain rfl := Option.some.inj hF
      exact x_iret hE hD ⟨rfl, rfl⟩ (by omega) (by omega) dX11_judge_45
    · have hF := ite_n hF c2
      refine lv_aload_n hx hb dX11_judge_25 rfl (lv_at hl 0 rfl) ?_
      refine lv_iload_n hx hb dX11_judge_26 rfl (lv_at hl 2 rfl) ?_
      refine lv_aload_n hx hb dX11_judge_27 rfl (lv_at hl 1 rfl) ?_
      obtain ⟨r3, k4, hF⟩ := xb_s hF
      refine kVz (As := [.int y3, .ref y2]) (rest := []) hE hl hD (c_X11_isRightRow k4) kl_X11_279 (tE_11 h1) rfl rfl rfl rfl (Nat.le_of_ble_eq_true rfl) dX11_judge_28 ⟨Nat.le_of_ble_eq_true rfl, Nat.le_of_ble_eq_true rfl⟩ ⟨Nat.le_of_ble_eq_true rfl, Nat.le_of_ble_eq_true rfl⟩ (fun H locs z5 (hD : tD G _ _ u H locs) => ?_)
      refine lv_if_ne (tgt := 38) hx hb dX11_judge_31 (by decide) (fun c6 => ?_) (fun c6 => ?_)
      · have hF := ite_n hF c6
        obtain ⟨x7, ex7⟩ : ∃ y : Int32, y = y3 + (1 : Int32) := ⟨_, rfl⟩
        have hF := xlet_e hF ex7
        refine lv_iinc (v := x7) (lv' := [(3, .int x7), (0, .ref a0), (2, .ref y2)]) hx hb dX11_judge_38 hl (k := 2) rfl (by rw [ex7]; rfl) (by decide) rfl (fun ls hl => ?_)
        refine lv_goto (tgt := 17) hx hb dX11_judge_41 (by decide) ?_
        exact ih hD (lv_sub hl [1, 2, 0] rfl) hF
      · have hF := ite_p hF c6
        refine lv_iload_n hx hb dX11_judge_34 rfl (lv_at hl 2 rfl) ?_
        refine lv_iconst (v := (1 : Int32)) hx hb dX11_judge_35 (by decide) ?_
        refine lv_iadd hx hb dX11_judge_36 ?_
        obtain rfl := Option.some.inj hF
        exact x_iret hE hD ⟨rfl, rfl⟩ (by omega) (by omega) dX11_judge_37
def F_X11_judge (u : xT) (a0 : Nat) (xa : Int32) : Option Int32 := if tK u a0 = 11 then (tP u a0 0).bind (fun q9 => if tK u q9 = 7 then (F_X7_bridgeAt u q9 xa).bind (fun r12 => xopt (r12) (some (-1 : Int32)) (fun q14 => F_X11_judge_l17 xFuel u a0 q14 (0 : Int32))) else none) else none
theorem c_X11_judge {l : Launch} {G : xG} {rr : Int32} {u : xT} {a0 : Nat} {xa : Int32} (hF : F_X11_judge u a0 xa = some rr) : xMi l G yX11_judge cX11_judge 4 (Option.some Jvm.ClassFile.FieldType.int) 7 0 0 [.ref a0, .int xa] (tE G u) u.1 (fun r z => r = rr ∧ z = ((tE G u), u.1)) := by
  unfold F_X11_judge at hF
  refine x_startI rfl (Nat.le_of_ble_eq_true rfl) (fun p e s m args below meth cd ls hE hnm hl hD => ?_)
  have hx := hE.1; have hb := hE.2.1
  have hl : lv_has ls 4 [(0, .ref a0), (1, .int xa)] := hl
  have hD : tD G (xA (tE G u) s.heap.size) s.heap u s.heap [] := hD
  refine lv_aload_n hx hb dX11_judge_0 rfl (lv_at hl 0 rfl) ?_
  obtain ⟨h8, hF⟩ := ite_s hF
  obtain ⟨q9, h10, hF⟩ := xb_s hF
  refine gr_X11_10 hE hD h8 h10 dX11_judge_1 ?_
  refine lv_iload_n hx hb dX11_judge_4 rfl (lv_at hl 1 rfl) ?_
  obtain ⟨h11, hF⟩ := ite_s hF
  obtain ⟨r12, k13, hF⟩ := xb_s hF
  refine kVq (As := [.int xa]) (rest := []) hE hl hD (c_X7_bridgeAt k13) kl_X11_82 (tE_7 h11) rfl rfl rfl rfl (Nat.le_of_ble_eq_true rfl) dX11_judge_5 ⟨Nat.le_of_ble_eq_true rfl, Nat.le_of_ble_eq_true rfl⟩ ⟨Nat.le_of_ble_eq_true rfl, Nat.le_of_ble_eq_true rfl⟩ (fun H locs (hD : tD G _ _ u H locs) => ?_)
  refine t_split hF (fun h15 hF => ?_) (fun q14 h15 hF => ?_)
  · refine lv_astore_nN (lv' := [(2, .null), (0, .ref a0), (1, .int xa)]) hx hb dX11_judge_8 rfl hl (by decide) rfl (fun ls hl => ?_)
    refine lv_aload_nN hx hb dX11_judge_9 rfl (lv_at hl 0 rfl) ?_
    refine lv_ifnonnullN hx hb dX11_judge_10 ?_
    refine lv_iconst (v := (-1 : Int32)) hx hb dX11_judge_13 (by decide) ?_
    obtain rfl := Option.some.inj hF
    exact x_iret hE hD ⟨rfl, rfl⟩ (by omega) (by omega) dX11_judge_14
  · refine lv_astore_n (lv' := [(2, .ref q14), (0, .ref a0), (1, .int xa)]) hx hb dX11_judge_8 rfl hl (by decide) rfl (fun ls hl => ?_)
    refine lv_aload_n hx hb dX11_judge_9 rfl (lv_at hl 0 rfl) ?_
    refine lv_ifnonnull (tgt := 15) hx hb dX11_judge_10 (by decide) ?_
    refine lv_iconst (v := (0 : Int32)) hx hb dX11_judge_15 (by decide) ?_
    refine lv_istore_n (lv' := [(3, .int (0 : Int32)), (2, .ref q14), (0, .ref a0), (1, .int xa)]) hx hb dX11_judge_16 rfl hl (by decide) rfl (fun ls hl => ?_)
    exact L_X11_judge_l17 hE _ hD (lv_sub hl [2, 1, 0] rfl) hF
theorem ki_X11_283 : xLI RX11 283 yX8_init cX8_init 3 2 := ⟨⟨kw4_230, kw1_19, kw4_231⟩, Or.inl kw4_229, rfl, by decide, by decide, by decide +kernel⟩
def F_X11_sheet_j18 (u : xT) (a0 : Nat) : Option (Int32 × xT) := some ((-1 : Int32), u)
theorem B_X11_sheet_j18 {p : Program} {l : Launch} {e : Env} {s : State} {m : MethodId} {args : Array Value} {below : List Frame} {meth : Method} {cd : Code} {G : xG} {w0 : xW} {rr : (Int32 × xT)} (hE : xE p s m args meth cd cX11_sheet RX11 G 4 (Option.some Jvm.ClassFile.FieldType.int)) {u : xT} {a0 : Nat} {H : Heap} {locs : List Loc} {ls : Array Slot} {cells slots : Nat} (hcc : cells + 0 ≤ 2) (hkk : slots + 0 ≤ 42) (hD : tD G (xA w0 s.heap.size) s.heap u H locs) (hl : lv_has ls 4 [(0, .ref a0)]) (hF : F_X11_sheet_j18 u a0 = some rr) : W p l e (xR 4 2 42) s m args below meth cd H locs cells slots (xQi G w0 (fun r z => r = rr.1 ∧ z = ((tE G rr.2), rr.2.1)) below args s 2 42) (F0 m 18 ls []) := by
  have hx := hE.1; have hb := hE.2.1
  unfold F_X11_sheet_j18 at hF
  refine lv_iconst (v := (-1 : Int32)) hx hb dX11_sheet_18 (by decide) ?_
  obtain rfl := Option.some.inj hF
  exact x_iret hE hD ⟨rfl, rfl⟩ (by omega) (by omega) dX11_sheet_19
def F_X11_sheet (u : xT) (a0 : Nat) (xa : Int32) (xb : Int32) (xc : Int32) : Option (Int32 × xT) := (F_X11_isIn xa (0 : Int32) (3 : Int32)).bind (fun r1 => if r1 = 0 then F_X11_sheet_j18 u a0 else (F_X11_isIn xb (-1 : Int32) (4 : Int32)).bind (fun r5 => if r5 = 0 then F_X11_sheet_j18 u a0 else if xb = (-1 : Int32) then if tK u a0 = 11 then (tP u a0 7).bind (fun q26 => if tK u q26 = 23 then if xIn xa (tN u q26) then xlet (tSP u q26 xa.toNatClampNeg none) (fun t29 => some ((1 : Int32), t29)) else none else none) else none else if xc ≤ (40 : Int32) then if 0 ≤ xc then if tK u a0 = 11 then (tP u a0 7).bind (fun q13 => xlet (tNew u 8 0) (fun t15 => (F_X8_init t15 u.1 xb xc).bind (fun r17 => if tK r17 q13 = 23 then if tK r17 u.1 = 8 then if xIn xa (tN r17 q13) then xlet (tSP r17 q13 xa.toNatClampNeg (some u.1)) (fun t20 => some ((1 : Int32), t20)) else none else none else none))) else none else some ((-14 : Int32), u) else some ((-1 : Int32), u)))
theorem c_X11_sheet {l : Launch} {G : xG} {rr : (Int32 × xT)} {u : xT} {a0 : Nat} {xa : Int32} {xb : Int32} {xc : Int32} (hF : F_X11_sheet u a0 xa xb xc = some rr) : xMi l G yX11_sheet cX11_sheet 4 (Option.some Jvm.ClassFile.FieldType.int) 4 2 42 [.ref a0, .int xa, .int xb, .int xc] (tE G u) u.1 (fun r z => r = rr.1 ∧ z = ((tE G rr.2), rr.2.1)) := by
  unfold F_X11_sheet at hF
  refine x_startI rfl (Nat.le_of_ble_eq_true rfl) (fun p e s m args below meth cd ls hE hnm hl hD => ?_)
  have hx := hE.1; have hb := hE.2.1
  have hl : lv_has ls 4 [(0, .ref a0), (1, .int xa), (2, .int xb), (3, .int xc)] := hl
  have hD : tD G (xA (tE G u) s.heap.size) s.heap u s.heap [] := hD
  refine lv_iload_n hx hb dX11_sheet_0 rfl (lv_at hl 1 rfl) ?_
  refine lv_iconst (v := (0 : Int32)) hx hb dX11_sheet_1 (by decide) ?_
  refine lv_iconst (v := (3 : Int32)) hx hb dX11_sheet_2 (by decide) ?_
  obtain ⟨r1, k2, hF⟩ := xb_s hF
  refine kSz (As := [.int xa, .int (0 : Int32), .int (3 : Int32)]) (rest := []) hE hl hD (c_X11_isIn k2) kl_X11_183 rfl rfl (Nat.le_of_ble_eq_true rfl) dX11_sheet_3 ⟨Nat.le_of_ble_eq_true rfl, Nat.le_of_ble_eq_true rfl⟩ ⟨(by show 0 ≤ 2; omega), (by show 0 ≤ 42; omega)⟩ (fun H locs z3 (hD : tD G _ _ u H locs) => ?_)
  refine lv_if_eq (tgt := 18) hx hb dX11_sheet_6 (by decide) (fun c4 => ?_) (fun c4 => ?_)
  · have hF := ite_p hF c4
    exact B_X11_sheet_j18 hE (by omega) (by omega) hD (lv_sub hl [0] rfl) hF
  · have hF := ite_n hF c4
    refine lv_iload_n hx hb dX11_sheet_9 rfl (lv_at hl 2 rfl) ?_
    refine lv_iconst (v := (-1 : Int32)) hx hb dX11_sheet_10 (by decide) ?_
    refine lv_iconst (v := (4 : Int32)) hx hb dX11_sheet_11 (by decide) ?_
    obtain ⟨r5, k6, hF⟩ := xb_s hF
    refine kSz (As := [.int xb, .int (-1 : Int32), .int (4 : Int32)]) (rest := []) hE hl hD (c_X11_isIn k6) kl_X11_183 rfl rfl (Nat.le_of_ble_eq_true rfl) dX11_sheet_12 ⟨Nat.le_of_ble_eq_true rfl, Nat.le_of_ble_eq_true rfl⟩ ⟨(by show 0 ≤ 2; omega), (by show 0 ≤ 42; omega)⟩ (fun H locs z7 (hD : tD G _ _ u H locs) => ?_)
    refine lv_if_ne (tgt := 20) hx hb dX11_sheet_15 (by decide) (fun c8 => ?_) (fun c8 => ?_)
    · have hF := ite_n hF c8
      refine lv_iload_n hx hb dX11_sheet_20 rfl (lv_at hl 2 rfl) ?_
      refine lv_iconst (v := (-1 : Int32)) hx hb dX11_sheet_21 (by decide) ?_
      refine lv_icmp_ne (tgt := 34) hx hb dX11_sheet_22 (by decide) (fun c9 => ?_) (fun c9 => ?_)
      · have hF := ite_n hF c9
        refine lv_iload_n hx hb dX11_sheet_34 rfl (lv_at hl 3 rfl) ?_
        refine lv_bipush (v := (40 : Int32)) hx hb dX11_sheet_35 (by decide) ?_
        refine lv_icmp_le (tgt := 42) hx hb dX11_sheet_37 (by decide) (fun c10 => ?_) (fun c10 => ?_)
        · have hF := ite_p hF c10
          refine lv_iload_n hx hb dX11_sheet_42 rfl (lv_at hl 3 rfl) ?_
          refine lv_if_ge (tgt := 49) hx hb dX11_sheet_43 (by decide) (fun c11 => ?_) (fun c11 => ?_)
          · have hF := ite_p hF c11
            refine lv_aload_n hx hb dX11_sheet_49 rfl (lv_at hl 0 rfl) ?_
            obtain ⟨h12, hF⟩ := ite_s hF
            obtain ⟨q13, h14, hF⟩ := xb_s hF
            refine gr_X11_39 hE hD h12 h14 dX11_sheet_50 ?_
            refine lv_iload_n hx hb dX11_sheet_53 rfl (lv_at hl 1 rfl) ?_
            refine tn_X11_37 hE hD (by show 0 + 1 ≤ 2; omega) (by show 0 + 2 ≤ 42; omega) dX11_sheet_54 (fun t15 H et15 hD => ?_)
            have hF := xlet_e hF et15
            have h16 : tK t15 u.1 = 8 := by rw [et15]; exact tK_N _ _ _
            refine lv_dup hx hb dX11_sheet_57 rfl ?_
            refine lv_iload_n hx hb dX11_sheet_58 rfl (lv_at hl 2 rfl) ?_
            refine lv_iload_n hx hb dX11_sheet_59 rfl (lv_at hl 3 rfl) ?_
            obtain ⟨r17, k18, hF⟩ := xb_s hF
            refine kIvA (As := [.int xb, .int xc]) (rest := [.ref u.1, .int xa, .ref q13]) hE hl hD (c_X8_init k18) ki_X11_283 rfl rfl (Nat.le_of_ble_eq_true rfl) dX11_sheet_60 ⟨Nat.le_of_ble_eq_true rfl, Nat.le_of_ble_eq_true rfl⟩ ⟨(by show 0 + 1 + 1 ≤ 2; omega), (by show 0 + 2 + 40 ≤ 42; omega)⟩ (fun H locs (hD : tD G _ _ r17 H locs) => ?_)
            obtain ⟨h19, hF⟩ := ite_s hF
            obtain ⟨h21, hF⟩ := ite_s hF
            obtain ⟨h22, hF⟩ := ite_s hF
            refine t_astR hE hD h19 h21 h22 dX11_sheet_63 (fun t20 H locs et20 hD => ?_)
            have hF := xlet_e hF et20
            have h23 : tK t20 q13 = 23 := by rw [et20]; exact h19
            have h24 : tK t20 u.1 = 8 := by rw [et20]; exact h21
            refine lv_iconst (v := (1 : Int32)) hx hb dX11_sheet_64 (by decide) ?_
            obtain rfl := Option.some.inj hF
            exact x_iret hE hD ⟨rfl, rfl⟩ (by omega) (by omega) dX11_sheet_65
          · have hF := ite_n hF c11
            refine lv_bipush (v := (-14 : Int32)) hx hb dX11_sheet_46 (by decide) ?_
            obtain rfl := Option.some.inj hF
            exact x_iret hE hD ⟨rfl, rfl⟩ (by omega) (by omega) dX11_sheet_48
        · have hF := ite_n hF c10
          refine lv_iconst (v := (-1 : Int32)) hx hb dX11_sheet_40 (by decide) ?_
          obtain rfl := Option.some.inj hF
          exact x_iret hE hD ⟨rfl, rfl⟩ (by omega) (by omega) dX11_sheet_41
      · have hF := ite_p hF c9
        refine lv_aload_n hx hb dX11_sheet_25 rfl (lv_at hl 0 rfl) ?_
        obtain ⟨h25, hF⟩ := ite_s hF
        obtain ⟨q26, h27, hF⟩ := xb_s hF
        refine gr_X11_39 hE hD h25 h27 dX11_sheet_26 ?_
        refine lv_iload_n hx hb dX11_sheet_29 rfl (lv_at hl 1 rfl) ?_
        refine lv_null hx hb dX11_sheet_30 ?_
        obtain ⟨h28, hF⟩ := ite_s hF
        obtain ⟨h30, hF⟩ := ite_s hF
        refine t_astRN hE hD h28 h30 dX11_sheet_31 (fun t29 H locs et29 hD => ?_)
        have hF := xlet_e hF et29
        have h31 : tK t29 a0 = 11 := by rw [et29]; exact h25
        have h32 : tK t29 q26 = 23 := by rw [et29]; exact h28
        refine lv_iconst (v := (1 : Int32)) hx hb dX11_sheet_32 (by decide) ?_
        obtain rfl := Option.some.inj hF
        exact x_iret hE hD ⟨rfl, rfl⟩ (by omega) (by omega) dX11_sheet_33
    · have hF := ite_p hF c8
      exact B_X11_sheet_j18 hE (by omega) (by omega) hD (lv_sub hl [0] rfl) hF
def F_X11_write (u : xT) (a0 : Nat) (xa : Int32) (xb : Int32) (xc : Int32) : Option (Int32 × xT) := (F_X11_isIn xa (0 : Int32) (3 : Int32)).bind (fun r1 => if r1 = 0 then some ((-1 : Int32), u) else if tK u a0 = 11 then (tP u a0 7).bind (fun q6 => if tK u q6 = 23 then if xIn xa (tN u q6) then xopt (tP u q6 xa.toNatClampNeg) (some ((-11 : Int32), u)) (fun q10 => if tK u q10 = 8 then (F_X8_has u q10 xb).bind (fun r13 => if r13 = 0 then some ((-12 : Int32), u) else (F_X8_set u q10 xb xc).bind (fun r17 => some ((1 : Int32), r17))) else none) else none else none) else none)
theorem c_X11_write {l : Launch} {G : xG} {rr : (Int32 × xT)} {u : xT} {a0 : Nat} {xa : Int32} {xb : Int32} {xc : Int32} (hF : F_X11_write u a0 xa xb xc = some rr) : xMi l G yX11_write cX11_write 5 (Option.some Jvm.ClassFile.FieldType.int) 4 0 0 [.ref a0, .int xa, .int xb, .int xc] (tE G u) u.1 (fun r z => r = rr.1 ∧ z = ((tE G rr.2), rr.2.1)) := by
  unfold F_X11_write at hF
  refine x_startI rfl (Nat.le_of_ble_eq_true rfl) (fun p e s m args below meth cd ls hE hnm hl hD => ?_)
  have hx := hE.1; have hb := hE.2.1
  have hl : lv_has ls 5 [(0, .ref a0), (1, .int xa), (2, .int xb), (3, .int xc)] := hl
  have hD : tD G (xA (tE G u) s.heap.size) s.heap u s.heap [] := hD
  refine lv_iload_n hx hb dX11_write_0 rfl (lv_at hl 1 rfl) ?_
  refine lv_iconst (v := (0 : Int32)) hx hb dX11_write_1 (by decide) ?_
  refine lv_iconst (v := (3 : Int32)) hx hb dX11_write_2 (by decide) ?_
  obtain ⟨r1, k2, hF⟩ := xb_s hF
  refine kSz (As := [.int xa, .int (0 : Int32), .int (3 : Int32)]) (rest := []) hE hl hD (c_X11_isIn k2) kl_X11_183 rfl rfl (Nat.le_of_ble_eq_true rfl) dX11_write_3 ⟨Nat.le_of_ble_eq_true rfl, Nat.le_of_ble_eq_true rfl⟩ ⟨Nat.le_of_ble_eq_true rfl, Nat.le_of_ble_eq_true rfl⟩ (fun H locs z3 (hD : tD G _ _ u H locs) => ?_)
  refine lv_if_ne (tgt := 11) hx hb dX11_write_6 (by decide) (fun c4 => ?_) (fun c4 => ?_)
  · have hF := ite_n hF c4
    refine lv_aload_n hx hb dX11_write_11 rfl (lv_at hl 0 rfl) ?_
    obtain ⟨h5, hF⟩ := ite_s hF
    obtain ⟨q6, h7, hF⟩ := xb_s hF
    refine gr_X11_39 hE hD h5 h7 dX11_write_12 ?_
    refine lv_iload_n hx hb dX11_write_15 rfl (lv_at hl 1 rfl) ?_
    obtain ⟨h8, hF⟩ := ite_s hF
    obtain ⟨h9, hF⟩ := ite_s hF
    refine t_aldR hE hD h8 h9 dX11_write_16 ?_
    refine t_split hF (fun h11 hF => ?_) (fun q10 h11 hF => ?_)
    · refine lv_astoreN (lv' := [(4, .null), (0, .ref a0), (1, .int xa), (2, .int xb), (3, .int xc)]) hx hb dX11_write_17 hl (by decide) rfl (fun ls hl => ?_)
      refine lv_aloadN hx hb dX11_write_19 (lv_at hl 0 rfl) ?_
      refine lv_ifnonnullN hx hb dX11_write_21 ?_
      refine lv_bipush (v := (-11 : Int32)) hx hb dX11_write_24 (by decide) ?_
      obtain rfl := Option.some.inj hF
      exact x_iret hE hD ⟨rfl, rfl⟩ (by omega) (by omega) dX11_write_26
    · refine lv_astore (lv' := [(4, .ref q10), (0, .ref a0), (1, .int xa), (2, .int xb), (3, .int xc)]) hx hb dX11_write_17 hl (by decide) rfl (fun ls hl => ?_)
      refine lv_aload hx hb dX11_write_19 (lv_at hl 0 rfl) ?_
      refine lv_ifnonnull (tgt := 27) hx hb dX11_write_21 (by decide) ?_
      refine lv_aload hx hb dX11_write_27 (lv_at hl 0 rfl) ?_
      refine lv_iload_n hx hb dX11_write_29 rfl (lv_at hl 3 rfl) ?_
      obtain ⟨h12, hF⟩ := ite_s hF
      obtain ⟨r13, k14, hF⟩ := xb_s hF
      refine kVz (As := [.int xb]) (rest := []) hE hl hD (c_X8_has k14) kl_X11_285 (tE_8 h12) rfl rfl rfl rfl (Nat.le_of_ble_eq_true rfl) dX11_write_30 ⟨Nat.le_of_ble_eq_true rfl, Nat.le_of_ble_eq_true rfl⟩ ⟨Nat.le_of_ble_eq_true rfl, Nat.le_of_ble_eq_true rfl⟩ (fun H locs z15 (hD : tD G _ _ u H locs) => ?_)
      refine lv_if_ne (tgt := 39) hx hb dX11_write_33 (by decide) (fun c16 => ?_) (fun c16 => ?_)
      · have hF := ite_n hF c16
        refine lv_aload hx hb dX11_write_39 (lv_at hl 0 rfl) ?_
        refine lv_iload_n hx hb dX11_write_41 rfl (lv_at hl 3 rfl) ?_
        refine lv_iload_n hx hb dX11_write_42 rfl (lv_at hl 4 rfl) ?_
        obtain ⟨r17, k18, hF⟩ := xb_s hF
        refine kVv (As := [.int xb, .int xc]) (rest := []) hE hl hD (c_X8_set k18) kl_X11_288 (tE_8 h12) rfl rfl rfl rfl (Nat.le_of_ble_eq_true rfl) dX11_write_43 ⟨Nat.le_of_ble_eq_true rfl, Nat.le_of_ble_eq_true rfl⟩ ⟨Nat.le_of_ble_eq_true rfl, Nat.le_of_ble_eq_true rfl⟩ (fun H locs (hD : tD G _ _ r17 H locs) => ?_)
        refine lv_iconst (v := (1 : Int32)) hx hb dX11_write_46 (by decide) ?_
        obtain rfl := Option.some.inj hF
        exact x_iret hE hD ⟨rfl, rfl⟩ (by omega) (by omega) dX11_write_47
      · have hF := ite_p hF c16
        refine lv_bipush (v := (-12 : Int32)) hx hb dX11_write_36 (by decide) ?_
        obtain rfl := Option.some.inj hF
        exact x_iret hE hD ⟨rfl, rfl⟩ (by omega) (by omega) dX11_write_38
  · have hF := ite_p hF c4
    refine lv_iconst (v := (-1 : Int32)) hx hb dX11_write_9 (by decide) ?_
    obtain rfl := Option.some.inj hF
    exact x_iret hE hD ⟨rfl, rfl⟩ (by omega) (by omega) dX11_write_10
