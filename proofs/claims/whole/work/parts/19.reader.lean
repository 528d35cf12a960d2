/-! ===== the class: the reader of laws (printed by wip/whole/gen/run4.py) ===== -/
def F_X3_isName_j70 (u : xT) (a0 : Nat) : Option (Int32 × xT) := some ((0 : Int32), u)
theorem B_X3_isName_j70 {p : Program} {l : Launch} {e : Env} {s : State} {m : MethodId} {args : Array Value} {below : List Frame} {meth : Method} {cd : Code} {G : xG} {w0 : xW} {rr : (Int32 × xT)} (hE : xE p s m args meth cd cX3_isName RX3 G 4 (Option.some Jvm.ClassFile.FieldType.boolean)) {u : xT} {a0 : Nat} {H : Heap} {locs : List Loc} {ls : Array Slot} (hD : tD G (xA w0 s.heap.size) s.heap u H locs) (hl : lv_has ls 4 [(0, .ref a0)]) (hF : F_X3_isName_j70 u a0 = some rr) : W p l e (xR 7 0 0) s m args below meth cd H locs 0 0 (xQi G w0 (fun r z => r = rr.1 ∧ (rr.1 = 0 ∨ rr.1 = 1) ∧ z = ((tE G rr.2), rr.2.1)) below args s 0 0) (F0 m 70 ls []) := by
  have hx := hE.1; have hb := hE.2.1
  unfold F_X3_isName_j70 at hF
  refine lv_iconst (v := (0 : Int32)) hx hb dX3_isName_70 (by decide) ?_
  obtain rfl := Option.some.inj hF
  exact x_zret hE hD (show (0 : Int32) = 0 ∨ (0 : Int32) = 1 by decide) ⟨rfl, (show (0 : Int32) = 0 ∨ (0 : Int32) = 1 by decide), rfl⟩ (by omega) (by omega) dX3_isName_71
def F_X3_isName_l28 : Nat → xT → Nat → Nat → Int32 → Option (Int32 × xT)
  | 0, _, _, _, _ => none
  | nn + 1, u, a0, y1, y2 => if y1 < 19 then if (nI (sN y1)) ≤ y2 then some ((1 : Int32), u) else if tK u a0 = 3 then xlet ((tI u a0 5) + y2) (fun x4 => if x4 < 0 then F_X3_isName_j70 u a0 else (tP u a0 3).bind (fun q6 => if tK u q6 = 20 then if (nI (tN u q6)) ≤ x4 then F_X3_isName_j70 u a0 else (tP u a0 3).bind (fun q10 => if tK u q10 = 20 then if xIn x4 (tN u q10) then if y1 < 19 then if xIn y2 (sN y1) then if (tI u q10 x4.toNatClampNeg) = (sB y1 y2.toNatClampNeg) then xlet (y2 + (1 : Int32)) (fun x17 => F_X3_isName_l28 nn u a0 y1 x17) else F_X3_isName_j70 u a0 else none else none else none else none) else none)) else none else none
theorem L_X3_isName_l28 {p : Program} {l : Launch} {e : Env} {s : State} {m : MethodId} {args : Array Value} {below : List Frame} {meth : Method} {cd : Code} {G : xG} {w0 : xW} {rr : (Int32 × xT)} (hE : xE p s m args meth cd cX3_isName RX3 G 4 (Option.some Jvm.ClassFile.FieldType.boolean)) : ∀ (nn : Nat) {u : xT} {a0 : Nat} {y1 : Nat} {y2 : Int32} {H : Heap} {locs : List Loc} {ls : Array Slot} , tD G (xA w0 s.heap.size) s.heap u H locs → lv_has ls 4 [(0, .ref a0), (1, .ref (sK G y1)), (2, .int y2)] → F_X3_isName_l28 nn u a0 y1 y2 = some rr → W p l e (xR 7 0 0) s m args below meth cd H locs 0 0 (xQi G w0 (fun r z => r = rr.1 ∧ (rr.1 = 0 ∨ rr.1 = 1) ∧ z = ((tE G rr.2), rr.2.1)) below args s 0 0) (F0 m 28 ls []) := by
  have hx := hE.1; have hb := hE.2.1
  intro nn
  induction nn with
  | zero => intro u a0 y1 y2 H locs ls hD hl hF; rw [F_X3_isName_l28] at hF; cases hF
  | succ nn ih =>
    intro u a0 y1 y2 H locs ls hD hl hF
    rw [F_X3_isName_l28] at hF
    refine lv_iload_n hx hb dX3_isName_28 rfl (lv_at hl 2 rfl) ?_
    refine lv_aload_n hx hb dX3_isName_29 rfl (lv_at hl 1 rfl) ?_
    obtain ⟨h1, hF⟩ := ite_s hF
    refine kVSi (As := []) (rest := [.int y2]) hE hl hD (c_J0_length h1) kl_X3_141 (s_recv hE hD h1) rfl rfl (Nat.le_of_ble_eq_true rfl) dX3_isName_30 ⟨Nat.le_of_ble_eq_true rfl, Nat.le_of_ble_eq_true rfl⟩ ⟨Nat.le_of_ble_eq_true rfl, Nat.le_of_ble_eq_true rfl⟩ (fun H locs (hD : tD G _ _ u H locs) => ?_)
    refine lv_icmp_ge (tgt := 78) hx hb dX3_isName_33 (by decide) (fun c2 => ?_) (fun c2 => ?_)
    · have hF := ite_p hF c2
      refine lv_iconst (v := (1 : Int32)) hx hb dX3_isName_78 (by decide) ?_
      obtain rfl := Option.some.inj hF
      exact x_zret hE hD (show (1 : Int32) = 0 ∨ (1 : Int32) = 1 by decide) ⟨rfl, (show (1 : Int32) = 0 ∨ (1 : Int32) = 1 by decide), rfl⟩ (by omega) (by omega) dX3_isName_79
    · have hF := ite_n hF c2
      refine lv_aload_n hx hb dX3_isName_36 rfl (lv_at hl 0 rfl) ?_
      obtain ⟨h3, hF⟩ := ite_s hF
      refine gf_X3_25 hE hD h3 dX3_isName_37 ?_
      refine lv_iload_n hx hb dX3_isName_40 rfl (lv_at hl 2 rfl) ?_
      refine lv_iadd hx hb dX3_isName_41 ?_
      refine lv_topi (fun x4 ex4 => ?_)
      have hF := xlet_e hF ex4
      refine lv_istore_n (lv' := [(3, .int x4), (0, .ref a0), (1, .ref (sK G y1)), (2, .int y2)]) hx hb dX3_isName_42 rfl hl (by decide) rfl (fun ls hl => ?_)
      refine lv_iload_n hx hb dX3_isName_43 rfl (lv_at hl 0 rfl) ?_
      refine lv_if_lt (tgt := 70) hx hb dX3_isName_44 (by decide) (fun c5 => ?_) (fun c5 => ?_)
      · have hF := ite_p hF c5
        exact B_X3_isName_j70 hE hD (lv_sub hl [1] rfl) hF
      · have hF := ite_n hF c5
        refine lv_iload_n hx hb dX3_isName_47 rfl (lv_at hl 0 rfl) ?_
        refine lv_aload_n hx hb dX3_isName_48 rfl (lv_at hl 1 rfl) ?_
        obtain ⟨q6, h7, hF⟩ := xb_s hF
        refine gr_X3_31 hE hD h3 h7 dX3_isName_49 ?_
        obtain ⟨h8, hF⟩ := ite_s hF
        refine t_alen hE hD h8 dX3_isName_52 ?_
        refine lv_icmp_ge (tgt := 70) hx hb dX3_isName_53 (by decide) (fun c9 => ?_) (fun c9 => ?_)
        · have hF := ite_p hF c9
          exact B_X3_isName_j70 hE hD (lv_sub hl [1] rfl) hF
        · have hF := ite_n hF c9
          refine lv_aload_n hx hb dX3_isName_56 rfl (lv_at hl 1 rfl) ?_
          obtain ⟨q10, h11, hF⟩ := xb_s hF
          refine gr_X3_31 hE hD h3 h11 dX3_isName_57 ?_
          refine lv_iload_n hx hb dX3_isName_60 rfl (lv_at hl 0 rfl) ?_
          obtain ⟨h12, hF⟩ := ite_s hF
          obtain ⟨h13, hF⟩ := ite_s hF
          refine t_iald hE hD h12 h13 dX3_isName_61 ?_
          refine lv_aload_n hx hb dX3_isName_62 rfl (lv_at hl 2 rfl) ?_
          refine lv_iload_n hx hb dX3_isName_63 rfl (lv_at hl 3 rfl) ?_
          obtain ⟨h14, hF⟩ := ite_s hF
          obtain ⟨h15, hF⟩ := ite_s hF
          refine kVSi (As := [.int y2]) (rest := [.int (tI u q10 x4.toNatClampNeg)]) hE hl hD (c_J0_charAt h14 h15) kl_X3_146 (s_recv hE hD h14) rfl rfl (Nat.le_of_ble_eq_true rfl) dX3_isName_64 ⟨Nat.le_of_ble_eq_true rfl, Nat.le_of_ble_eq_true rfl⟩ ⟨Nat.le_of_ble_eq_true rfl, Nat.le_of_ble_eq_true rfl⟩ (fun H locs (hD : tD G _ _ u H locs) => ?_)
          refine lv_icmp_eq (tgt := 72) hx hb dX3_isName_67 (by decide) (fun c16 => ?_) (fun c16 => ?_)
          · have hF := ite_p hF c16
            obtain ⟨x17, ex17⟩ : ∃ y : Int32, y = y2 + (1 : Int32) := ⟨_, rfl⟩
            have hF := xlet_e hF ex17
            refine lv_iinc (v := x17) (lv' := [(2, .int x17), (3, .int x4), (0, .ref a0), (1, .ref (sK G y1))]) hx hb dX3_isName_72 hl (k := 3) rfl (by rw [ex17]; rfl) (by decide) rfl (fun ls hl => ?_)
            refine lv_goto (tgt := 28) hx hb dX3_isName_75 (by decide) ?_
            exact ih hD (lv_sub hl [2, 3, 0] rfl) hF
          · have hF := ite_n hF c16
            exact B_X3_isName_j70 hE hD (lv_sub hl [1] rfl) hF
def F_X3_isName_j24 (u : xT) (a0 : Nat) : Option (Int32 × xT) := some ((0 : Int32), u)
theorem B_X3_isName_j24 {p : Program} {l : Launch} {e : Env} {s : State} {m : MethodId} {args : Array Value} {below : List Frame} {meth : Method} {cd : Code} {G : xG} {w0 : xW} {rr : (Int32 × xT)} (hE : xE p s m args meth cd cX3_isName RX3 G 4 (Option.some Jvm.ClassFile.FieldType.boolean)) {u : xT} {a0 : Nat} {H : Heap} {locs : List Loc} {ls : Array Slot} (hD : tD G (xA w0 s.heap.size) s.heap u H locs) (hl : lv_has ls 4 [(0, .ref a0)]) (hF : F_X3_isName_j24 u a0 = some rr) : W p l e (xR 7 0 0) s m args below meth cd H locs 0 0 (xQi G w0 (fun r z => r = rr.1 ∧ (rr.1 = 0 ∨ rr.1 = 1) ∧ z = ((tE G rr.2), rr.2.1)) below args s 0 0) (F0 m 24 ls []) := by
  have hx := hE.1; have hb := hE.2.1
  unfold F_X3_isName_j24 at hF
  refine lv_iconst (v := (0 : Int32)) hx hb dX3_isName_24 (by decide) ?_
  obtain rfl := Option.some.inj hF
  exact x_zret hE hD (show (0 : Int32) = 0 ∨ (0 : Int32) = 1 by decide) ⟨rfl, (show (0 : Int32) = 0 ∨ (0 : Int32) = 1 by decide), rfl⟩ (by omega) (by omega) dX3_isName_25
def F_X3_isName (u : xT) (a0 : Nat) (xa : Nat) : Option (Int32 × xT) := if tK u a0 = 3 then if (tI u a0 2) = (1 : Int32) then if xa < 19 then if ((tI u a0 6) - (tI u a0 5)) = (nI (sN xa)) then F_X3_isName_l28 xFuel u a0 xa (0 : Int32) else F_X3_isName_j24 u a0 else none else F_X3_isName_j24 u a0 else none
theorem c_X3_isName {l : Launch} {G : xG} {rr : (Int32 × xT)} {u : xT} {a0 : Nat} {xa : Nat} (hF : F_X3_isName u a0 xa = some rr) : xMi l G yX3_isName cX3_isName 4 (Option.some Jvm.ClassFile.FieldType.boolean) 7 0 0 [.ref a0, .ref (sK G xa)] (tE G u) u.1 (fun r z => r = rr.1 ∧ (rr.1 = 0 ∨ rr.1 = 1) ∧ z = ((tE G rr.2), rr.2.1)) := by
  unfold F_X3_isName at hF
  refine x_startI rfl (Nat.le_of_ble_eq_true rfl) (fun p e s m args below meth cd ls hE hnm hl hD => ?_)
  have hx := hE.1; have hb := hE.2.1
  have hl : lv_has ls 4 [(0, .ref a0), (1, .ref (sK G xa))] := hl
  have hD : tD G (xA (tE G u) s.heap.size) s.heap u s.heap [] := hD
  refine lv_aload_n hx hb dX3_isName_0 rfl (lv_at hl 0 rfl) ?_
  obtain ⟨h18, hF⟩ := ite_s hF
  refine gf_X3_22 hE hD h18 dX3_isName_1 ?_
  refine lv_iconst (v := (1 : Int32)) hx hb dX3_isName_4 (by decide) ?_
  refine lv_icmp_ne (tgt := 24) hx hb dX3_isName_5 (by decide) (fun c19 => ?_) (fun c19 => ?_)
  · have hF := ite_n hF c19
    exact B_X3_isName_j24 hE hD (lv_sub hl [0] rfl) hF
  · have hF := ite_p hF c19
    refine lv_aload_n hx hb dX3_isName_8 rfl (lv_at hl 0 rfl) ?_
    refine gf_X3_28 hE hD h18 dX3_isName_9 ?_
    refine lv_aload_n hx hb dX3_isName_12 rfl (lv_at hl 0 rfl) ?_
    refine gf_X3_25 hE hD h18 dX3_isName_13 ?_
    refine lv_isub hx hb dX3_isName_16 ?_
    refine lv_aload_n hx hb dX3_isName_17 rfl (lv_at hl 1 rfl) ?_
    obtain ⟨h20, hF⟩ := ite_s hF
    refine kVSi (As := []) (rest := [.int ((tI u a0 6) - (tI u a0 5))]) hE hl hD (c_J0_length h20) kl_X3_141 (s_recv hE hD h20) rfl rfl (Nat.le_of_ble_eq_true rfl) dX3_isName_18 ⟨Nat.le_of_ble_eq_true rfl, Nat.le_of_ble_eq_true rfl⟩ ⟨Nat.le_of_ble_eq_true rfl, Nat.le_of_ble_eq_true rfl⟩ (fun H locs (hD : tD G _ _ u H locs) => ?_)
    refine lv_icmp_eq (tgt := 26) hx hb dX3_isName_21 (by decide) (fun c21 => ?_) (fun c21 => ?_)
    · have hF := ite_p hF c21
      refine lv_iconst (v := (0 : Int32)) hx hb dX3_isName_26 (by decide) ?_
      refine lv_istore_n (lv' := [(2, .int (0 : Int32)), (0, .ref a0), (1, .ref (sK G xa))]) hx hb dX3_isName_27 rfl hl (by decide) rfl (fun ls hl => ?_)
      exact L_X3_isName_l28 hE _ hD (lv_sub hl [1, 2, 0] rfl) hF
    · have hF := ite_n hF c21
      exact B_X3_isName_j24 hE hD (lv_sub hl [0] rfl) hF
def F_X3_kindHere_j69 (u : xT) (a0 : Nat) (s0 : Int32) : Option (Int32 × xT) := some (s0, u)
theorem B_X3_kindHere_j69 {p : Program} {l : Launch} {e : Env} {s : State} {m : MethodId} {args : Array Value} {below : List Frame} {meth : Method} {cd : Code} {G : xG} {w0 : xW} {rr : (Int32 × xT)} (hE : xE p s m args meth cd cX3_kindHere RX3 G 1 (Option.some Jvm.ClassFile.FieldType.int)) {u : xT} {a0 : Nat} {s0 : Int32} {H : Heap} {locs : List Loc} {ls : Array Slot} (hD : tD G (xA w0 s.heap.size) s.heap u H locs) (hl : lv_has ls 1 [(0, .ref a0)]) (hF : F_X3_kindHere_j69 u a0 s0 = some rr) : W p l e (xR 8 0 0) s m args below meth cd H locs 0 0 (xQi G w0 (fun r z => r = rr.1 ∧ z = ((tE G rr.2), rr.2.1)) below args s 0 0) (F0 m 69 ls [.int s0]) := by
  have hx := hE.1; have hb := hE.2.1
  unfold F_X3_kindHere_j69 at hF
  obtain rfl := Option.some.inj hF
  exact x_iret hE hD ⟨rfl, rfl⟩ (by omega) (by omega) dX3_kindHere_69
def F_X3_kindHere (u : xT) (a0 : Nat) : Option (Int32 × xT) := if tK u a0 = 3 then (F_X3_isName u a0 0).bind (fun r2 => if r2.1 = 0 then if tK r2.2 a0 = 3 then (F_X3_isName r2.2 a0 1).bind (fun r7 => if r7.1 = 0 then if tK r7.2 a0 = 3 then (F_X3_isName r7.2 a0 2).bind (fun r12 => if r12.1 = 0 then if tK r12.2 a0 = 3 then (F_X3_isName r12.2 a0 3).bind (fun r17 => if r17.1 = 0 then if tK r17.2 a0 = 3 then (F_X3_isName r17.2 a0 4).bind (fun r22 => if r22.1 = 0 then if tK r22.2 a0 = 3 then (F_X3_isName r22.2 a0 5).bind (fun r27 => if r27.1 = 0 then F_X3_kindHere_j69 r27.2 a0 (-1 : Int32) else F_X3_kindHere_j69 r27.2 a0 (5 : Int32)) else none else some ((4 : Int32), r22.2)) else none else some ((3 : Int32), r17.2)) else none else some ((2 : Int32), r12.2)) else none else some ((1 : Int32), r7.2)) else none else some ((0 : Int32), r2.2)) else none
theorem c_X3_kindHere {l : Launch} {G : xG} {rr : (Int32 × xT)} {u : xT} {a0 : Nat} (hF : F_X3_kindHere u a0 = some rr) : xMi l G yX3_kindHere cX3_kindHere 1 (Option.some Jvm.ClassFile.FieldType.int) 8 0 0 [.ref a0] (tE G u) u.1 (fun r z => r = rr.1 ∧ z = ((tE G rr.2), rr.2.1)) := by
  unfold F_X3_kindHere at hF
  refine x_startI rfl (Nat.le_of_ble_eq_true rfl) (fun p e s m args below meth cd ls hE hnm hl hD => ?_)
  have hx := hE.1; have hb := hE.2.1
  have hl : lv_has ls 1 [(0, .ref a0)] := hl
  have hD : tD G (xA (tE G u) s.heap.size) s.heap u s.heap [] := hD
  refine lv_aload_n hx hb dX3_kindHere_0 rfl (lv_at hl 0 rfl) ?_
  refine va_ldcS (q := sK G 0) hx hb hE.2.2.1 (hE.2.2.2.2.1.2.2.2.2.2.2.2.1 0 (111, "bridge") rfl) dX3_kindHere_1 ?_
  obtain ⟨h1, hF⟩ := ite_s hF
  obtain ⟨r2, k3, hF⟩ := xb_s hF
  refine kVz (As := [.ref (sK G 0)]) (rest := []) hE hl hD (c_X3_isName k3) kl_X3_61 (tE_3 h1) rfl rfl rfl rfl (Nat.le_of_ble_eq_true rfl) dX3_kindHere_3 ⟨Nat.le_of_ble_eq_true rfl, Nat.le_of_ble_eq_true rfl⟩ ⟨Nat.le_of_ble_eq_true rfl, Nat.le_of_ble_eq_true rfl⟩ (fun H locs z4 (hD : tD G _ _ r2.2 H locs) => ?_)
  refine lv_if_eq (tgt := 11) hx hb dX3_kindHere_6 (by decide) (fun c5 => ?_) (fun c5 => ?_)
  · have hF := ite_p hF c5
    refine lv_aload_n hx hb dX3_kindHere_11 rfl (lv_at hl 0 rfl) ?_
    refine va_ldcS (q := sK G 1) hx hb hE.2.2.1 (hE.2.2.2.2.1.2.2.2.2.2.2.2.1 1 (113, "plain") rfl) dX3_kindHere_12 ?_
    obtain ⟨h6, hF⟩ := ite_s hF
    obtain ⟨r7, k8, hF⟩ := xb_s hF
    refine kVz (As := [.ref (sK G 1)]) (rest := []) hE hl hD (c_X3_isName k8) kl_X3_61 (tE_3 h6) rfl rfl rfl rfl (Nat.le_of_ble_eq_true rfl) dX3_kindHere_14 ⟨Nat.le_of_ble_eq_true rfl, Nat.le_of_ble_eq_true rfl⟩ ⟨Nat.le_of_ble_eq_true rfl, Nat.le_of_ble_eq_true rfl⟩ (fun H locs z9 (hD : tD G _ _ r7.2 H locs) => ?_)
    refine lv_if_eq (tgt := 22) hx hb dX3_kindHere_17 (by decide) (fun c10 => ?_) (fun c10 => ?_)
    · have hF := ite_p hF c10
      refine lv_aload_n hx hb dX3_kindHere_22 rfl (lv_at hl 0 rfl) ?_
      refine va_ldcS (q := sK G 2) hx hb hE.2.2.1 (hE.2.2.2.2.1.2.2.2.2.2.2.2.1 2 (115, "stream") rfl) dX3_kindHere_23 ?_
      obtain ⟨h11, hF⟩ := ite_s hF
      obtain ⟨r12, k13, hF⟩ := xb_s hF
      refine kVz (As := [.ref (sK G 2)]) (rest := []) hE hl hD (c_X3_isName k13) kl_X3_61 (tE_3 h11) rfl rfl rfl rfl (Nat.le_of_ble_eq_true rfl) dX3_kindHere_25 ⟨Nat.le_of_ble_eq_true rfl, Nat.le_of_ble_eq_true rfl⟩ ⟨Nat.le_of_ble_eq_true rfl, Nat.le_of_ble_eq_true rfl⟩ (fun H locs z14 (hD : tD G _ _ r12.2 H locs) => ?_)
      refine lv_if_eq (tgt := 33) hx hb dX3_kindHere_28 (by decide) (fun c15 => ?_) (fun c15 => ?_)
      · have hF := ite_p hF c15
        refine lv_aload_n hx hb dX3_kindHere_33 rfl (lv_at hl 0 rfl) ?_
        refine va_ldcS (q := sK G 3) hx hb hE.2.2.1 (hE.2.2.2.2.1.2.2.2.2.2.2.2.1 3 (117, "mill") rfl) dX3_kindHere_34 ?_
        obtain ⟨h16, hF⟩ := ite_s hF
        obtain ⟨r17, k18, hF⟩ := xb_s hF
        refine kVz (As := [.ref (sK G 3)]) (rest := []) hE hl hD (c_X3_isName k18) kl_X3_61 (tE_3 h16) rfl rfl rfl rfl (Nat.le_of_ble_eq_true rfl) dX3_kindHere_36 ⟨Nat.le_of_ble_eq_true rfl, Nat.le_of_ble_eq_true rfl⟩ ⟨Nat.le_of_ble_eq_true rfl, Nat.le_of_ble_eq_true rfl⟩ (fun H locs z19 (hD : tD G _ _ r17.2 H locs) => ?_)
        refine lv_if_eq (tgt := 44) hx hb dX3_kindHere_39 (by decide) (fun c20 => ?_) (fun c20 => ?_)
        · have hF := ite_p hF c20
          refine lv_aload_n hx hb dX3_kindHere_44 rfl (lv_at hl 0 rfl) ?_
          refine va_ldcS (q := sK G 4) hx hb hE.2.2.1 (hE.2.2.2.2.1.2.2.2.2.2.2.2.1 4 (119, "egg") rfl) dX3_kindHere_45 ?_
          obtain ⟨h21, hF⟩ := ite_s hF
          obtain ⟨r22, k23, hF⟩ := xb_s hF
          refine kVz (As := [.ref (sK G 4)]) (rest := []) hE hl hD (c_X3_isName k23) kl_X3_61 (tE_3 h21) rfl rfl rfl rfl (Nat.le_of_ble_eq_true rfl) dX3_kindHere_47 ⟨Nat.le_of_ble_eq_true rfl, Nat.le_of_ble_eq_true rfl⟩ ⟨Nat.le_of_ble_eq_true rfl, Nat.le_of_ble_eq_true rfl⟩ (fun H locs z24 (hD : tD G _ _ r22.2 H locs) => ?_)
          refine lv_if_eq (tgt := 55) hx hb dX3_kindHere_50 (by decide) (fun c25 => ?_) (fun c25 => ?_)
          · have hF := ite_p hF c25
            refine lv_aload_n hx hb dX3_kindHere_55 rfl (lv_at hl 0 rfl) ?_
            refine va_ldcS (q := sK G 5) hx hb hE.2.2.1 (hE.2.2.2.2.1.2.2.2.2.2.2.2.1 5 (121, "market") rfl) dX3_kindHere_56 ?_
            obtain ⟨h26, hF⟩ := ite_s hF
            obtain ⟨r27, k28, hF⟩ := xb_s hF
            refine kVz (As := [.ref (sK G 5)]) (rest := []) hE hl hD (c_X3_isName k28) kl_X3_61 (tE_3 h26) rfl rfl rfl rfl (Nat.le_of_ble_eq_true rfl) dX3_kindHere_58 ⟨Nat.le_of_ble_eq_true rfl, Nat.le_of_ble_eq_true rfl⟩ ⟨Nat.le_of_ble_eq_true rfl, Nat.le_of_ble_eq_true rfl⟩ (fun H locs z29 (hD : tD G _ _ r27.2 H locs) => ?_)
            refine lv_if_eq (tgt := 68) hx hb dX3_kindHere_61 (by decide) (fun c30 => ?_) (fun c30 => ?_)
            · have hF := ite_p hF c30
              refine lv_iconst (v := (-1 : Int32)) hx hb dX3_kindHere_68 (by decide) ?_
              exact B_X3_kindHere_j69 hE hD (lv_sub hl [0] rfl) hF
            · have hF := ite_n hF c30
              refine lv_iconst (v := (5 : Int32)) hx hb dX3_kindHere_64 (by decide) ?_
              refine lv_goto (tgt := 69) hx hb dX3_kindHere_65 (by decide) ?_
              exact B_X3_kindHere_j69 hE hD (lv_sub hl [0] rfl) hF
          · have hF := ite_n hF c25
            refine lv_iconst (v := (4 : Int32)) hx hb dX3_kindHere_53 (by decide) ?_
            obtain rfl := Option.some.inj hF
            exact x_iret hE hD ⟨rfl, rfl⟩ (by omega) (by omega) dX3_kindHere_54
        · have hF := ite_n hF c20
          refine lv_iconst (v := (3 : Int32)) hx hb dX3_kindHere_42 (by decide) ?_
          obtain rfl := Option.some.inj hF
          exact x_iret hE hD ⟨rfl, rfl⟩ (by omega) (by omega) dX3_kindHere_43
      · have hF := ite_n hF c15
        refine lv_iconst (v := (2 : Int32)) hx hb dX3_kindHere_31 (by decide) ?_
        obtain rfl := Option.some.inj hF
        exact x_iret hE hD ⟨rfl, rfl⟩ (by omega) (by omega) dX3_kindHere_32
    · have hF := ite_n hF c10
      refine lv_iconst (v := (1 : Int32)) hx hb dX3_kindHere_20 (by decide) ?_
      obtain rfl := Option.some.inj hF
      exact x_iret hE hD ⟨rfl, rfl⟩ (by omega) (by omega) dX3_kindHere_21
  · have hF := ite_n hF c5
    refine lv_iconst (v := (0 : Int32)) hx hb dX3_kindHere_9 (by decide) ?_
    obtain rfl := Option.some.inj hF
    exact x_iret hE hD ⟨rfl, rfl⟩ (by omega) (by omega) dX3_kindHere_10
def F_X3_deedHere_j47 (u : xT) (a0 : Nat) (s0 : Int32) : Option (Int32 × xT) := some (s0, u)
theorem B_X3_deedHere_j47 {p : Program} {l : Launch} {e : Env} {s : State} {m : MethodId} {args : Array Value} {below : List Frame} {meth : Method} {cd : Code} {G : xG} {w0 : xW} {rr : (Int32 × xT)} (hE : xE p s m args meth cd cX3_deedHere RX3 G 1 (Option.some Jvm.ClassFile.FieldType.int)) {u : xT} {a0 : Nat} {s0 : Int32} {H : Heap} {locs : List Loc} {ls : Array Slot} (hD : tD G (xA w0 s.heap.size) s.heap u H locs) (hl : lv_has ls 1 [(0, .ref a0)]) (hF : F_X3_deedHere_j47 u a0 s0 = some rr) : W p l e (xR 8 0 0) s m args below meth cd H locs 0 0 (xQi G w0 (fun r z => r = rr.1 ∧ z = ((tE G rr.2), rr.2.1)) below args s 0 0) (F0 m 47 ls [.int s0]) := by
  have hx := hE.1; have hb := hE.2.1
  unfold F_X3_deedHere_j47 at hF
  obtain rfl := Option.some.inj hF
  exact x_iret hE hD ⟨rfl, rfl⟩ (by omega) (by omega) dX3_deedHere_47
def F_X3_deedHere (u : xT) (a0 : Nat) : Option (Int32 × xT) := if tK u a0 = 3 then (F_X3_isName u a0 15).bind (fun r2 => if r2.1 = 0 then if tK r2.2 a0 = 3 then (F_X3_isName r2.2 a0 16).bind (fun r7 => if r7.1 = 0 then if tK r7.2 a0 = 3 then (F_X3_isName r7.2 a0 17).bind (fun r12 => if r12.1 = 0 then if tK r12.2 a0 = 3 then (F_X3_isName r12.2 a0 18).bind (fun r17 => if r17.1 = 0 then F_X3_deedHere_j47 r17.2 a0 (-1 : Int32) else F_X3_deedHere_j47 r17.2 a0 (3 : Int32)) else none else some ((2 : Int32), r12.2)) else none else some ((1 : Int32), r7.2)) else none else some ((0 : Int32), r2.2)) else none
theorem c_X3_deedHere {l : Launch} {G : xG} {rr : (Int32 × xT)} {u : xT} {a0 : Nat} (hF : F_X3_deedHere u a0 = some rr) : xMi l G yX3_deedHere cX3_deedHere 1 (Option.some Jvm.ClassFile.FieldType.int) 8 0 0 [.ref a0] (tE G u) u.1 (fun r z => r = rr.1 ∧ z = ((tE G rr.2), rr.2.1)) := by
  unfold F_X3_deedHere at hF
  refine x_startI rfl (Nat.le_of_ble_eq_true rfl) (fun p e s m args below meth cd ls hE hnm hl hD => ?_)
  have hx := hE.1; have hb := hE.2.1
  have hl : lv_has ls 1 [(0, .ref a0)] := hl
  have hD : tD G (xA (tE G u) s.heap.size) s.heap u s.heap [] := hD
  refine lv_aload_n hx hb dX3_deedHere_0 rfl (lv_at hl 0 rfl) ?_
  refine va_ldcS (q := sK G 15) hx hb hE.2.2.1 (hE.2.2.2.2.1.2.2.2.2.2.2.2.1 15 (123, "free") rfl) dX3_deedHere_1 ?_
  obtain ⟨h1, hF⟩ := ite_s hF
  obtain ⟨r2, k3, hF⟩ := xb_s hF
  refine kVz (As := [.ref (sK G 15)]) (rest := []) hE hl hD (c_X3_isName k3) kl_X3_61 (tE_3 h1) rfl rfl rfl rfl (Nat.le_of_ble_eq_true rfl) dX3_deedHere_3 ⟨Nat.le_of_ble_eq_true rfl, Nat.le_of_ble_eq_true rfl⟩ ⟨Nat.le_of_ble_eq_true rfl, Nat.le_of_ble_eq_true rfl⟩ (fun H locs z4 (hD : tD G _ _ r2.2 H locs) => ?_)
  refine lv_if_eq (tgt := 11) hx hb dX3_deedHere_6 (by decide) (fun c5 => ?_) (fun c5 => ?_)
  · have hF := ite_p hF c5
    refine lv_aload_n hx hb dX3_deedHere_11 rfl (lv_at hl 0 rfl) ?_
    refine va_ldcS (q := sK G 16) hx hb hE.2.2.1 (hE.2.2.2.2.1.2.2.2.2.2.2.2.1 16 (125, "dear") rfl) dX3_deedHere_12 ?_
    obtain ⟨h6, hF⟩ := ite_s hF
    obtain ⟨r7, k8, hF⟩ := xb_s hF
    refine kVz (As := [.ref (sK G 16)]) (rest := []) hE hl hD (c_X3_isName k8) kl_X3_61 (tE_3 h6) rfl rfl rfl rfl (Nat.le_of_ble_eq_true rfl) dX3_deedHere_14 ⟨Nat.le_of_ble_eq_true rfl, Nat.le_of_ble_eq_true rfl⟩ ⟨Nat.le_of_ble_eq_true rfl, Nat.le_of_ble_eq_true rfl⟩ (fun H locs z9 (hD : tD G _ _ r7.2 H locs) => ?_)
    refine lv_if_eq (tgt := 22) hx hb dX3_deedHere_17 (by decide) (fun c10 => ?_) (fun c10 => ?_)
    · have hF := ite_p hF c10
      refine lv_aload_n hx hb dX3_deedHere_22 rfl (lv_at hl 0 rfl) ?_
      refine va_ldcS (q := sK G 17) hx hb hE.2.2.1 (hE.2.2.2.2.1.2.2.2.2.2.2.2.1 17 (127, "double") rfl) dX3_deedHere_23 ?_
      obtain ⟨h11, hF⟩ := ite_s hF
      obtain ⟨r12, k13, hF⟩ := xb_s hF
      refine kVz (As := [.ref (sK G 17)]) (rest := []) hE hl hD (c_X3_isName k13) kl_X3_61 (tE_3 h11) rfl rfl rfl rfl (Nat.le_of_ble_eq_true rfl) dX3_deedHere_25 ⟨Nat.le_of_ble_eq_true rfl, Nat.le_of_ble_eq_true rfl⟩ ⟨Nat.le_of_ble_eq_true rfl, Nat.le_of_ble_eq_true rfl⟩ (fun H locs z14 (hD : tD G _ _ r12.2 H locs) => ?_)
      refine lv_if_eq (tgt := 33) hx hb dX3_deedHere_28 (by decide) (fun c15 => ?_) (fun c15 => ?_)
      · have hF := ite_p hF c15
        refine lv_aload_n hx hb dX3_deedHere_33 rfl (lv_at hl 0 rfl) ?_
        refine va_ldcS (q := sK G 18) hx hb hE.2.2.1 (hE.2.2.2.2.1.2.2.2.2.2.2.2.1 18 (129, "shut") rfl) dX3_deedHere_34 ?_
        obtain ⟨h16, hF⟩ := ite_s hF
        obtain ⟨r17, k18, hF⟩ := xb_s hF
        refine kVz (As := [.ref (sK G 18)]) (rest := []) hE hl hD (c_X3_isName k18) kl_X3_61 (tE_3 h16) rfl rfl rfl rfl (Nat.le_of_ble_eq_true rfl) dX3_deedHere_36 ⟨Nat.le_of_ble_eq_true rfl, Nat.le_of_ble_eq_true rfl⟩ ⟨Nat.le_of_ble_eq_true rfl, Nat.le_of_ble_eq_true rfl⟩ (fun H locs z19 (hD : tD G _ _ r17.2 H locs) => ?_)
        refine lv_if_eq (tgt := 46) hx hb dX3_deedHere_39 (by decide) (fun c20 => ?_) (fun c20 => ?_)
        · have hF := ite_p hF c20
          refine lv_iconst (v := (-1 : Int32)) hx hb dX3_deedHere_46 (by decide) ?_
          exact B_X3_deedHere_j47 hE hD (lv_sub hl [0] rfl) hF
        · have hF := ite_n hF c20
          refine lv_iconst (v := (3 : Int32)) hx hb dX3_deedHere_42 (by decide) ?_
          refine lv_goto (tgt := 47) hx hb dX3_deedHere_43 (by decide) ?_
          exact B_X3_deedHere_j47 hE hD (lv_sub hl [0] rfl) hF
      · have hF := ite_n hF c15
        refine lv_iconst (v := (2 : Int32)) hx hb dX3_deedHere_31 (by decide) ?_
        obtain rfl := Option.some.inj hF
        exact x_iret hE hD ⟨rfl, rfl⟩ (by omega) (by omega) dX3_deedHere_32
    · have hF := ite_n hF c10
      refine lv_iconst (v := (1 : Int32)) hx hb dX3_deedHere_20 (by decide) ?_
      obtain rfl := Option.some.inj hF
      exact x_iret hE hD ⟨rfl, rfl⟩ (by omega) (by omega) dX3_deedHere_21
  · have hF := ite_n hF c5
    refine lv_iconst (v := (0 : Int32)) hx hb dX3_deedHere_9 (by decide) ?_
    obtain rfl := Option.some.inj hF
    exact x_iret hE hD ⟨rfl, rfl⟩ (by omega) (by omega) dX3_deedHere_10
def F_X3_valueHere_j87 (u : xT) (a0 : Nat) (s0 : Int32) : Option (Int32 × xT) := some (s0, u)
theorem B_X3_valueHere_j87 {p : Program} {l : Launch} {e : Env} {s : State} {m : MethodId} {args : Array Value} {below : List Frame} {meth : Method} {cd : Code} {G : xG} {w0 : xW} {rr : (Int32 × xT)} (hE : xE p s m args meth cd cX3_valueHere RX3 G 2 (Option.some Jvm.ClassFile.FieldType.int)) {u : xT} {a0 : Nat} {s0 : Int32} {H : Heap} {locs : List Loc} {ls : Array Slot} (hD : tD G (xA w0 s.heap.size) s.heap u H locs) (hl : lv_has ls 2 [(0, .ref a0)]) (hF : F_X3_valueHere_j87 u a0 s0 = some rr) : W p l e (xR 8 0 0) s m args below meth cd H locs 0 0 (xQi G w0 (fun r z => r = rr.1 ∧ z = ((tE G rr.2), rr.2.1)) below args s 0 0) (F0 m 87 ls [.int s0]) := by
  have hx := hE.1; have hb := hE.2.1
  unfold F_X3_valueHere_j87 at hF
  obtain rfl := Option.some.inj hF
  exact x_iret hE hD ⟨rfl, rfl⟩ (by omega) (by omega) dX3_valueHere_87
def F_X3_valueHere_j23 (u : xT) (a0 : Nat) (s0 : Int32) : Option (Int32 × xT) := some (s0, u)
theorem B_X3_valueHere_j23 {p : Program} {l : Launch} {e : Env} {s : State} {m : MethodId} {args : Array Value} {below : List Frame} {meth : Method} {cd : Code} {G : xG} {w0 : xW} {rr : (Int32 × xT)} (hE : xE p s m args meth cd cX3_valueHere RX3 G 2 (Option.some Jvm.ClassFile.FieldType.int)) {u : xT} {a0 : Nat} {s0 : Int32} {H : Heap} {locs : List Loc} {ls : Array Slot} (hD : tD G (xA w0 s.heap.size) s.heap u H locs) (hl : lv_has ls 2 [(0, .ref a0)]) (hF : F_X3_valueHere_j23 u a0 s0 = some rr) : W p l e (xR 8 0 0) s m args below meth cd H locs 0 0 (xQi G w0 (fun r z => r = rr.1 ∧ z = ((tE G rr.2), rr.2.1)) below args s 0 0) (F0 m 23 ls [.int s0]) := by
  have hx := hE.1; have hb := hE.2.1
  unfold F_X3_valueHere_j23 at hF
  obtain rfl := Option.some.inj hF
  exact x_iret hE hD ⟨rfl, rfl⟩ (by omega) (by omega) dX3_valueHere_23
def F_X3_valueHere (u : xT) (a0 : Nat) : Option (Int32 × xT) := if tK u a0 = 3 then if (tI u a0 2) = (2 : Int32) then (F_X3_numberHere u a0).bind (fun r27 => if 0 ≤ r27 then F_X3_valueHere_j23 u a0 r27 else F_X3_valueHere_j23 u a0 (-9 : Int32)) else (F_X3_isName u a0 8).bind (fun r3 => if r3.1 = 0 then if tK r3.2 a0 = 3 then (F_X3_isName r3.2 a0 9).bind (fun r8 => if r8.1 = 0 then if tK r8.2 a0 = 3 then (F_X3_isName r8.2 a0 10).bind (fun r13 => if r13.1 = 0 then if tK r13.2 a0 = 3 then (F_X3_isName r13.2 a0 11).bind (fun r18 => if r18.1 = 0 then if tK r18.2 a0 = 3 then (F_X3_isName r18.2 a0 12).bind (fun r23 => if r23.1 = 0 then F_X3_valueHere_j87 r23.2 a0 (-9 : Int32) else F_X3_valueHere_j87 r23.2 a0 (-5 : Int32)) else none else some ((-4 : Int32), r18.2)) else none else some ((-3 : Int32), r13.2)) else none else some ((-2 : Int32), r8.2)) else none else some ((-1 : Int32), r3.2)) else none
theorem c_X3_valueHere {l : Launch} {G : xG} {rr : (Int32 × xT)} {u : xT} {a0 : Nat} (hF : F_X3_valueHere u a0 = some rr) : xMi l G yX3_valueHere cX3_valueHere 2 (Option.some Jvm.ClassFile.FieldType.int) 8 0 0 [.ref a0] (tE G u) u.1 (fun r z => r = rr.1 ∧ z = ((tE G rr.2), rr.2.1)) := by
  unfold F_X3_valueHere at hF
  refine x_startI rfl (Nat.le_of_ble_eq_true rfl) (fun p e s m args below meth cd ls hE hnm hl hD => ?_)
  have hx := hE.1; have hb := hE.2.1
  have hl : lv_has ls 2 [(0, .ref a0)] := hl
  have hD : tD G (xA (tE G u) s.heap.size) s.heap u s.heap [] := hD
  refine lv_aload_n hx hb dX3_valueHere_0 rfl (lv_at hl 0 rfl) ?_
  obtain ⟨h1, hF⟩ := ite_s hF
  refine gf_X3_22 hE hD h1 dX3_valueHere_1 ?_
  refine lv_iconst (v := (2 : Int32)) hx hb dX3_valueHere_4 (by decide) ?_
  refine lv_icmp_ne (tgt := 24) hx hb dX3_valueHere_5 (by decide) (fun c2 => ?_) (fun c2 => ?_)
  · have hF := ite_n hF c2
    refine lv_aload_n hx hb dX3_valueHere_24 rfl (lv_at hl 0 rfl) ?_
    refine va_ldcS (q := sK G 8) hx hb hE.2.2.1 (hE.2.2.2.2.1.2.2.2.2.2.2.2.1 8 (131, "day") rfl) dX3_valueHere_25 ?_
    obtain ⟨r3, k4, hF⟩ := xb_s hF
    refine kVz (As := [.ref (sK G 8)]) (rest := []) hE hl hD (c_X3_isName k4) kl_X3_61 (tE_3 h1) rfl rfl rfl rfl (Nat.le_of_ble_eq_true rfl) dX3_valueHere_27 ⟨Nat.le_of_ble_eq_true rfl, Nat.le_of_ble_eq_true rfl⟩ ⟨Nat.le_of_ble_eq_true rfl, Nat.le_of_ble_eq_true rfl⟩ (fun H locs z5 (hD : tD G _ _ r3.2 H locs) => ?_)
    refine lv_if_eq (tgt := 35) hx hb dX3_valueHere_30 (by decide) (fun c6 => ?_) (fun c6 => ?_)
    · have hF := ite_p hF c6
      refine lv_aload_n hx hb dX3_valueHere_35 rfl (lv_at hl 0 rfl) ?_
      refine va_ldcS (q := sK G 9) hx hb hE.2.2.1 (hE.2.2.2.2.1.2.2.2.2.2.2.2.1 9 (133, "times") rfl) dX3_valueHere_36 ?_
      obtain ⟨h7, hF⟩ := ite_s hF
      obtain ⟨r8, k9, hF⟩ := xb_s hF
      refine kVz (As := [.ref (sK G 9)]) (rest := []) hE hl hD (c_X3_isName k9) kl_X3_61 (tE_3 h7) rfl rfl rfl rfl (Nat.le_of_ble_eq_true rfl) dX3_valueHere_38 ⟨Nat.le_of_ble_eq_true rfl, Nat.le_of_ble_eq_true rfl⟩ ⟨Nat.le_of_ble_eq_true rfl, Nat.le_of_ble_eq_true rfl⟩ (fun H locs z10 (hD : tD G _ _ r8.2 H locs) => ?_)
      refine lv_if_eq (tgt := 47) hx hb dX3_valueHere_41 (by decide) (fun c11 => ?_) (fun c11 => ?_)
      · have hF := ite_p hF c11
        refine lv_aload_n hx hb dX3_valueHere_47 rfl (lv_at hl 0 rfl) ?_
        refine va_ldcS (q := sK G 10) hx hb hE.2.2.1 (hE.2.2.2.2.1.2.2.2.2.2.2.2.1 10 (135, "toll") rfl) dX3_valueHere_48 ?_
        obtain ⟨h12, hF⟩ := ite_s hF
        obtain ⟨r13, k14, hF⟩ := xb_s hF
        refine kVz (As := [.ref (sK G 10)]) (rest := []) hE hl hD (c_X3_isName k14) kl_X3_61 (tE_3 h12) rfl rfl rfl rfl (Nat.le_of_ble_eq_true rfl) dX3_valueHere_50 ⟨Nat.le_of_ble_eq_true rfl, Nat.le_of_ble_eq_true rfl⟩ ⟨Nat.le_of_ble_eq_true rfl, Nat.le_of_ble_eq_true rfl⟩ (fun H locs z15 (hD : tD G _ _ r13.2 H locs) => ?_)
        refine lv_if_eq (tgt := 59) hx hb dX3_valueHere_53 (by decide) (fun c16 => ?_) (fun c16 => ?_)
        · have hF := ite_p hF c16
          refine lv_aload_n hx hb dX3_valueHere_59 rfl (lv_at hl 0 rfl) ?_
          refine va_ldcS (q := sK G 11) hx hb hE.2.2.1 (hE.2.2.2.2.1.2.2.2.2.2.2.2.1 11 (137, "feast") rfl) dX3_valueHere_60 ?_
          obtain ⟨h17, hF⟩ := ite_s hF
          obtain ⟨r18, k19, hF⟩ := xb_s hF
          refine kVz (As := [.ref (sK G 11)]) (rest := []) hE hl hD (c_X3_isName k19) kl_X3_61 (tE_3 h17) rfl rfl rfl rfl (Nat.le_of_ble_eq_true rfl) dX3_valueHere_62 ⟨Nat.le_of_ble_eq_true rfl, Nat.le_of_ble_eq_true rfl⟩ ⟨Nat.le_of_ble_eq_true rfl, Nat.le_of_ble_eq_true rfl⟩ (fun H locs z20 (hD : tD G _ _ r18.2 H locs) => ?_)
          refine lv_if_eq (tgt := 71) hx hb dX3_valueHere_65 (by decide) (fun c21 => ?_) (fun c21 => ?_)
          · have hF := ite_p hF c21
            refine lv_aload_n hx hb dX3_valueHere_71 rfl (lv_at hl 0 rfl) ?_
            refine va_ldcS (q := sK G 12) hx hb hE.2.2.1 (hE.2.2.2.2.1.2.2.2.2.2.2.2.1 12 (139, "number") rfl) dX3_valueHere_72 ?_
            obtain ⟨h22, hF⟩ := ite_s hF
            obtain ⟨r23, k24, hF⟩ := xb_s hF
            refine kVz (As := [.ref (sK G 12)]) (rest := []) hE hl hD (c_X3_isName k24) kl_X3_61 (tE_3 h22) rfl rfl rfl rfl (Nat.le_of_ble_eq_true rfl) dX3_valueHere_74 ⟨Nat.le_of_ble_eq_true rfl, Nat.le_of_ble_eq_true rfl⟩ ⟨Nat.le_of_ble_eq_true rfl, Nat.le_of_ble_eq_true rfl⟩ (fun H locs z25 (hD : tD G _ _ r23.2 H locs) => ?_)
            refine lv_if_eq (tgt := 85) hx hb dX3_valueHere_77 (by decide) (fun c26 => ?_) (fun c26 => ?_)
            · have hF := ite_p hF c26
              refine lv_bipush (v := (-9 : Int32)) hx hb dX3_valueHere_85 (by decide) ?_
              exact B_X3_valueHere_j87 hE hD (lv_sub hl [0] rfl) hF
            · have hF := ite_n hF c26
              refine lv_bipush (v := (-5 : Int32)) hx hb dX3_valueHere_80 (by decide) ?_
              refine lv_goto (tgt := 87) hx hb dX3_valueHere_82 (by decide) ?_
              exact B_X3_valueHere_j87 hE hD (lv_sub hl [0] rfl) hF
          · have hF := ite_n hF c21
            refine lv_bipush (v := (-4 : Int32)) hx hb dX3_valueHere_68 (by decide) ?_
            obtain rfl := Option.some.inj hF
            exact x_iret hE hD ⟨rfl, rfl⟩ (by omega) (by omega) dX3_valueHere_70
        · have hF := ite_n hF c16
          refine lv_bipush (v := (-3 : Int32)) hx hb dX3_valueHere_56 (by decide) ?_
          obtain rfl := Option.some.inj hF
          exact x_iret hE hD ⟨rfl, rfl⟩ (by omega) (by omega) dX3_valueHere_58
      · have hF := ite_n hF c11
        refine lv_bipush (v := (-2 : Int32)) hx hb dX3_valueHere_44 (by decide) ?_
        obtain rfl := Option.some.inj hF
        exact x_iret hE hD ⟨rfl, rfl⟩ (by omega) (by omega) dX3_valueHere_46
    · have hF := ite_n hF c6
      refine lv_iconst (v := (-1 : Int32)) hx hb dX3_valueHere_33 (by decide) ?_
      obtain rfl := Option.some.inj hF
      exact x_iret hE hD ⟨rfl, rfl⟩ (by omega) (by omega) dX3_valueHere_34
  · have hF := ite_p hF c2
    refine lv_aload_n hx hb dX3_valueHere_8 rfl (lv_at hl 0 rfl) ?_
    obtain ⟨r27, k28, hF⟩ := xb_s hF
    refine kVi (As := []) (rest := []) hE hl hD (c_X3_numberHere k28) kl_X3_72 (tE_3 h1) rfl rfl rfl rfl (Nat.le_of_ble_eq_true rfl) dX3_valueHere_9 ⟨Nat.le_of_ble_eq_true rfl, Nat.le_of_ble_eq_true rfl⟩ ⟨Nat.le_of_ble_eq_true rfl, Nat.le_of_ble_eq_true rfl⟩ (fun H locs (hD : tD G _ _ u H locs) => ?_)
    refine lv_istore_n (lv' := [(1, .int r27), (0, .ref a0)]) hx hb dX3_valueHere_12 rfl hl (by decide) rfl (fun ls hl => ?_)
    refine lv_iload_n hx hb dX3_valueHere_13 rfl (lv_at hl 0 rfl) ?_
    refine lv_if_ge (tgt := 22) hx hb dX3_valueHere_14 (by decide) (fun c29 => ?_) (fun c29 => ?_)
    · have hF := ite_p hF c29
      refine lv_iload_n hx hb dX3_valueHere_22 rfl (lv_at hl 0 rfl) ?_
      exact B_X3_valueHere_j23 hE hD (lv_sub hl [1] rfl) hF
    · have hF := ite_n hF c29
      refine lv_bipush (v := (-9 : Int32)) hx hb dX3_valueHere_17 (by decide) ?_
      refine lv_goto (tgt := 23) hx hb dX3_valueHere_19 (by decide) ?_
      exact B_X3_valueHere_j23 hE hD (lv_sub hl [1] rfl) hF
def F_X3_readComparison_j61 (u : xT) (a0 : Nat) (y1 : Int32) (s0 : Int32) : Option (Int32 × xT) := if s0 = (-9 : Int32) then if tK u a0 = 3 then (F_X3_refuse u a0).bind (fun r23 => some (r23.1, r23.2)) else none else if tK u a0 = 3 then (F_X3_next u a0).bind (fun r3 => if tK r3 a0 = 3 then (F_X3_valueHere r3 a0).bind (fun r6 => if r6.1 = (-9 : Int32) then if tK r6.2 a0 = 3 then (F_X3_refuse r6.2 a0).bind (fun r19 => some (r19.1, r19.2)) else none else if tK r6.2 a0 = 3 then (F_X3_next r6.2 a0).bind (fun r10 => if tK r10 a0 = 3 then (tP r10 a0 0).bind (fun q13 => if tK r10 q13 = 2 then (F_X2_addStep r10 q13 s0 y1 r6.1).bind (fun r16 => some ((1 : Int32), r16)) else none) else none) else none) else none) else none
theorem B_X3_readComparison_j61 {p : Program} {l : Launch} {e : Env} {s : State} {m : MethodId} {args : Array Value} {below : List Frame} {meth : Method} {cd : Code} {G : xG} {w0 : xW} {rr : (Int32 × xT)} (hE : xE p s m args meth cd cX3_readComparison RX3 G 4 (Option.some Jvm.ClassFile.FieldType.boolean)) {u : xT} {a0 : Nat} {y1 : Int32} {s0 : Int32} {H : Heap} {locs : List Loc} {ls : Array Slot} (hD : tD G (xA w0 s.heap.size) s.heap u H locs) (hl : lv_has ls 4 [(0, .ref a0), (1, .int y1)]) (hF : F_X3_readComparison_j61 u a0 y1 s0 = some rr) : W p l e (xR 9 0 0) s m args below meth cd H locs 0 0 (xQi G w0 (fun r z => r = rr.1 ∧ (rr.1 = 0 ∨ rr.1 = 1) ∧ z = ((tE G rr.2), rr.2.1)) below args s 0 0) (F0 m 61 ls [.int s0]) := by
  have hx := hE.1; have hb := hE.2.1
  unfold F_X3_readComparison_j61 at hF
  refine lv_istore_n (lv' := [(2, .int s0), (0, .ref a0), (1, .int y1)]) hx hb dX3_readComparison_61 rfl hl (by decide) rfl (fun ls hl => ?_)
  refine lv_iload_n hx hb dX3_readComparison_62 rfl (lv_at hl 0 rfl) ?_
  refine lv_bipush (v := (-9 : Int32)) hx hb dX3_readComparison_63 (by decide) ?_
  refine lv_icmp_ne (tgt := 73) hx hb dX3_readComparison_65 (by decide) (fun c1 => ?_) (fun c1 => ?_)
  · have hF := ite_n hF c1
    refine lv_aload_n hx hb dX3_readComparison_73 rfl (lv_at hl 1 rfl) ?_
    obtain ⟨h2, hF⟩ := ite_s hF
    obtain ⟨r3, k4, hF⟩ := xb_s hF
    refine kVv (As := []) (rest := []) hE hl hD (c_X3_next k4) kl_X3_53 (tE_3 h2) rfl rfl rfl rfl (Nat.le_of_ble_eq_true rfl) dX3_readComparison_74 ⟨Nat.le_of_ble_eq_true rfl, Nat.le_of_ble_eq_true rfl⟩ ⟨Nat.le_of_ble_eq_true rfl, Nat.le_of_ble_eq_true rfl⟩ (fun H locs (hD : tD G _ _ r3 H locs) => ?_)
    refine lv_aload_n hx hb dX3_readComparison_77 rfl (lv_at hl 1 rfl) ?_
    obtain ⟨h5, hF⟩ := ite_s hF
    obtain ⟨r6, k7, hF⟩ := xb_s hF
    refine kVi (As := []) (rest := []) hE hl hD (c_X3_valueHere k7) kl_X3_108 (tE_3 h5) rfl rfl rfl rfl (Nat.le_of_ble_eq_true rfl) dX3_readComparison_78 ⟨Nat.le_of_ble_eq_true rfl, Nat.le_of_ble_eq_true rfl⟩ ⟨Nat.le_of_ble_eq_true rfl, Nat.le_of_ble_eq_true rfl⟩ (fun H locs (hD : tD G _ _ r6.2 H locs) => ?_)
    refine lv_istore_n (lv' := [(3, .int r6.1), (2, .int s0), (0, .ref a0), (1, .int y1)]) hx hb dX3_readComparison_81 rfl hl (by decide) rfl (fun ls hl => ?_)
    refine lv_iload_n hx hb dX3_readComparison_82 rfl (lv_at hl 0 rfl) ?_
    refine lv_bipush (v := (-9 : Int32)) hx hb dX3_readComparison_83 (by decide) ?_
    refine lv_icmp_ne (tgt := 93) hx hb dX3_readComparison_85 (by decide) (fun c8 => ?_) (fun c8 => ?_)
    · have hF := ite_n hF c8
      refine lv_aload_n hx hb dX3_readComparison_93 rfl (lv_at hl 2 rfl) ?_
      obtain ⟨h9, hF⟩ := ite_s hF
      obtain ⟨r10, k11, hF⟩ := xb_s hF
      refine kVv (As := []) (rest := []) hE hl hD (c_X3_next k11) kl_X3_53 (tE_3 h9) rfl rfl rfl rfl (Nat.le_of_ble_eq_true rfl) dX3_readComparison_94 ⟨Nat.le_of_ble_eq_true rfl, Nat.le_of_ble_eq_true rfl⟩ ⟨Nat.le_of_ble_eq_true rfl, Nat.le_of_ble_eq_true rfl⟩ (fun H locs (hD : tD G _ _ r10 H locs) => ?_)
      refine lv_aload_n hx hb dX3_readComparison_97 rfl (lv_at hl 2 rfl) ?_
      obtain ⟨h12, hF⟩ := ite_s hF
      obtain ⟨q13, h14, hF⟩ := xb_s hF
      refine gr_X3_12 hE hD h12 h14 dX3_readComparison_98 ?_
      refine lv_iload_n hx hb dX3_readComparison_101 rfl (lv_at hl 1 rfl) ?_
      refine lv_iload_n hx hb dX3_readComparison_102 rfl (lv_at hl 3 rfl) ?_
      refine lv_iload_n hx hb dX3_readComparison_103 rfl (lv_at hl 0 rfl) ?_
      obtain ⟨h15, hF⟩ := ite_s hF
      obtain ⟨r16, k17, hF⟩ := xb_s hF
      refine kVv (As := [.int s0, .int y1, .int r6.1]) (rest := []) hE hl hD (c_X2_addStep k17) kl_X3_91 (tE_2 h15) rfl rfl rfl rfl (Nat.le_of_ble_eq_true rfl) dX3_readComparison_104 ⟨Nat.le_of_ble_eq_true rfl, Nat.le_of_ble_eq_true rfl⟩ ⟨Nat.le_of_ble_eq_true rfl, Nat.le_of_ble_eq_true rfl⟩ (fun H locs (hD : tD G _ _ r16 H locs) => ?_)
      refine lv_iconst (v := (1 : Int32)) hx hb dX3_readComparison_107 (by decide) ?_
      obtain rfl := Option.some.inj hF
      exact x_zret hE hD (show (1 : Int32) = 0 ∨ (1 : Int32) = 1 by decide) ⟨rfl, (show (1 : Int32) = 0 ∨ (1 : Int32) = 1 by decide), rfl⟩ (by omega) (by omega) dX3_readComparison_108
    · have hF := ite_p hF c8
      refine lv_aload_n hx hb dX3_readComparison_88 rfl (lv_at hl 2 rfl) ?_
      obtain ⟨h18, hF⟩ := ite_s hF
      obtain ⟨r19, k20, hF⟩ := xb_s hF
      refine kVz (As := []) (rest := []) hE hl hD (c_X3_refuse k20) kl_X3_49 (tE_3 h18) rfl rfl rfl rfl (Nat.le_of_ble_eq_true rfl) dX3_readComparison_89 ⟨Nat.le_of_ble_eq_true rfl, Nat.le_of_ble_eq_true rfl⟩ ⟨Nat.le_of_ble_eq_true rfl, Nat.le_of_ble_eq_true rfl⟩ (fun H locs z21 (hD : tD G _ _ r19.2 H locs) => ?_)
      obtain rfl := Option.some.inj hF
      exact x_zret hE hD z21 ⟨rfl, z21, rfl⟩ (by omega) (by omega) dX3_readComparison_92
  · have hF := ite_p hF c1
    refine lv_aload_n hx hb dX3_readComparison_68 rfl (lv_at hl 1 rfl) ?_
    obtain ⟨h22, hF⟩ := ite_s hF
    obtain ⟨r23, k24, hF⟩ := xb_s hF
    refine kVz (As := []) (rest := []) hE hl hD (c_X3_refuse k24) kl_X3_49 (tE_3 h22) rfl rfl rfl rfl (Nat.le_of_ble_eq_true rfl) dX3_readComparison_69 ⟨Nat.le_of_ble_eq_true rfl, Nat.le_of_ble_eq_true rfl⟩ ⟨Nat.le_of_ble_eq_true rfl, Nat.le_of_ble_eq_true rfl⟩ (fun H locs z25 (hD : tD G _ _ r23.2 H locs) => ?_)
    obtain rfl := Option.some.inj hF
    exact x_zret hE hD z25 ⟨rfl, z25, rfl⟩ (by omega) (by omega) dX3_readComparison_72
def F_X3_readComparison (u : xT) (a0 : Nat) : Option (Int32 × xT) := if tK u a0 = 3 then (F_X3_valueHere u a0).bind (fun r27 => if r27.1 = (-9 : Int32) then if tK r27.2 a0 = 3 then (F_X3_refuse r27.2 a0).bind (fun r47 => some (r47.1, r47.2)) else none else if tK r27.2 a0 = 3 then (F_X3_next r27.2 a0).bind (fun r31 => if tK r31 a0 = 3 then (F_X3_isByte r31 a0 (60 : Int32)).bind (fun r34 => if r34 = 0 then (F_X3_isByte r31 a0 (61 : Int32)).bind (fun r38 => if r38 = 0 then (F_X3_isByte r31 a0 (62 : Int32)).bind (fun r42 => if r42 = 0 then F_X3_readComparison_j61 r31 a0 r27.1 (-9 : Int32) else F_X3_readComparison_j61 r31 a0 r27.1 (2 : Int32)) else F_X3_readComparison_j61 r31 a0 r27.1 (1 : Int32)) else F_X3_readComparison_j61 r31 a0 r27.1 (0 : Int32)) else none) else none) else none
theorem c_X3_readComparison {l : Launch} {G : xG} {rr : (Int32 × xT)} {u : xT} {a0 : Nat} (hF : F_X3_readComparison u a0 = some rr) : xMi l G yX3_readComparison cX3_readComparison 4 (Option.some Jvm.ClassFile.FieldType.boolean) 9 0 0 [.ref a0] (tE G u) u.1 (fun r z => r = rr.1 ∧ (rr.1 = 0 ∨ rr.1 = 1) ∧ z = ((tE G rr.2), rr.2.1)) := by
  unfold F_X3_readComparison at hF
  refine x_startI rfl (Nat.le_of_ble_eq_true rfl) (fun p e s m args below meth cd ls hE hnm hl hD => ?_)
  have hx := hE.1; have hb := hE.2.1
  have hl : lv_has ls 4 [(0, .ref a0)] := hl
  have hD : tD G (xA (tE G u) s.heap.size) s.heap u s.heap [] := hD
  refine lv_aload_n hx hb dX3_readComparison_0 rfl (lv_at hl 0 rfl) ?_
  obtain ⟨h26, hF⟩ := ite_s hF
  obtain ⟨r27, k28, hF⟩ := xb_s hF
  refine kVi (As := []) (rest := []) hE hl hD (c_X3_valueHere k28) kl_X3_108 (tE_3 h26) rfl rfl rfl rfl (Nat.le_of_ble_eq_true rfl) dX3_readComparison_1 ⟨Nat.le_of_ble_eq_true rfl, Nat.le_of_ble_eq_true rfl⟩ ⟨Nat.le_of_ble_eq_true rfl, Nat.le_of_ble_eq_true rfl⟩ (fun H locs (hD : tD G _ _ r27.2 H locs) => ?_)
  refine lv_istore_n (lv' := [(1, .int r27.1), (0, .ref a0)]) hx hb dX3_readComparison_4 rfl hl (by decide) rfl (fun ls hl => ?_)
  refine lv_iload_n hx hb dX3_readComparison_5 rfl (lv_at hl 0 rfl) ?_
  refine lv_bipush (v := (-9 : Int32)) hx hb dX3_readComparison_6 (by decide) ?_
  refine lv_icmp_ne (tgt := 16) hx hb dX3_readComparison_8 (by decide) (fun c29 => ?_) (fun c29 => ?_)
  · have hF := ite_n hF c29
    refine lv_aload_n hx hb dX3_readComparison_16 rfl (lv_at hl 1 rfl) ?_
    obtain ⟨h30, hF⟩ := ite_s hF
    obtain ⟨r31, k32, hF⟩ := xb_s hF
    refine kVv (As := []) (rest := []) hE hl hD (c_X3_next k32) kl_X3_53 (tE_3 h30) rfl rfl rfl rfl (Nat.le_of_ble_eq_true rfl) dX3_readComparison_17 ⟨Nat.le_of_ble_eq_true rfl, Nat.le_of_ble_eq_true rfl⟩ ⟨Nat.le_of_ble_eq_true rfl, Nat.le_of_ble_eq_true rfl⟩ (fun H locs (hD : tD G _ _ r31 H locs) => ?_)
    refine lv_aload_n hx hb dX3_readComparison_20 rfl (lv_at hl 1 rfl) ?_
    refine lv_bipush (v := (60 : Int32)) hx hb dX3_readComparison_21 (by decide) ?_
    obtain ⟨h33, hF⟩ := ite_s hF
    obtain ⟨r34, k35, hF⟩ := xb_s hF
    refine kVz (As := [.int (60 : Int32)]) (rest := []) hE hl hD (c_X3_isByte k35) kl_X3_78 (tE_3 h33) rfl rfl rfl rfl (Nat.le_of_ble_eq_true rfl) dX3_readComparison_23 ⟨Nat.le_of_ble_eq_true rfl, Nat.le_of_ble_eq_true rfl⟩ ⟨Nat.le_of_ble_eq_true rfl, Nat.le_of_ble_eq_true rfl⟩ (fun H locs z36 (hD : tD G _ _ r31 H locs) => ?_)
    refine lv_if_eq (tgt := 33) hx hb dX3_readComparison_26 (by decide) (fun c37 => ?_) (fun c37 => ?_)
    · have hF := ite_p hF c37
      refine lv_aload_n hx hb dX3_readComparison_33 rfl (lv_at hl 1 rfl) ?_
      refine lv_bipush (v := (61 : Int32)) hx hb dX3_readComparison_34 (by decide) ?_
      obtain ⟨r38, k39, hF⟩ := xb_s hF
      refine kVz (As := [.int (61 : Int32)]) (rest := []) hE hl hD (c_X3_isByte k39) kl_X3_78 (tE_3 h33) rfl rfl rfl rfl (Nat.le_of_ble_eq_true rfl) dX3_readComparison_36 ⟨Nat.le_of_ble_eq_true rfl, Nat.le_of_ble_eq_true rfl⟩ ⟨Nat.le_of_ble_eq_true rfl, Nat.le_of_ble_eq_true rfl⟩ (fun H locs z40 (hD : tD G _ _ r31 H locs) => ?_)
      refine lv_if_eq (tgt := 46) hx hb dX3_readComparison_39 (by decide) (fun c41 => ?_) (fun c41 => ?_)
      · have hF := ite_p hF c41
        refine lv_aload_n hx hb dX3_readComparison_46 rfl (lv_at hl 1 rfl) ?_
        refine lv_bipush (v := (62 : Int32)) hx hb dX3_readComparison_47 (by decide) ?_
        obtain ⟨r42, k43, hF⟩ := xb_s hF
        refine kVz (As := [.int (62 : Int32)]) (rest := []) hE hl hD (c_X3_isByte k43) kl_X3_78 (tE_3 h33) rfl rfl rfl rfl (Nat.le_of_ble_eq_true rfl) dX3_readComparison_49 ⟨Nat.le_of_ble_eq_true rfl, Nat.le_of_ble_eq_true rfl⟩ ⟨Nat.le_of_ble_eq_true rfl, Nat.le_of_ble_eq_true rfl⟩ (fun H locs z44 (hD : tD G _ _ r31 H locs) => ?_)
        refine lv_if_eq (tgt := 59) hx hb dX3_readComparison_52 (by decide) (fun c45 => ?_) (fun c45 => ?_)
        · have hF := ite_p hF c45
          refine lv_bipush (v := (-9 : Int32)) hx hb dX3_readComparison_59 (by decide) ?_
          exact B_X3_readComparison_j61 hE hD (lv_sub hl [1, 0] rfl) hF
        · have hF := ite_n hF c45
          refine lv_iconst (v := (2 : Int32)) hx hb dX3_readComparison_55 (by decide) ?_
          refine lv_goto (tgt := 61) hx hb dX3_readComparison_56 (by decide) ?_
          exact B_X3_readComparison_j61 hE hD (lv_sub hl [1, 0] rfl) hF
      · have hF := ite_n hF c41
        refine lv_iconst (v := (1 : Int32)) hx hb dX3_readComparison_42 (by decide) ?_
        refine lv_goto (tgt := 61) hx hb dX3_readComparison_43 (by decide) ?_
        exact B_X3_readComparison_j61 hE hD (lv_sub hl [1, 0] rfl) hF
    · have hF := ite_n hF c37
      refine lv_iconst (v := (0 : Int32)) hx hb dX3_readComparison_29 (by decide) ?_
      refine lv_goto (tgt := 61) hx hb dX3_readComparison_30 (by decide) ?_
      exact B_X3_readComparison_j61 hE hD (lv_sub hl [1, 0] rfl) hF
  · have hF := ite_p hF c29
    refine lv_aload_n hx hb dX3_readComparison_11 rfl (lv_at hl 1 rfl) ?_
    obtain ⟨h46, hF⟩ := ite_s hF
    obtain ⟨r47, k48, hF⟩ := xb_s hF
    refine kVz (As := []) (rest := []) hE hl hD (c_X3_refuse k48) kl_X3_49 (tE_3 h46) rfl rfl rfl rfl (Nat.le_of_ble_eq_true rfl) dX3_readComparison_12 ⟨Nat.le_of_ble_eq_true rfl, Nat.le_of_ble_eq_true rfl⟩ ⟨Nat.le_of_ble_eq_true rfl, Nat.le_of_ble_eq_true rfl⟩ (fun H locs z49 (hD : tD G _ _ r47.2 H locs) => ?_)
    obtain rfl := Option.some.inj hF
    exact x_zret hE hD z49 ⟨rfl, z49, rfl⟩ (by omega) (by omega) dX3_readComparison_15
def F_X3_readWithin (kr : xT → Nat → Int32 → Option (Int32 × xT)) (u : xT) (a0 : Nat) (xa : Int32) : Option (Int32 × xT) := if xa < (3 : Int32) then if tK u a0 = 3 then (F_X3_next u a0).bind (fun r3 => if tK r3 a0 = 3 then (kr r3 a0 (xa + (1 : Int32))).bind (fun r6 => if r6.1 = 0 then some ((0 : Int32), r6.2) else if tK r6.2 a0 = 3 then (F_X3_isByte r6.2 a0 (41 : Int32)).bind (fun r11 => if r11 = 0 then (F_X3_refuse r6.2 a0).bind (fun r17 => some (r17.1, r17.2)) else (F_X3_next r6.2 a0).bind (fun r15 => some ((1 : Int32), r15))) else none) else none) else none else if tK u a0 = 3 then (F_X3_refuse u a0).bind (fun r21 => some (r21.1, r21.2)) else none
theorem c_X3_readWithin {l : Launch} {G : xG} {rr : (Int32 × xT)} {kr : xT → Nat → Int32 → Option (Int32 × xT)} {dd : Nat} (hkr : ∀ {u : xT} {a0 : Nat} {xa : Int32} {rr : Int32 × xT}, kr u a0 xa = some rr → xMi l G yX3_readAnyOf cX3_readAnyOf 3 (Option.some Jvm.ClassFile.FieldType.boolean) dd 0 0 [.ref a0, .int xa] (tE G u) u.1 (fun r z => r = rr.1 ∧ (rr.1 = 0 ∨ rr.1 = 1) ∧ z = ((tE G rr.2), rr.2.1))) {u : xT} {a0 : Nat} {xa : Int32} (hF : F_X3_readWithin kr u a0 xa = some rr) : xMi l G yX3_readWithin cX3_readWithin 2 (Option.some Jvm.ClassFile.FieldType.boolean) (dd + 20) 0 0 [.ref a0, .int xa] (tE G u) u.1 (fun r z => r = rr.1 ∧ (rr.1 = 0 ∨ rr.1 = 1) ∧ z = ((tE G rr.2), rr.2.1)) := by
  unfold F_X3_readWithin at hF
  refine x_startI rfl (Nat.le_of_ble_eq_true rfl) (fun p e s m args below meth cd ls hE hnm hl hD => ?_)
  have hx := hE.1; have hb := hE.2.1
  have hl : lv_has ls 2 [(0, .ref a0), (1, .int xa)] := hl
  have hD : tD G (xA (tE G u) s.heap.size) s.heap u s.heap [] := hD
  refine lv_iload_n hx hb dX3_readWithin_0 rfl (lv_at hl 1 rfl) ?_
  refine lv_iconst (v := (3 : Int32)) hx hb dX3_readWithin_1 (by decide) ?_
  refine lv_icmp_lt (tgt := 10) hx hb dX3_readWithin_2 (by decide) (fun c1 => ?_) (fun c1 => ?_)
  · have hF := ite_p hF c1
    refine lv_aload_n hx hb dX3_readWithin_10 rfl (lv_at hl 0 rfl) ?_
    obtain ⟨h2, hF⟩ := ite_s hF
    obtain ⟨r3, k4, hF⟩ := xb_s hF
    refine kVv (As := []) (rest := []) hE hl hD (c_X3_next k4) kl_X3_53 (tE_3 h2) rfl rfl rfl rfl (Nat.le_of_ble_eq_true rfl) dX3_readWithin_11 ⟨by show _ + 1 ≤ dd + 20; omega, by show 8 + (_ + 11) + 40 * _ ≤ 40 * (dd + 20); omega⟩ ⟨Nat.le_of_ble_eq_true rfl, Nat.le_of_ble_eq_true rfl⟩ (fun H locs (hD : tD G _ _ r3 H locs) => ?_)
    refine lv_aload_n hx hb dX3_readWithin_14 rfl (lv_at hl 0 rfl) ?_
    refine lv_iload_n hx hb dX3_readWithin_15 rfl (lv_at hl 1 rfl) ?_
    refine lv_iconst (v := (1 : Int32)) hx hb dX3_readWithin_16 (by decide) ?_
    refine lv_iadd hx hb dX3_readWithin_17 ?_
    obtain ⟨h5, hF⟩ := ite_s hF
    obtain ⟨r6, k7, hF⟩ := xb_s hF
    refine kVz (As := [.int (xa + (1 : Int32))]) (rest := []) hE hl hD (hkr k7) kl_X3_65 (tE_3 h5) rfl rfl rfl rfl (Nat.le_of_ble_eq_true rfl) dX3_readWithin_18 ⟨by show _ + 1 ≤ dd + 20; omega, by show 8 + (_ + 11) + 40 * _ ≤ 40 * (dd + 20); omega⟩ ⟨Nat.le_of_ble_eq_true rfl, Nat.le_of_ble_eq_true rfl⟩ (fun H locs z8 (hD : tD G _ _ r6.2 H locs) => ?_)
    refine lv_if_ne (tgt := 26) hx hb dX3_readWithin_21 (by decide) (fun c9 => ?_) (fun c9 => ?_)
    · have hF := ite_n hF c9
      refine lv_aload_n hx hb dX3_readWithin_26 rfl (lv_at hl 0 rfl) ?_
      refine lv_bipush (v := (41 : Int32)) hx hb dX3_readWithin_27 (by decide) ?_
      obtain ⟨h10, hF⟩ := ite_s hF
      obtain ⟨r11, k12, hF⟩ := xb_s hF
      refine kVz (As := [.int (41 : Int32)]) (rest := []) hE hl hD (c_X3_isByte k12) kl_X3_78 (tE_3 h10) rfl rfl rfl rfl (Nat.le_of_ble_eq_true rfl) dX3_readWithin_29 ⟨by show _ + 1 ≤ dd + 20; omega, by show 8 + (_ + 11) + 40 * _ ≤ 40 * (dd + 20); omega⟩ ⟨Nat.le_of_ble_eq_true rfl, Nat.le_of_ble_eq_true rfl⟩ (fun H locs z13 (hD : tD G _ _ r6.2 H locs) => ?_)
      refine lv_if_ne (tgt := 40) hx hb dX3_readWithin_32 (by decide) (fun c14 => ?_) (fun c14 => ?_)
      · have hF := ite_n hF c14
        refine lv_aload_n hx hb dX3_readWithin_40 rfl (lv_at hl 0 rfl) ?_
        obtain ⟨r15, k16, hF⟩ := xb_s hF
        refine kVv (As := []) (rest := []) hE hl hD (c_X3_next k16) kl_X3_53 (tE_3 h10) rfl rfl rfl rfl (Nat.le_of_ble_eq_true rfl) dX3_readWithin_41 ⟨by show _ + 1 ≤ dd + 20; omega, by show 8 + (_ + 11) + 40 * _ ≤ 40 * (dd + 20); omega⟩ ⟨Nat.le_of_ble_eq_true rfl, Nat.le_of_ble_eq_true rfl⟩ (fun H locs (hD : tD G _ _ r15 H locs) => ?_)
        refine lv_iconst (v := (1 : Int32)) hx hb dX3_readWithin_44 (by decide) ?_
        obtain rfl := Option.some.inj hF
        exact x_zret hE hD (show (1 : Int32) = 0 ∨ (1 : Int32) = 1 by decide) ⟨rfl, (show (1 : Int32) = 0 ∨ (1 : Int32) = 1 by decide), rfl⟩ (by omega) (by omega) dX3_readWithin_45
      · have hF := ite_p hF c14
        refine lv_aload_n hx hb dX3_readWithin_35 rfl (lv_at hl 0 rfl) ?_
        obtain ⟨r17, k18, hF⟩ := xb_s hF
        refine kVz (As := []) (rest := []) hE hl hD (c_X3_refuse k18) kl_X3_49 (tE_3 h10) rfl rfl rfl rfl (Nat.le_of_ble_eq_true rfl) dX3_readWithin_36 ⟨by show _ + 1 ≤ dd + 20; omega, by show 8 + (_ + 11) + 40 * _ ≤ 40 * (dd + 20); omega⟩ ⟨Nat.le_of_ble_eq_true rfl, Nat.le_of_ble_eq_true rfl⟩ (fun H locs z19 (hD : tD G _ _ r17.2 H locs) => ?_)
        obtain rfl := Option.some.inj hF
        exact x_zret hE hD z19 ⟨rfl, z19, rfl⟩ (by omega) (by omega) dX3_readWithin_39
    · have hF := ite_p hF c9
      refine lv_iconst (v := (0 : Int32)) hx hb dX3_readWithin_24 (by decide) ?_
      obtain rfl := Option.some.inj hF
      exact x_zret hE hD (show (0 : Int32) = 0 ∨ (0 : Int32) = 1 by decide) ⟨rfl, (show (0 : Int32) = 0 ∨ (0 : Int32) = 1 by decide), rfl⟩ (by omega) (by omega) dX3_readWithin_25
  · have hF := ite_n hF c1
    refine lv_aload_n hx hb dX3_readWithin_5 rfl (lv_at hl 0 rfl) ?_
    obtain ⟨h20, hF⟩ := ite_s hF
    obtain ⟨r21, k22, hF⟩ := xb_s hF
    refine kVz (As := []) (rest := []) hE hl hD (c_X3_refuse k22) kl_X3_49 (tE_3 h20) rfl rfl rfl rfl (Nat.le_of_ble_eq_true rfl) dX3_readWithin_6 ⟨by show _ + 1 ≤ dd + 20; omega, by show 8 + (_ + 11) + 40 * _ ≤ 40 * (dd + 20); omega⟩ ⟨Nat.le_of_ble_eq_true rfl, Nat.le_of_ble_eq_true rfl⟩ (fun H locs z23 (hD : tD G _ _ r21.2 H locs) => ?_)
    obtain rfl := Option.some.inj hF
    exact x_zret hE hD z23 ⟨rfl, z23, rfl⟩ (by omega) (by omega) dX3_readWithin_9
def F_X3_readOne_j83 (kr : xT → Nat → Int32 → Option (Int32 × xT)) (u : xT) (a0 : Nat) : Option (Int32 × xT) := some ((1 : Int32), u)
theorem B_X3_readOne_j83 {p : Program} {l : Launch} {e : Env} {s : State} {m : MethodId} {args : Array Value} {below : List Frame} {meth : Method} {cd : Code} {G : xG} {w0 : xW} {rr : (Int32 × xT)} (hE : xE p s m args meth cd cX3_readOne RX3 G 4 (Option.some Jvm.ClassFile.FieldType.boolean)) {kr : xT → Nat → Int32 → Option (Int32 × xT)} {dd : Nat} (hkr : ∀ {u : xT} {a0 : Nat} {xa : Int32} {rr : Int32 × xT}, kr u a0 xa = some rr → xMi l G yX3_readAnyOf cX3_readAnyOf 3 (Option.some Jvm.ClassFile.FieldType.boolean) dd 0 0 [.ref a0, .int xa] (tE G u) u.1 (fun r z => r = rr.1 ∧ (rr.1 = 0 ∨ rr.1 = 1) ∧ z = ((tE G rr.2), rr.2.1))) {u : xT} {a0 : Nat} {H : Heap} {locs : List Loc} {ls : Array Slot} (hD : tD G (xA w0 s.heap.size) s.heap u H locs) (hl : lv_has ls 4 [(0, .ref a0)]) (hF : F_X3_readOne_j83 kr u a0 = some rr) : W p l e (xR (dd + 21) 0 0) s m args below meth cd H locs 0 0 (xQi G w0 (fun r z => r = rr.1 ∧ (rr.1 = 0 ∨ rr.1 = 1) ∧ z = ((tE G rr.2), rr.2.1)) below args s 0 0) (F0 m 83 ls []) := by
  have hx := hE.1; have hb := hE.2.1
  unfold F_X3_readOne_j83 at hF
  refine lv_iconst (v := (1 : Int32)) hx hb dX3_readOne_83 (by decide) ?_
  obtain rfl := Option.some.inj hF
  exact x_zret hE hD (show (1 : Int32) = 0 ∨ (1 : Int32) = 1 by decide) ⟨rfl, (show (1 : Int32) = 0 ∨ (1 : Int32) = 1 by decide), rfl⟩ (by omega) (by omega) dX3_readOne_84
def F_X3_readOne_j69 (kr : xT → Nat → Int32 → Option (Int32 × xT)) (u : xT) (a0 : Nat) (y2 : Int32) : Option (Int32 × xT) := if y2 = 0 then F_X3_readOne_j83 kr u a0 else if tK u a0 = 3 then (tP u a0 0).bind (fun q3 => if tK u q3 = 2 then (F_X2_addStep u q3 (3 : Int32) (0 : Int32) (0 : Int32)).bind (fun r6 => F_X3_readOne_j83 kr r6 a0) else none) else none
theorem B_X3_readOne_j69 {p : Program} {l : Launch} {e : Env} {s : State} {m : MethodId} {args : Array Value} {below : List Frame} {meth : Method} {cd : Code} {G : xG} {w0 : xW} {rr : (Int32 × xT)} (hE : xE p s m args meth cd cX3_readOne RX3 G 4 (Option.some Jvm.ClassFile.FieldType.boolean)) {kr : xT → Nat → Int32 → Option (Int32 × xT)} {dd : Nat} (hkr : ∀ {u : xT} {a0 : Nat} {xa : Int32} {rr : Int32 × xT}, kr u a0 xa = some rr → xMi l G yX3_readAnyOf cX3_readAnyOf 3 (Option.some Jvm.ClassFile.FieldType.boolean) dd 0 0 [.ref a0, .int xa] (tE G u) u.1 (fun r z => r = rr.1 ∧ (rr.1 = 0 ∨ rr.1 = 1) ∧ z = ((tE G rr.2), rr.2.1))) {u : xT} {a0 : Nat} {y2 : Int32} {H : Heap} {locs : List Loc} {ls : Array Slot} (hD : tD G (xA w0 s.heap.size) s.heap u H locs) (hl : lv_has ls 4 [(0, .ref a0), (2, .int y2)]) (hF : F_X3_readOne_j69 kr u a0 y2 = some rr) : W p l e (xR (dd + 21) 0 0) s m args below meth cd H locs 0 0 (xQi G w0 (fun r z => r = rr.1 ∧ (rr.1 = 0 ∨ rr.1 = 1) ∧ z = ((tE G rr.2), rr.2.1)) below args s 0 0) (F0 m 69 ls []) := by
  have hx := hE.1; have hb := hE.2.1
  unfold F_X3_readOne_j69 at hF
  refine lv_iload_n hx hb dX3_readOne_69 rfl (lv_at hl 1 rfl) ?_
  refine lv_if_eq (tgt := 83) hx hb dX3_readOne_70 (by decide) (fun c1 => ?_) (fun c1 => ?_)
  · have hF := ite_p hF c1
    exact B_X3_readOne_j83 hE hkr hD (lv_sub hl [0] rfl) hF
  · have hF := ite_n hF c1
    refine lv_aload_n hx hb dX3_readOne_73 rfl (lv_at hl 0 rfl) ?_
    obtain ⟨h2, hF⟩ := ite_s hF
    obtain ⟨q3, h4, hF⟩ := xb_s hF
    refine gr_X3_12 hE hD h2 h4 dX3_readOne_74 ?_
    refine lv_iconst (v := (3 : Int32)) hx hb dX3_readOne_77 (by decide) ?_
    refine lv_iconst (v := (0 : Int32)) hx hb dX3_readOne_78 (by decide) ?_
    refine lv_iconst (v := (0 : Int32)) hx hb dX3_readOne_79 (by decide) ?_
    obtain ⟨h5, hF⟩ := ite_s hF
    obtain ⟨r6, k7, hF⟩ := xb_s hF
    refine kVv (As := [.int (3 : Int32), .int (0 : Int32), .int (0 : Int32)]) (rest := []) hE hl hD (c_X2_addStep k7) kl_X3_91 (tE_2 h5) rfl rfl rfl rfl (Nat.le_of_ble_eq_true rfl) dX3_readOne_80 ⟨by show _ + 1 ≤ dd + 21; omega, by show 8 + (_ + 11) + 40 * _ ≤ 40 * (dd + 21); omega⟩ ⟨Nat.le_of_ble_eq_true rfl, Nat.le_of_ble_eq_true rfl⟩ (fun H locs (hD : tD G _ _ r6 H locs) => ?_)
    exact B_X3_readOne_j83 hE hkr hD (lv_sub hl [0] rfl) hF
def F_X3_readOne_j67 (kr : xT → Nat → Int32 → Option (Int32 × xT)) (u : xT) (a0 : Nat) : Option (Int32 × xT) := some ((0 : Int32), u)
theorem B_X3_readOne_j67 {p : Program} {l : Launch} {e : Env} {s : State} {m : MethodId} {args : Array Value} {below : List Frame} {meth : Method} {cd : Code} {G : xG} {w0 : xW} {rr : (Int32 × xT)} (hE : xE p s m args meth cd cX3_readOne RX3 G 4 (Option.some Jvm.ClassFile.FieldType.boolean)) {kr : xT → Nat → Int32 → Option (Int32 × xT)} {dd : Nat} (hkr : ∀ {u : xT} {a0 : Nat} {xa : Int32} {rr : Int32 × xT}, kr u a0 xa = some rr → xMi l G yX3_readAnyOf cX3_readAnyOf 3 (Option.some Jvm.ClassFile.FieldType.boolean) dd 0 0 [.ref a0, .int xa] (tE G u) u.1 (fun r z => r = rr.1 ∧ (rr.1 = 0 ∨ rr.1 = 1) ∧ z = ((tE G rr.2), rr.2.1))) {u : xT} {a0 : Nat} {H : Heap} {locs : List Loc} {ls : Array Slot} (hD : tD G (xA w0 s.heap.size) s.heap u H locs) (hl : lv_has ls 4 [(0, .ref a0)]) (hF : F_X3_readOne_j67 kr u a0 = some rr) : W p l e (xR (dd + 21) 0 0) s m args below meth cd H locs 0 0 (xQi G w0 (fun r z => r = rr.1 ∧ (rr.1 = 0 ∨ rr.1 = 1) ∧ z = ((tE G rr.2), rr.2.1)) below args s 0 0) (F0 m 67 ls []) := by
  have hx := hE.1; have hb := hE.2.1
  unfold F_X3_readOne_j67 at hF
  refine lv_iconst (v := (0 : Int32)) hx hb dX3_readOne_67 (by decide) ?_
  obtain rfl := Option.some.inj hF
  exact x_zret hE hD (show (0 : Int32) = 0 ∨ (0 : Int32) = 1 by decide) ⟨rfl, (show (0 : Int32) = 0 ∨ (0 : Int32) = 1 by decide), rfl⟩ (by omega) (by omega) dX3_readOne_68
def F_X3_readOne_j40 (kr : xT → Nat → Int32 → Option (Int32 × xT)) (u : xT) (a0 : Nat) (y1 : Int32) (y2 : Int32) : Option (Int32 × xT) := if tK u a0 = 3 then (F_X3_isByte u a0 (40 : Int32)).bind (fun r9 => if r9 = 0 then (F_X3_readComparison u a0).bind (fun r13 => if r13.1 = 0 then F_X3_readOne_j67 kr r13.2 a0 else F_X3_readOne_j69 kr r13.2 a0 y2) else (F_X3_readWithin kr u a0 y1).bind (fun r17 => if r17.1 = 0 then F_X3_readOne_j67 kr r17.2 a0 else F_X3_readOne_j69 kr r17.2 a0 y2)) else none
theorem B_X3_readOne_j40 {p : Program} {l : Launch} {e : Env} {s : State} {m : MethodId} {args : Array Value} {below : List Frame} {meth : Method} {cd : Code} {G : xG} {w0 : xW} {rr : (Int32 × xT)} (hE : xE p s m args meth cd cX3_readOne RX3 G 4 (Option.some Jvm.ClassFile.FieldType.boolean)) {kr : xT → Nat → Int32 → Option (Int32 × xT)} {dd : Nat} (hkr : ∀ {u : xT} {a0 : Nat} {xa : Int32} {rr : Int32 × xT}, kr u a0 xa = some rr → xMi l G yX3_readAnyOf cX3_readAnyOf 3 (Option.some Jvm.ClassFile.FieldType.boolean) dd 0 0 [.ref a0, .int xa] (tE G u) u.1 (fun r z => r = rr.1 ∧ (rr.1 = 0 ∨ rr.1 = 1) ∧ z = ((tE G rr.2), rr.2.1))) {u : xT} {a0 : Nat} {y1 : Int32} {y2 : Int32} {H : Heap} {locs : List Loc} {ls : Array Slot} (hD : tD G (xA w0 s.heap.size) s.heap u H locs) (hl : lv_has ls 4 [(0, .ref a0), (1, .int y1), (2, .int y2)]) (hF : F_X3_readOne_j40 kr u a0 y1 y2 = some rr) : W p l e (xR (dd + 21) 0 0) s m args below meth cd H locs 0 0 (xQi G w0 (fun r z => r = rr.1 ∧ (rr.1 = 0 ∨ rr.1 = 1) ∧ z = ((tE G rr.2), rr.2.1)) below args s 0 0) (F0 m 40 ls []) := by
  have hx := hE.1; have hb := hE.2.1
  unfold F_X3_readOne_j40 at hF
  refine lv_aload_n hx hb dX3_readOne_40 rfl (lv_at hl 0 rfl) ?_
  refine lv_bipush (v := (40 : Int32)) hx hb dX3_readOne_41 (by decide) ?_
  obtain ⟨h8, hF⟩ := ite_s hF
  obtain ⟨r9, k10, hF⟩ := xb_s hF
  refine kVz (As := [.int (40 : Int32)]) (rest := []) hE hl hD (c_X3_isByte k10) kl_X3_78 (tE_3 h8) rfl rfl rfl rfl (Nat.le_of_ble_eq_true rfl) dX3_readOne_43 ⟨by show _ + 1 ≤ dd + 21; omega, by show 8 + (_ + 11) + 40 * _ ≤ 40 * (dd + 21); omega⟩ ⟨Nat.le_of_ble_eq_true rfl, Nat.le_of_ble_eq_true rfl⟩ (fun H locs z11 (hD : tD G _ _ u H locs) => ?_)
  refine lv_if_eq (tgt := 60) hx hb dX3_readOne_46 (by decide) (fun c12 => ?_) (fun c12 => ?_)
  · have hF := ite_p hF c12
    refine lv_aload_n hx hb dX3_readOne_60 rfl (lv_at hl 0 rfl) ?_
    obtain ⟨r13, k14, hF⟩ := xb_s hF
    refine kVz (As := []) (rest := []) hE hl hD (c_X3_readComparison k14) kl_X3_105 (tE_3 h8) rfl rfl rfl rfl (Nat.le_of_ble_eq_true rfl) dX3_readOne_61 ⟨by show _ + 1 ≤ dd + 21; omega, by show 8 + (_ + 11) + 40 * _ ≤ 40 * (dd + 21); omega⟩ ⟨Nat.le_of_ble_eq_true rfl, Nat.le_of_ble_eq_true rfl⟩ (fun H locs z15 (hD : tD G _ _ r13.2 H locs) => ?_)
    refine lv_if_ne (tgt := 69) hx hb dX3_readOne_64 (by decide) (fun c16 => ?_) (fun c16 => ?_)
    · have hF := ite_n hF c16
      exact B_X3_readOne_j69 hE hkr hD (lv_sub hl [0, 2] rfl) hF
    · have hF := ite_p hF c16
      exact B_X3_readOne_j67 hE hkr hD (lv_sub hl [0] rfl) hF
  · have hF := ite_n hF c12
    refine lv_aload_n hx hb dX3_readOne_49 rfl (lv_at hl 0 rfl) ?_
    refine lv_iload_n hx hb dX3_readOne_50 rfl (lv_at hl 1 rfl) ?_
    obtain ⟨r17, k18, hF⟩ := xb_s hF
    refine kVz (As := [.int y1]) (rest := []) hE hl hD (c_X3_readWithin hkr k18) kl_X3_102 (tE_3 h8) rfl rfl rfl rfl (Nat.le_of_ble_eq_true rfl) dX3_readOne_51 ⟨by show _ + 1 ≤ dd + 21; omega, by show 8 + (_ + 11) + 40 * _ ≤ 40 * (dd + 21); omega⟩ ⟨Nat.le_of_ble_eq_true rfl, Nat.le_of_ble_eq_true rfl⟩ (fun H locs z19 (hD : tD G _ _ r17.2 H locs) => ?_)
    refine lv_if_eq (tgt := 67) hx hb dX3_readOne_54 (by decide) (fun c20 => ?_) (fun c20 => ?_)
    · have hF := ite_p hF c20
      exact B_X3_readOne_j67 hE hkr hD (lv_sub hl [0] rfl) hF
    · have hF := ite_n hF c20
      refine lv_goto (tgt := 69) hx hb dX3_readOne_57 (by decide) ?_
      exact B_X3_readOne_j69 hE hkr hD (lv_sub hl [0, 2] rfl) hF
def F_X3_readOne_j29 (kr : xT → Nat → Int32 → Option (Int32 × xT)) (kc4 : xT → Nat → Int32 → Int32 → Int32 → Option (Int32 × xT)) (u : xT) (a0 : Nat) (y1 : Int32) (y3 : Int32) (s0 : Int32) : Option (Int32 × xT) := if tK u a0 = 3 then (F_X3_next u a0).bind (fun r22 => xlet (y3 + (1 : Int32)) (fun x24 => kc4 r22 a0 y1 s0 x24)) else none
theorem B_X3_readOne_j29 {p : Program} {l : Launch} {e : Env} {s : State} {m : MethodId} {args : Array Value} {below : List Frame} {meth : Method} {cd : Code} {G : xG} {w0 : xW} {rr : (Int32 × xT)} (hE : xE p s m args meth cd cX3_readOne RX3 G 4 (Option.some Jvm.ClassFile.FieldType.boolean)) {kr : xT → Nat → Int32 → Option (Int32 × xT)} {dd : Nat} (hkr : ∀ {u : xT} {a0 : Nat} {xa : Int32} {rr : Int32 × xT}, kr u a0 xa = some rr → xMi l G yX3_readAnyOf cX3_readAnyOf 3 (Option.some Jvm.ClassFile.FieldType.boolean) dd 0 0 [.ref a0, .int xa] (tE G u) u.1 (fun r z => r = rr.1 ∧ (rr.1 = 0 ∨ rr.1 = 1) ∧ z = ((tE G rr.2), rr.2.1))) {u : xT} (kc4 : xT → Nat → Int32 → Int32 → Int32 → Option (Int32 × xT)) (hc4 : ∀ {u1 : xT} {a0 : Nat} {y1 : Int32} {y2 : Int32} {y3 : Int32} {H : Heap} {locs : List Loc} {ls : Array Slot} , tD G (xA w0 s.heap.size) s.heap u1 H locs → lv_has ls 4 [(0, .ref a0), (1, .int y1), (2, .int y2), (3, .int y3)] → kc4 u1 a0 y1 y2 y3 = some rr → W p l e (xR (dd + 21) 0 0) s m args below meth cd H locs 0 0 (xQi G w0 (fun r z => r = rr.1 ∧ (rr.1 = 0 ∨ rr.1 = 1) ∧ z = ((tE G rr.2), rr.2.1)) below args s 0 0) (F0 m 4 ls [])) {a0 : Nat} {y1 : Int32} {y3 : Int32} {s0 : Int32} {H : Heap} {locs : List Loc} {ls : Array Slot} (hD : tD G (xA w0 s.heap.size) s.heap u H locs) (hl : lv_has ls 4 [(0, .ref a0), (1, .int y1), (3, .int y3)]) (hF : F_X3_readOne_j29 kr kc4 u a0 y1 y3 s0 = some rr) : W p l e (xR (dd + 21) 0 0) s m args below meth cd H locs 0 0 (xQi G w0 (fun r z => r = rr.1 ∧ (rr.1 = 0 ∨ rr.1 = 1) ∧ z = ((tE G rr.2), rr.2.1)) below args s 0 0) (F0 m 29 ls [.int s0]) := by
  have hx := hE.1; have hb := hE.2.1
  unfold F_X3_readOne_j29 at hF
  refine lv_istore_n (lv' := [(2, .int s0), (0, .ref a0), (1, .int y1), (3, .int y3)]) hx hb dX3_readOne_29 rfl hl (by decide) rfl (fun ls hl => ?_)
  refine lv_aload_n hx hb dX3_readOne_30 rfl (lv_at hl 1 rfl) ?_
  obtain ⟨h21, hF⟩ := ite_s hF
  obtain ⟨r22, k23, hF⟩ := xb_s hF
  refine kVv (As := []) (rest := []) hE hl hD (c_X3_next k23) kl_X3_53 (tE_3 h21) rfl rfl rfl rfl (Nat.le_of_ble_eq_true rfl) dX3_readOne_31 ⟨by show _ + 1 ≤ dd + 21; omega, by show 8 + (_ + 11) + 40 * _ ≤ 40 * (dd + 21); omega⟩ ⟨Nat.le_of_ble_eq_true rfl, Nat.le_of_ble_eq_true rfl⟩ (fun H locs (hD : tD G _ _ r22 H locs) => ?_)
  obtain ⟨x24, ex24⟩ : ∃ y : Int32, y = y3 + (1 : Int32) := ⟨_, rfl⟩
  have hF := xlet_e hF ex24
  refine lv_iinc (v := x24) (lv' := [(3, .int x24), (2, .int s0), (0, .ref a0), (1, .int y1)]) hx hb dX3_readOne_34 hl (k := 3) rfl (by rw [ex24]; rfl) (by decide) rfl (fun ls hl => ?_)
  refine lv_goto (tgt := 4) hx hb dX3_readOne_37 (by decide) ?_
  exact hc4 hD (lv_sub hl [2, 3, 1, 0] rfl) hF
def F_X3_readOne_l4 (kr : xT → Nat → Int32 → Option (Int32 × xT)) : Nat → xT → Nat → Int32 → Int32 → Int32 → Option (Int32 × xT)
  | 0, _, _, _, _, _ => none
  | nn + 1, u, a0, y1, y2, y3 => if (200 : Int32) ≤ y3 then F_X3_readOne_j40 kr u a0 y1 y2 else if tK u a0 = 3 then (F_X3_isName u a0 7).bind (fun r27 => if r27.1 = 0 then F_X3_readOne_j40 kr r27.2 a0 y1 y2 else if y2 = 0 then F_X3_readOne_j29 kr (F_X3_readOne_l4 kr nn) r27.2 a0 y1 y3 (1 : Int32) else F_X3_readOne_j29 kr (F_X3_readOne_l4 kr nn) r27.2 a0 y1 y3 (0 : Int32)) else none
theorem L_X3_readOne_l4 {p : Program} {l : Launch} {e : Env} {s : State} {m : MethodId} {args : Array Value} {below : List Frame} {meth : Method} {cd : Code} {G : xG} {w0 : xW} {rr : (Int32 × xT)} (hE : xE p s m args meth cd cX3_readOne RX3 G 4 (Option.some Jvm.ClassFile.FieldType.boolean)) {kr : xT → Nat → Int32 → Option (Int32 × xT)} {dd : Nat} (hkr : ∀ {u : xT} {a0 : Nat} {xa : Int32} {rr : Int32 × xT}, kr u a0 xa = some rr → xMi l G yX3_readAnyOf cX3_readAnyOf 3 (Option.some Jvm.ClassFile.FieldType.boolean) dd 0 0 [.ref a0, .int xa] (tE G u) u.1 (fun r z => r = rr.1 ∧ (rr.1 = 0 ∨ rr.1 = 1) ∧ z = ((tE G rr.2), rr.2.1))) : ∀ (nn : Nat) {u : xT} {a0 : Nat} {y1 : Int32} {y2 : Int32} {y3 : Int32} {H : Heap} {locs : List Loc} {ls : Array Slot} , tD G (xA w0 s.heap.size) s.heap u H locs → lv_has ls 4 [(0, .ref a0), (1, .int y1), (2, .int y2), (3, .int y3)] → F_X3_readOne_l4 kr nn u a0 y1 y2 y3 = some rr → W p l e (xR (dd + 21) 0 0) s m args below meth cd H locs 0 0 (xQi G w0 (fun r z => r = rr.1 ∧ (rr.1 = 0 ∨ rr.1 = 1) ∧ z = ((tE G rr.2), rr.2.1)) below args s 0 0) (F0 m 4 ls []) := by
  have hx := hE.1; have hb := hE.2.1
  intro nn
  induction nn with
  | zero => intro u a0 y1 y2 y3 H locs ls hD hl hF; rw [F_X3_readOne_l4] at hF; cases hF
  | succ nn ih =>
    intro u a0 y1 y2 y3 H locs ls hD hl hF
    rw [F_X3_readOne_l4] at hF
    refine lv_iload_n hx hb dX3_readOne_4 rfl (lv_at hl 3 rfl) ?_
    refine lv_sipush (v := (200 : Int32)) hx hb dX3_readOne_5 (by decide) ?_
    refine lv_icmp_ge (tgt := 40) hx hb dX3_readOne_8 (by decide) (fun c25 => ?_) (fun c25 => ?_)
    · have hF := ite_p hF c25
      exact B_X3_readOne_j40 hE hkr hD (lv_sub hl [0, 1, 2] rfl) hF
    · have hF := ite_n hF c25
      refine lv_aload_n hx hb dX3_readOne_11 rfl (lv_at hl 0 rfl) ?_
      refine va_ldcS (q := sK G 7) hx hb hE.2.2.1 (hE.2.2.2.2.1.2.2.2.2.2.2.2.1 7 (100, "not") rfl) dX3_readOne_12 ?_
      obtain ⟨h26, hF⟩ := ite_s hF
      obtain ⟨r27, k28, hF⟩ := xb_s hF
      refine kVz (As := [.ref (sK G 7)]) (rest := []) hE hl hD (c_X3_isName k28) kl_X3_61 (tE_3 h26) rfl rfl rfl rfl (Nat.le_of_ble_eq_true rfl) dX3_readOne_14 ⟨by show _ + 1 ≤ dd + 21; omega, by show 8 + (_ + 11) + 40 * _ ≤ 40 * (dd + 21); omega⟩ ⟨Nat.le_of_ble_eq_true rfl, Nat.le_of_ble_eq_true rfl⟩ (fun H locs z29 (hD : tD G _ _ r27.2 H locs) => ?_)
      refine lv_if_eq (tgt := 40) hx hb dX3_readOne_17 (by decide) (fun c30 => ?_) (fun c30 => ?_)
      · have hF := ite_p hF c30
        exact B_X3_readOne_j40 hE hkr hD (lv_sub hl [0, 1, 2] rfl) hF
      · have hF := ite_n hF c30
        refine lv_iload_n hx hb dX3_readOne_20 rfl (lv_at hl 2 rfl) ?_
        refine lv_if_ne (tgt := 28) hx hb dX3_readOne_21 (by decide) (fun c31 => ?_) (fun c31 => ?_)
        · have hF := ite_n hF c31
          refine lv_iconst (v := (0 : Int32)) hx hb dX3_readOne_28 (by decide) ?_
          exact B_X3_readOne_j29 hE hkr (F_X3_readOne_l4 kr nn) ih hD (lv_sub hl [0, 1, 3] rfl) hF
        · have hF := ite_p hF c31
          refine lv_iconst (v := (1 : Int32)) hx hb dX3_readOne_24 (by decide) ?_
          refine lv_goto (tgt := 29) hx hb dX3_readOne_25 (by decide) ?_
          exact B_X3_readOne_j29 hE hkr (F_X3_readOne_l4 kr nn) ih hD (lv_sub hl [0, 1, 3] rfl) hF
def F_X3_readOne (kr : xT → Nat → Int32 → Option (Int32 × xT)) (u : xT) (a0 : Nat) (xa : Int32) : Option (Int32 × xT) := F_X3_readOne_l4 kr xFuel u a0 xa (0 : Int32) (0 : Int32)
theorem c_X3_readOne {l : Launch} {G : xG} {rr : (Int32 × xT)} {kr : xT → Nat → Int32 → Option (Int32 × xT)} {dd : Nat} (hkr : ∀ {u : xT} {a0 : Nat} {xa : Int32} {rr : Int32 × xT}, kr u a0 xa = some rr → xMi l G yX3_readAnyOf cX3_readAnyOf 3 (Option.some Jvm.ClassFile.FieldType.boolean) dd 0 0 [.ref a0, .int xa] (tE G u) u.1 (fun r z => r = rr.1 ∧ (rr.1 = 0 ∨ rr.1 = 1) ∧ z = ((tE G rr.2), rr.2.1))) {u : xT} {a0 : Nat} {xa : Int32} (hF : F_X3_readOne kr u a0 xa = some rr) : xMi l G yX3_readOne cX3_readOne 4 (Option.some Jvm.ClassFile.FieldType.boolean) (dd + 21) 0 0 [.ref a0, .int xa] (tE G u) u.1 (fun r z => r = rr.1 ∧ (rr.1 = 0 ∨ rr.1 = 1) ∧ z = ((tE G rr.2), rr.2.1)) := by
  unfold F_X3_readOne at hF
  refine x_startI rfl (Nat.le_of_ble_eq_true rfl) (fun p e s m args below meth cd ls hE hnm hl hD => ?_)
  have hx := hE.1; have hb := hE.2.1
  have hl : lv_has ls 4 [(0, .ref a0), (1, .int xa)] := hl
  have hD : tD G (xA (tE G u) s.heap.size) s.heap u s.heap [] := hD
  refine lv_iconst (v := (0 : Int32)) hx hb dX3_readOne_0 (by decide) ?_
  refine lv_istore_n (lv' := [(2, .int (0 : Int32)), (0, .ref a0), (1, .int xa)]) hx hb dX3_readOne_1 rfl hl (by decide) rfl (fun ls hl => ?_)
  refine lv_iconst (v := (0 : Int32)) hx hb dX3_readOne_2 (by decide) ?_
  refine lv_istore_n (lv' := [(3, .int (0 : Int32)), (2, .int (0 : Int32)), (0, .ref a0), (1, .int xa)]) hx hb dX3_readOne_3 rfl hl (by decide) rfl (fun ls hl => ?_)
  exact L_X3_readOne_l4 hE hkr _ hD (lv_sub hl [2, 3, 1, 0] rfl) hF
def F_X3_readAllOf_j58 (kr : xT → Nat → Int32 → Option (Int32 × xT)) (u : xT) (a0 : Nat) : Option (Int32 × xT) := some ((1 : Int32), u)
theorem B_X3_readAllOf_j58 {p : Program} {l : Launch} {e : Env} {s : State} {m : MethodId} {args : Array Value} {below : List Frame} {meth : Method} {cd : Code} {G : xG} {w0 : xW} {rr : (Int32 × xT)} (hE : xE p s m args meth cd cX3_readAllOf RX3 G 3 (Option.some Jvm.ClassFile.FieldType.boolean)) {kr : xT → Nat → Int32 → Option (Int32 × xT)} {dd : Nat} (hkr : ∀ {u : xT} {a0 : Nat} {xa : Int32} {rr : Int32 × xT}, kr u a0 xa = some rr → xMi l G yX3_readAnyOf cX3_readAnyOf 3 (Option.some Jvm.ClassFile.FieldType.boolean) dd 0 0 [.ref a0, .int xa] (tE G u) u.1 (fun r z => r = rr.1 ∧ (rr.1 = 0 ∨ rr.1 = 1) ∧ z = ((tE G rr.2), rr.2.1))) {u : xT} {a0 : Nat} {H : Heap} {locs : List Loc} {ls : Array Slot} (hD : tD G (xA w0 s.heap.size) s.heap u H locs) (hl : lv_has ls 3 [(0, .ref a0)]) (hF : F_X3_readAllOf_j58 kr u a0 = some rr) : W p l e (xR (dd + 22) 0 0) s m args below meth cd H locs 0 0 (xQi G w0 (fun r z => r = rr.1 ∧ (rr.1 = 0 ∨ rr.1 = 1) ∧ z = ((tE G rr.2), rr.2.1)) below args s 0 0) (F0 m 58 ls []) := by
  have hx := hE.1; have hb := hE.2.1
  unfold F_X3_readAllOf_j58 at hF
  refine lv_iconst (v := (1 : Int32)) hx hb dX3_readAllOf_58 (by decide) ?_
  obtain rfl := Option.some.inj hF
  exact x_zret hE hD (show (1 : Int32) = 0 ∨ (1 : Int32) = 1 by decide) ⟨rfl, (show (1 : Int32) = 0 ∨ (1 : Int32) = 1 by decide), rfl⟩ (by omega) (by omega) dX3_readAllOf_59
def F_X3_readAllOf_l12 (kr : xT → Nat → Int32 → Option (Int32 × xT)) : Nat → xT → Nat → Int32 → Int32 → Option (Int32 × xT)
  | 0, _, _, _, _ => none
  | nn + 1, u, a0, y1, y2 => if (200 : Int32) ≤ y2 then F_X3_readAllOf_j58 kr u a0 else if tK u a0 = 3 then (F_X3_isName u a0 13).bind (fun r3 => if r3.1 = 0 then F_X3_readAllOf_j58 kr r3.2 a0 else if tK r3.2 a0 = 3 then (F_X3_next r3.2 a0).bind (fun r8 => if tK r8 a0 = 3 then (F_X3_readOne kr r8 a0 y1).bind (fun r11 => if r11.1 = 0 then some ((0 : Int32), r11.2) else if tK r11.2 a0 = 3 then (tP r11.2 a0 0).bind (fun q16 => if tK r11.2 q16 = 2 then (F_X2_addStep r11.2 q16 (4 : Int32) (0 : Int32) (0 : Int32)).bind (fun r19 => xlet (y2 + (1 : Int32)) (fun x21 => F_X3_readAllOf_l12 kr nn r19 a0 y1 x21)) else none) else none) else none) else none) else none
theorem L_X3_readAllOf_l12 {p : Program} {l : Launch} {e : Env} {s : State} {m : MethodId} {args : Array Value} {below : List Frame} {meth : Method} {cd : Code} {G : xG} {w0 : xW} {rr : (Int32 × xT)} (hE : xE p s m args meth cd cX3_readAllOf RX3 G 3 (Option.some Jvm.ClassFile.FieldType.boolean)) {kr : xT → Nat → Int32 → Option (Int32 × xT)} {dd : Nat} (hkr : ∀ {u : xT} {a0 : Nat} {xa : Int32} {rr : Int32 × xT}, kr u a0 xa = some rr → xMi l G yX3_readAnyOf cX3_readAnyOf 3 (Option.some Jvm.ClassFile.FieldType.boolean) dd 0 0 [.ref a0, .int xa] (tE G u) u.1 (fun r z => r = rr.1 ∧ (rr.1 = 0 ∨ rr.1 = 1) ∧ z = ((tE G rr.2), rr.2.1))) : ∀ (nn : Nat) {u : xT} {a0 : Nat} {y1 : Int32} {y2 : Int32} {H : Heap} {locs : List Loc} {ls : Array Slot} , tD G (xA w0 s.heap.size) s.heap u H locs → lv_has ls 3 [(0, .ref a0), (1, .int y1), (2, .int y2)] → F_X3_readAllOf_l12 kr nn u a0 y1 y2 = some rr → W p l e (xR (dd + 22) 0 0) s m args below meth cd H locs 0 0 (xQi G w0 (fun r z => r = rr.1 ∧ (rr.1 = 0 ∨ rr.1 = 1) ∧ z = ((tE G rr.2), rr.2.1)) below args s 0 0) (F0 m 12 ls []) := by
  have hx := hE.1; have hb := hE.2.1
  intro nn
  induction nn with
  | zero => intro u a0 y1 y2 H locs ls hD hl hF; rw [F_X3_readAllOf_l12] at hF; cases hF
  | succ nn ih =>
    intro u a0 y1 y2 H locs ls hD hl hF
    rw [F_X3_readAllOf_l12] at hF
    refine lv_iload_n hx hb dX3_readAllOf_12 rfl (lv_at hl 2 rfl) ?_
    refine lv_sipush (v := (200 : Int32)) hx hb dX3_readAllOf_13 (by decide) ?_
    refine lv_icmp_ge (tgt := 58) hx hb dX3_readAllOf_16 (by decide) (fun c1 => ?_) (fun c1 => ?_)
    · have hF := ite_p hF c1
      exact B_X3_readAllOf_j58 hE hkr hD (lv_sub hl [0] rfl) hF
    · have hF := ite_n hF c1
      refine lv_aload_n hx hb dX3_readAllOf_19 rfl (lv_at hl 0 rfl) ?_
      refine va_ldcS (q := sK G 13) hx hb hE.2.2.1 (hE.2.2.2.2.1.2.2.2.2.2.2.2.1 13 (98, "and") rfl) dX3_readAllOf_20 ?_
      obtain ⟨h2, hF⟩ := ite_s hF
      obtain ⟨r3, k4, hF⟩ := xb_s hF
      refine kVz (As := [.ref (sK G 13)]) (rest := []) hE hl hD (c_X3_isName k4) kl_X3_61 (tE_3 h2) rfl rfl rfl rfl (Nat.le_of_ble_eq_true rfl) dX3_readAllOf_22 ⟨by show _ + 1 ≤ dd + 22; omega, by show 8 + (_ + 11) + 40 * _ ≤ 40 * (dd + 22); omega⟩ ⟨Nat.le_of_ble_eq_true rfl, Nat.le_of_ble_eq_true rfl⟩ (fun H locs z5 (hD : tD G _ _ r3.2 H locs) => ?_)
      refine lv_if_eq (tgt := 58) hx hb dX3_readAllOf_25 (by decide) (fun c6 => ?_) (fun c6 => ?_)
      · have hF := ite_p hF c6
        exact B_X3_readAllOf_j58 hE hkr hD (lv_sub hl [0] rfl) hF
      · have hF := ite_n hF c6
        refine lv_aload_n hx hb dX3_readAllOf_28 rfl (lv_at hl 0 rfl) ?_
        obtain ⟨h7, hF⟩ := ite_s hF
        obtain ⟨r8, k9, hF⟩ := xb_s hF
        refine kVv (As := []) (rest := []) hE hl hD (c_X3_next k9) kl_X3_53 (tE_3 h7) rfl rfl rfl rfl (Nat.le_of_ble_eq_true rfl) dX3_readAllOf_29 ⟨by show _ + 1 ≤ dd + 22; omega, by show 8 + (_ + 11) + 40 * _ ≤ 40 * (dd + 22); omega⟩ ⟨Nat.le_of_ble_eq_true rfl, Nat.le_of_ble_eq_true rfl⟩ (fun H locs (hD : tD G _ _ r8 H locs) => ?_)
        refine lv_aload_n hx hb dX3_readAllOf_32 rfl (lv_at hl 0 rfl) ?_
        refine lv_iload_n hx hb dX3_readAllOf_33 rfl (lv_at hl 1 rfl) ?_
        obtain ⟨h10, hF⟩ := ite_s hF
        obtain ⟨r11, k12, hF⟩ := xb_s hF
        refine kVz (As := [.int y1]) (rest := []) hE hl hD (c_X3_readOne hkr k12) kl_X3_95 (tE_3 h10) rfl rfl rfl rfl (Nat.le_of_ble_eq_true rfl) dX3_readAllOf_34 ⟨by show _ + 1 ≤ dd + 22; omega, by show 8 + (_ + 11) + 40 * _ ≤ 40 * (dd + 22); omega⟩ ⟨Nat.le_of_ble_eq_true rfl, Nat.le_of_ble_eq_true rfl⟩ (fun H locs z13 (hD : tD G _ _ r11.2 H locs) => ?_)
        refine lv_if_ne (tgt := 42) hx hb dX3_readAllOf_37 (by decide) (fun c14 => ?_) (fun c14 => ?_)
        · have hF := ite_n hF c14
          refine lv_aload_n hx hb dX3_readAllOf_42 rfl (lv_at hl 0 rfl) ?_
          obtain ⟨h15, hF⟩ := ite_s hF
          obtain ⟨q16, h17, hF⟩ := xb_s hF
          refine gr_X3_12 hE hD h15 h17 dX3_readAllOf_43 ?_
          refine lv_iconst (v := (4 : Int32)) hx hb dX3_readAllOf_46 (by decide) ?_
          refine lv_iconst (v := (0 : Int32)) hx hb dX3_readAllOf_47 (by decide) ?_
          refine lv_iconst (v := (0 : Int32)) hx hb dX3_readAllOf_48 (by decide) ?_
          obtain ⟨h18, hF⟩ := ite_s hF
          obtain ⟨r19, k20, hF⟩ := xb_s hF
          refine kVv (As := [.int (4 : Int32), .int (0 : Int32), .int (0 : Int32)]) (rest := []) hE hl hD (c_X2_addStep k20) kl_X3_91 (tE_2 h18) rfl rfl rfl rfl (Nat.le_of_ble_eq_true rfl) dX3_readAllOf_49 ⟨by show _ + 1 ≤ dd + 22; omega, by show 8 + (_ + 11) + 40 * _ ≤ 40 * (dd + 22); omega⟩ ⟨Nat.le_of_ble_eq_true rfl, Nat.le_of_ble_eq_true rfl⟩ (fun H locs (hD : tD G _ _ r19 H locs) => ?_)
          obtain ⟨x21, ex21⟩ : ∃ y : Int32, y = y2 + (1 : Int32) := ⟨_, rfl⟩
          have hF := xlet_e hF ex21
          refine lv_iinc (v := x21) (lv' := [(2, .int x21), (0, .ref a0), (1, .int y1)]) hx hb dX3_readAllOf_52 hl (k := 2) rfl (by rw [ex21]; rfl) (by decide) rfl (fun ls hl => ?_)
          refine lv_goto (tgt := 12) hx hb dX3_readAllOf_55 (by decide) ?_
          exact ih hD (lv_sub hl [1, 2, 0] rfl) hF
        · have hF := ite_p hF c14
          refine lv_iconst (v := (0 : Int32)) hx hb dX3_readAllOf_40 (by decide) ?_
          obtain rfl := Option.some.inj hF
          exact x_zret hE hD (show (0 : Int32) = 0 ∨ (0 : Int32) = 1 by decide) ⟨rfl, (show (0 : Int32) = 0 ∨ (0 : Int32) = 1 by decide), rfl⟩ (by omega) (by omega) dX3_readAllOf_41
def F_X3_readAllOf (kr : xT → Nat → Int32 → Option (Int32 × xT)) (u : xT) (a0 : Nat) (xa : Int32) : Option (Int32 × xT) := if tK u a0 = 3 then (F_X3_readOne kr u a0 xa).bind (fun r23 => if r23.1 = 0 then some ((0 : Int32), r23.2) else F_X3_readAllOf_l12 kr xFuel r23.2 a0 xa (0 : Int32)) else none
theorem c_X3_readAllOf {l : Launch} {G : xG} {rr : (Int32 × xT)} {kr : xT → Nat → Int32 → Option (Int32 × xT)} {dd : Nat} (hkr : ∀ {u : xT} {a0 : Nat} {xa : Int32} {rr : Int32 × xT}, kr u a0 xa = some rr → xMi l G yX3_readAnyOf cX3_readAnyOf 3 (Option.some Jvm.ClassFile.FieldType.boolean) dd 0 0 [.ref a0, .int xa] (tE G u) u.1 (fun r z => r = rr.1 ∧ (rr.1 = 0 ∨ rr.1 = 1) ∧ z = ((tE G rr.2), rr.2.1))) {u : xT} {a0 : Nat} {xa : Int32} (hF : F_X3_readAllOf kr u a0 xa = some rr) : xMi l G yX3_readAllOf cX3_readAllOf 3 (Option.some Jvm.ClassFile.FieldType.boolean) (dd + 22) 0 0 [.ref a0, .int xa] (tE G u) u.1 (fun r z => r = rr.1 ∧ (rr.1 = 0 ∨ rr.1 = 1) ∧ z = ((tE G rr.2), rr.2.1)) := by
  unfold F_X3_readAllOf at hF
  refine x_startI rfl (Nat.le_of_ble_eq_true rfl) (fun p e s m args below meth cd ls hE hnm hl hD => ?_)
  have hx := hE.1; have hb := hE.2.1
  have hl : lv_has ls 3 [(0, .ref a0), (1, .int xa)] := hl
  have hD : tD G (xA (tE G u) s.heap.size) s.heap u s.heap [] := hD
  refine lv_aload_n hx hb dX3_readAllOf_0 rfl (lv_at hl 0 rfl) ?_
  refine lv_iload_n hx hb dX3_readAllOf_1 rfl (lv_at hl 1 rfl) ?_
  obtain ⟨h22, hF⟩ := ite_s hF
  obtain ⟨r23, k24, hF⟩ := xb_s hF
  refine kVz (As := [.int xa]) (rest := []) hE hl hD (c_X3_readOne hkr k24) kl_X3_95 (tE_3 h22) rfl rfl rfl rfl (Nat.le_of_ble_eq_true rfl) dX3_readAllOf_2 ⟨by show _ + 1 ≤ dd + 22; omega, by show 8 + (_ + 11) + 40 * _ ≤ 40 * (dd + 22); omega⟩ ⟨Nat.le_of_ble_eq_true rfl, Nat.le_of_ble_eq_true rfl⟩ (fun H locs z25 (hD : tD G _ _ r23.2 H locs) => ?_)
  refine lv_if_ne (tgt := 10) hx hb dX3_readAllOf_5 (by decide) (fun c26 => ?_) (fun c26 => ?_)
  · have hF := ite_n hF c26
    refine lv_iconst (v := (0 : Int32)) hx hb dX3_readAllOf_10 (by decide) ?_
    refine lv_istore_n (lv' := [(2, .int (0 : Int32)), (0, .ref a0), (1, .int xa)]) hx hb dX3_readAllOf_11 rfl hl (by decide) rfl (fun ls hl => ?_)
    exact L_X3_readAllOf_l12 hE hkr _ hD (lv_sub hl [1, 2, 0] rfl) hF
  · have hF := ite_p hF c26
    refine lv_iconst (v := (0 : Int32)) hx hb dX3_readAllOf_8 (by decide) ?_
    obtain rfl := Option.some.inj hF
    exact x_zret hE hD (show (0 : Int32) = 0 ∨ (0 : Int32) = 1 by decide) ⟨rfl, (show (0 : Int32) = 0 ∨ (0 : Int32) = 1 by decide), rfl⟩ (by omega) (by omega) dX3_readAllOf_9
def F_X3_readAnyOf_j58 (kr : xT → Nat → Int32 → Option (Int32 × xT)) (u : xT) (a0 : Nat) : Option (Int32 × xT) := some ((1 : Int32), u)
theorem B_X3_readAnyOf_j58 {p : Program} {l : Launch} {e : Env} {s : State} {m : MethodId} {args : Array Value} {below : List Frame} {meth : Method} {cd : Code} {G : xG} {w0 : xW} {rr : (Int32 × xT)} (hE : xE p s m args meth cd cX3_readAnyOf RX3 G 3 (Option.some Jvm.ClassFile.FieldType.boolean)) {kr : xT → Nat → Int32 → Option (Int32 × xT)} {dd : Nat} (hkr : ∀ {u : xT} {a0 : Nat} {xa : Int32} {rr : Int32 × xT}, kr u a0 xa = some rr → xMi l G yX3_readAnyOf cX3_readAnyOf 3 (Option.some Jvm.ClassFile.FieldType.boolean) dd 0 0 [.ref a0, .int xa] (tE G u) u.1 (fun r z => r = rr.1 ∧ (rr.1 = 0 ∨ rr.1 = 1) ∧ z = ((tE G rr.2), rr.2.1))) {u : xT} {a0 : Nat} {H : Heap} {locs : List Loc} {ls : Array Slot} (hD : tD G (xA w0 s.heap.size) s.heap u H locs) (hl : lv_has ls 3 [(0, .ref a0)]) (hF : F_X3_readAnyOf_j58 kr u a0 = some rr) : W p l e (xR (dd + 23) 0 0) s m args below meth cd H locs 0 0 (xQi G w0 (fun r z => r = rr.1 ∧ (rr.1 = 0 ∨ rr.1 = 1) ∧ z = ((tE G rr.2), rr.2.1)) below args s 0 0) (F0 m 58 ls []) := by
  have hx := hE.1; have hb := hE.2.1
  unfold F_X3_readAnyOf_j58 at hF
  refine lv_iconst (v := (1 : Int32)) hx hb dX3_readAnyOf_58 (by decide) ?_
  obtain rfl := Option.some.inj hF
  exact x_zret hE hD (show (1 : Int32) = 0 ∨ (1 : Int32) = 1 by decide) ⟨rfl, (show (1 : Int32) = 0 ∨ (1 : Int32) = 1 by decide), rfl⟩ (by omega) (by omega) dX3_readAnyOf_59
def F_X3_readAnyOf_l12 (kr : xT → Nat → Int32 → Option (Int32 × xT)) : Nat → xT → Nat → Int32 → Int32 → Option (Int32 × xT)
  | 0, _, _, _, _ => none
  | nn + 1, u, a0, y1, y2 => if (200 : Int32) ≤ y2 then F_X3_readAnyOf_j58 kr u a0 else if tK u a0 = 3 then (F_X3_isName u a0 14).bind (fun r3 => if r3.1 = 0 then F_X3_readAnyOf_j58 kr r3.2 a0 else if tK r3.2 a0 = 3 then (F_X3_next r3.2 a0).bind (fun r8 => if tK r8 a0 = 3 then (F_X3_readAllOf kr r8 a0 y1).bind (fun r11 => if r11.1 = 0 then some ((0 : Int32), r11.2) else if tK r11.2 a0 = 3 then (tP r11.2 a0 0).bind (fun q16 => if tK r11.2 q16 = 2 then (F_X2_addStep r11.2 q16 (5 : Int32) (0 : Int32) (0 : Int32)).bind (fun r19 => xlet (y2 + (1 : Int32)) (fun x21 => F_X3_readAnyOf_l12 kr nn r19 a0 y1 x21)) else none) else none) else none) else none) else none
theorem L_X3_readAnyOf_l12 {p : Program} {l : Launch} {e : Env} {s : State} {m : MethodId} {args : Array Value} {below : List Frame} {meth : Method} {cd : Code} {G : xG} {w0 : xW} {rr : (Int32 × xT)} (hE : xE p s m args meth cd cX3_readAnyOf RX3 G 3 (Option.some Jvm.ClassFile.FieldType.boolean)) {kr : xT → Nat → Int32 → Option (Int32 × xT)} {dd : Nat} (hkr : ∀ {u : xT} {a0 : Nat} {xa : Int32} {rr : Int32 × xT}, kr u a0 xa = some rr → xMi l G yX3_readAnyOf cX3_readAnyOf 3 (Option.some Jvm.ClassFile.FieldType.boolean) dd 0 0 [.ref a0, .int xa] (tE G u) u.1 (fun r z => r = rr.1 ∧ (rr.1 = 0 ∨ rr.1 = 1) ∧ z = ((tE G rr.2), rr.2.1))) : ∀ (nn : Nat) {u : xT} {a0 : Nat} {y1 : Int32} {y2 : Int32} {H : Heap} {locs : List Loc} {ls : Array Slot} , tD G (xA w0 s.heap.size) s.heap u H locs → lv_has ls 3 [(0, .ref a0), (1, .int y1), (2, .int y2)] → F_X3_readAnyOf_l12 kr nn u a0 y1 y2 = some rr → W p l e (xR (dd + 23) 0 0) s m args below meth cd H locs 0 0 (xQi G w0 (fun r z => r = rr.1 ∧ (rr.1 = 0 ∨ rr.1 = 1) ∧ z = ((tE G rr.2), rr.2.1)) below args s 0 0) (F0 m 12 ls []) := by
  have hx := hE.1; have hb := hE.2.1
  intro nn
  induction nn with
  | zero => intro u a0 y1 y2 H locs ls hD hl hF; rw [F_X3_readAnyOf_l12] at hF; cases hF
  | succ nn ih =>
    intro u a0 y1 y2 H locs ls hD hl hF
    rw [F_X3_readAnyOf_l12] at hF
    refine lv_iload_n hx hb dX3_readAnyOf_12 rfl (lv_at hl 2 rfl) ?_
    refine lv_sipush (v := (200 : Int32)) hx hb dX3_readAnyOf_13 (by decide) ?_
    refine lv_icmp_ge (tgt := 58) hx hb dX3_readAnyOf_16 (by decide) (fun c1 => ?_) (fun c1 => ?_)
    · have hF := ite_p hF c1
      exact B_X3_readAnyOf_j58 hE hkr hD (lv_sub hl [0] rfl) hF
    · have hF := ite_n hF c1
      refine lv_aload_n hx hb dX3_readAnyOf_19 rfl (lv_at hl 0 rfl) ?_
      refine va_ldcS (q := sK G 14) hx hb hE.2.2.1 (hE.2.2.2.2.1.2.2.2.2.2.2.2.1 14 (89, "or") rfl) dX3_readAnyOf_20 ?_
      obtain ⟨h2, hF⟩ := ite_s hF
      obtain ⟨r3, k4, hF⟩ := xb_s hF
      refine kVz (As := [.ref (sK G 14)]) (rest := []) hE hl hD (c_X3_isName k4) kl_X3_61 (tE_3 h2) rfl rfl rfl rfl (Nat.le_of_ble_eq_true rfl) dX3_readAnyOf_22 ⟨by show _ + 1 ≤ dd + 23; omega, by show 8 + (_ + 11) + 40 * _ ≤ 40 * (dd + 23); omega⟩ ⟨Nat.le_of_ble_eq_true rfl, Nat.le_of_ble_eq_true rfl⟩ (fun H locs z5 (hD : tD G _ _ r3.2 H locs) => ?_)
      refine lv_if_eq (tgt := 58) hx hb dX3_readAnyOf_25 (by decide) (fun c6 => ?_) (fun c6 => ?_)
      · have hF := ite_p hF c6
        exact B_X3_readAnyOf_j58 hE hkr hD (lv_sub hl [0] rfl) hF
      · have hF := ite_n hF c6
        refine lv_aload_n hx hb dX3_readAnyOf_28 rfl (lv_at hl 0 rfl) ?_
        obtain ⟨h7, hF⟩ := ite_s hF
        obtain ⟨r8, k9, hF⟩ := xb_s hF
        refine kVv (As := []) (rest := []) hE hl hD (c_X3_next k9) kl_X3_53 (tE_3 h7) rfl rfl rfl rfl (Nat.le_of_ble_eq_true rfl) dX3_readAnyOf_29 ⟨by show _ + 1 ≤ dd + 23; omega, by show 8 + (_ + 11) + 40 * _ ≤ 40 * (dd + 23); omega⟩ ⟨Nat.le_of_ble_eq_true rfl, Nat.le_of_ble_eq_true rfl⟩ (fun H locs (hD : tD G _ _ r8 H locs) => ?_)
        refine lv_aload_n hx hb dX3_readAnyOf_32 rfl (lv_at hl 0 rfl) ?_
        refine lv_iload_n hx hb dX3_readAnyOf_33 rfl (lv_at hl 1 rfl) ?_
        obtain ⟨h10, hF⟩ := ite_s hF
        obtain ⟨r11, k12, hF⟩ := xb_s hF
        refine kVz (As := [.int y1]) (rest := []) hE hl hD (c_X3_readAllOf hkr k12) kl_X3_86 (tE_3 h10) rfl rfl rfl rfl (Nat.le_of_ble_eq_true rfl) dX3_readAnyOf_34 ⟨by show _ + 1 ≤ dd + 23; omega, by show 8 + (_ + 11) + 40 * _ ≤ 40 * (dd + 23); omega⟩ ⟨Nat.le_of_ble_eq_true rfl, Nat.le_of_ble_eq_true rfl⟩ (fun H locs z13 (hD : tD G _ _ r11.2 H locs) => ?_)
        refine lv_if_ne (tgt := 42) hx hb dX3_readAnyOf_37 (by decide) (fun c14 => ?_) (fun c14 => ?_)
        · have hF := ite_n hF c14
          refine lv_aload_n hx hb dX3_readAnyOf_42 rfl (lv_at hl 0 rfl) ?_
          obtain ⟨h15, hF⟩ := ite_s hF
          obtain ⟨q16, h17, hF⟩ := xb_s hF
          refine gr_X3_12 hE hD h15 h17 dX3_readAnyOf_43 ?_
          refine lv_iconst (v := (5 : Int32)) hx hb dX3_readAnyOf_46 (by decide) ?_
          refine lv_iconst (v := (0 : Int32)) hx hb dX3_readAnyOf_47 (by decide) ?_
          refine lv_iconst (v := (0 : Int32)) hx hb dX3_readAnyOf_48 (by decide) ?_
          obtain ⟨h18, hF⟩ := ite_s hF
          obtain ⟨r19, k20, hF⟩ := xb_s hF
          refine kVv (As := [.int (5 : Int32), .int (0 : Int32), .int (0 : Int32)]) (rest := []) hE hl hD (c_X2_addStep k20) kl_X3_91 (tE_2 h18) rfl rfl rfl rfl (Nat.le_of_ble_eq_true rfl) dX3_readAnyOf_49 ⟨by show _ + 1 ≤ dd + 23; omega, by show 8 + (_ + 11) + 40 * _ ≤ 40 * (dd + 23); omega⟩ ⟨Nat.le_of_ble_eq_true rfl, Nat.le_of_ble_eq_true rfl⟩ (fun H locs (hD : tD G _ _ r19 H locs) => ?_)
          obtain ⟨x21, ex21⟩ : ∃ y : Int32, y = y2 + (1 : Int32) := ⟨_, rfl⟩
          have hF := xlet_e hF ex21
          refine lv_iinc (v := x21) (lv' := [(2, .int x21), (0, .ref a0), (1, .int y1)]) hx hb dX3_readAnyOf_52 hl (k := 2) rfl (by rw [ex21]; rfl) (by decide) rfl (fun ls hl => ?_)
          refine lv_goto (tgt := 12) hx hb dX3_readAnyOf_55 (by decide) ?_
          exact ih hD (lv_sub hl [1, 2, 0] rfl) hF
        · have hF := ite_p hF c14
          refine lv_iconst (v := (0 : Int32)) hx hb dX3_readAnyOf_40 (by decide) ?_
          obtain rfl := Option.some.inj hF
          exact x_zret hE hD (show (0 : Int32) = 0 ∨ (0 : Int32) = 1 by decide) ⟨rfl, (show (0 : Int32) = 0 ∨ (0 : Int32) = 1 by decide), rfl⟩ (by omega) (by omega) dX3_readAnyOf_41
def F_X3_readAnyOfB (kr : xT → Nat → Int32 → Option (Int32 × xT)) (u : xT) (a0 : Nat) (xa : Int32) : Option (Int32 × xT) := if tK u a0 = 3 then (F_X3_readAllOf kr u a0 xa).bind (fun r23 => if r23.1 = 0 then some ((0 : Int32), r23.2) else F_X3_readAnyOf_l12 kr xFuel r23.2 a0 xa (0 : Int32)) else none
theorem c_X3_readAnyOfB {l : Launch} {G : xG} {rr : (Int32 × xT)} {kr : xT → Nat → Int32 → Option (Int32 × xT)} {dd : Nat} (hkr : ∀ {u : xT} {a0 : Nat} {xa : Int32} {rr : Int32 × xT}, kr u a0 xa = some rr → xMi l G yX3_readAnyOf cX3_readAnyOf 3 (Option.some Jvm.ClassFile.FieldType.boolean) dd 0 0 [.ref a0, .int xa] (tE G u) u.1 (fun r z => r = rr.1 ∧ (rr.1 = 0 ∨ rr.1 = 1) ∧ z = ((tE G rr.2), rr.2.1))) {u : xT} {a0 : Nat} {xa : Int32} (hF : F_X3_readAnyOfB kr u a0 xa = some rr) : xMi l G yX3_readAnyOf cX3_readAnyOf 3 (Option.some Jvm.ClassFile.FieldType.boolean) (dd + 23) 0 0 [.ref a0, .int xa] (tE G u) u.1 (fun r z => r = rr.1 ∧ (rr.1 = 0 ∨ rr.1 = 1) ∧ z = ((tE G rr.2), rr.2.1)) := by
  unfold F_X3_readAnyOfB at hF
  refine x_startI rfl (Nat.le_of_ble_eq_true rfl) (fun p e s m args below meth cd ls hE hnm hl hD => ?_)
  have hx := hE.1; have hb := hE.2.1
  have hl : lv_has ls 3 [(0, .ref a0), (1, .int xa)] := hl
  have hD : tD G (xA (tE G u) s.heap.size) s.heap u s.heap [] := hD
  refine lv_aload_n hx hb dX3_readAnyOf_0 rfl (lv_at hl 0 rfl) ?_
  refine lv_iload_n hx hb dX3_readAnyOf_1 rfl (lv_at hl 1 rfl) ?_
  obtain ⟨h22, hF⟩ := ite_s hF
  obtain ⟨r23, k24, hF⟩ := xb_s hF
  refine kVz (As := [.int xa]) (rest := []) hE hl hD (c_X3_readAllOf hkr k24) kl_X3_86 (tE_3 h22) rfl rfl rfl rfl (Nat.le_of_ble_eq_true rfl) dX3_readAnyOf_2 ⟨by show _ + 1 ≤ dd + 23; omega, by show 8 + (_ + 11) + 40 * _ ≤ 40 * (dd + 23); omega⟩ ⟨Nat.le_of_ble_eq_true rfl, Nat.le_of_ble_eq_true rfl⟩ (fun H locs z25 (hD : tD G _ _ r23.2 H locs) => ?_)
  refine lv_if_ne (tgt := 10) hx hb dX3_readAnyOf_5 (by decide) (fun c26 => ?_) (fun c26 => ?_)
  · have hF := ite_n hF c26
    refine lv_iconst (v := (0 : Int32)) hx hb dX3_readAnyOf_10 (by decide) ?_
    refine lv_istore_n (lv' := [(2, .int (0 : Int32)), (0, .ref a0), (1, .int xa)]) hx hb dX3_readAnyOf_11 rfl hl (by decide) rfl (fun ls hl => ?_)
    exact L_X3_readAnyOf_l12 hE hkr _ hD (lv_sub hl [1, 2, 0] rfl) hF
  · have hF := ite_p hF c26
    refine lv_iconst (v := (0 : Int32)) hx hb dX3_readAnyOf_8 (by decide) ?_
    obtain rfl := Option.some.inj hF
    exact x_zret hE hD (show (0 : Int32) = 0 ∨ (0 : Int32) = 1 by decide) ⟨rfl, (show (0 : Int32) = 0 ∨ (0 : Int32) = 1 by decide), rfl⟩ (by omega) (by omega) dX3_readAnyOf_9
def F_X3_readAnyOf : Nat → xT → Nat → Int32 → Option (Int32 × xT)
  | 0, _, _, _ => none
  | n + 1, u, a0, xa => F_X3_readAnyOfB (F_X3_readAnyOf n) u a0 xa
theorem c_X3_readAnyOf {l : Launch} {G : xG} : ∀ (n : Nat) {u : xT} {a0 : Nat} {xa : Int32} {rr : Int32 × xT}, F_X3_readAnyOf n u a0 xa = some rr → xMi l G yX3_readAnyOf cX3_readAnyOf 3 (Option.some Jvm.ClassFile.FieldType.boolean) (23 * n + 1) 0 0 [.ref a0, .int xa] (tE G u) u.1 (fun r z => r = rr.1 ∧ (rr.1 = 0 ∨ rr.1 = 1) ∧ z = ((tE G rr.2), rr.2.1)) := by
  intro n
  induction n with
  | zero => intro u a0 xa rr hF; rw [F_X3_readAnyOf] at hF; cases hF
  | succ n ih => intro u a0 xa rr hF; rw [F_X3_readAnyOf] at hF; exact c_X3_readAnyOfB (dd := 23 * n + 1) (fun h => ih h) hF
theorem kn_X3_75 : xLN RX3 75 yX11_isToll cX11_isToll 1 (Option.some Jvm.ClassFile.FieldType.boolean) 1 := ⟨⟨kw1_197, kw1_1, kw1_198⟩, by decide, by decide, by decide, by decide +kernel⟩
def F_X3_readClause_j111 (u : xT) (a0 : Nat) (y1 : Int32) (y2 : Int32) (y3 : Int32) (y4 : Int32) : Option (Int32 × xT) := if tK u a0 = 3 then (F_X3_isByte u a0 (59 : Int32)).bind (fun r2 => if r2 = 0 then (F_X3_refuse u a0).bind (fun r14 => some (r14.1, r14.2)) else (F_X3_next u a0).bind (fun r6 => if tK r6 a0 = 3 then (tP r6 a0 0).bind (fun q9 => if tK r6 q9 = 2 then (F_X2_addClause r6 q9 y1 y3 y4 y2).bind (fun r12 => some ((1 : Int32), r12)) else none) else none)) else none
theorem B_X3_readClause_j111 {p : Program} {l : Launch} {e : Env} {s : State} {m : MethodId} {args : Array Value} {below : List Frame} {meth : Method} {cd : Code} {G : xG} {w0 : xW} {rr : (Int32 × xT)} (hE : xE p s m args meth cd cX3_readClause RX3 G 5 (Option.some Jvm.ClassFile.FieldType.boolean)) {u : xT} {a0 : Nat} {y1 : Int32} {y2 : Int32} {y3 : Int32} {y4 : Int32} {H : Heap} {locs : List Loc} {ls : Array Slot} (hD : tD G (xA w0 s.heap.size) s.heap u H locs) (hl : lv_has ls 5 [(0, .ref a0), (1, .int y1), (2, .int y2), (3, .int y3), (4, .int y4)]) (hF : F_X3_readClause_j111 u a0 y1 y2 y3 y4 = some rr) : W p l e (xR 145 0 0) s m args below meth cd H locs 0 0 (xQi G w0 (fun r z => r = rr.1 ∧ (rr.1 = 0 ∨ rr.1 = 1) ∧ z = ((tE G rr.2), rr.2.1)) below args s 0 0) (F0 m 111 ls []) := by
  have hx := hE.1; have hb := hE.2.1
  unfold F_X3_readClause_j111 at hF
  refine lv_aload_n hx hb dX3_readClause_111 rfl (lv_at hl 0 rfl) ?_
  refine lv_bipush (v := (59 : Int32)) hx hb dX3_readClause_112 (by decide) ?_
  obtain ⟨h1, hF⟩ := ite_s hF
  obtain ⟨r2, k3, hF⟩ := xb_s hF
  refine kVz (As := [.int (59 : Int32)]) (rest := []) hE hl hD (c_X3_isByte k3) kl_X3_78 (tE_3 h1) rfl rfl rfl rfl (Nat.le_of_ble_eq_true rfl) dX3_readClause_114 ⟨Nat.le_of_ble_eq_true rfl, Nat.le_of_ble_eq_true rfl⟩ ⟨Nat.le_of_ble_eq_true rfl, Nat.le_of_ble_eq_true rfl⟩ (fun H locs z4 (hD : tD G _ _ u H locs) => ?_)
  refine lv_if_ne (tgt := 125) hx hb dX3_readClause_117 (by decide) (fun c5 => ?_) (fun c5 => ?_)
  · have hF := ite_n hF c5
    refine lv_aload_n hx hb dX3_readClause_125 rfl (lv_at hl 0 rfl) ?_
    obtain ⟨r6, k7, hF⟩ := xb_s hF
    refine kVv (As := []) (rest := []) hE hl hD (c_X3_next k7) kl_X3_53 (tE_3 h1) rfl rfl rfl rfl (Nat.le_of_ble_eq_true rfl) dX3_readClause_126 ⟨Nat.le_of_ble_eq_true rfl, Nat.le_of_ble_eq_true rfl⟩ ⟨Nat.le_of_ble_eq_true rfl, Nat.le_of_ble_eq_true rfl⟩ (fun H locs (hD : tD G _ _ r6 H locs) => ?_)
    refine lv_aload_n hx hb dX3_readClause_129 rfl (lv_at hl 0 rfl) ?_
    obtain ⟨h8, hF⟩ := ite_s hF
    obtain ⟨q9, h10, hF⟩ := xb_s hF
    refine gr_X3_12 hE hD h8 h10 dX3_readClause_130 ?_
    refine lv_iload_n hx hb dX3_readClause_133 rfl (lv_at hl 1 rfl) ?_
    refine lv_iload_n hx hb dX3_readClause_134 rfl (lv_at hl 3 rfl) ?_
    refine lv_iload hx hb dX3_readClause_135 (lv_at hl 4 rfl) ?_
    refine lv_iload_n hx hb dX3_readClause_137 rfl (lv_at hl 2 rfl) ?_
    obtain ⟨h11, hF⟩ := ite_s hF
    obtain ⟨r12, k13, hF⟩ := xb_s hF
    refine kVv (As := [.int y1, .int y3, .int y4, .int y2]) (rest := []) hE hl hD (c_X2_addClause k13) kl_X3_82 (tE_2 h11) rfl rfl rfl rfl (Nat.le_of_ble_eq_true rfl) dX3_readClause_138 ⟨Nat.le_of_ble_eq_true rfl, Nat.le_of_ble_eq_true rfl⟩ ⟨Nat.le_of_ble_eq_true rfl, Nat.le_of_ble_eq_true rfl⟩ (fun H locs (hD : tD G _ _ r12 H locs) => ?_)
    refine lv_iconst (v := (1 : Int32)) hx hb dX3_readClause_141 (by decide) ?_
    obtain rfl := Option.some.inj hF
    exact x_zret hE hD (show (1 : Int32) = 0 ∨ (1 : Int32) = 1 by decide) ⟨rfl, (show (1 : Int32) = 0 ∨ (1 : Int32) = 1 by decide), rfl⟩ (by omega) (by omega) dX3_readClause_142
  · have hF := ite_p hF c5
    refine lv_aload_n hx hb dX3_readClause_120 rfl (lv_at hl 0 rfl) ?_
    obtain ⟨r14, k15, hF⟩ := xb_s hF
    refine kVz (As := []) (rest := []) hE hl hD (c_X3_refuse k15) kl_X3_49 (tE_3 h1) rfl rfl rfl rfl (Nat.le_of_ble_eq_true rfl) dX3_readClause_121 ⟨Nat.le_of_ble_eq_true rfl, Nat.le_of_ble_eq_true rfl⟩ ⟨Nat.le_of_ble_eq_true rfl, Nat.le_of_ble_eq_true rfl⟩ (fun H locs z16 (hD : tD G _ _ r14.2 H locs) => ?_)
    obtain rfl := Option.some.inj hF
    exact x_zret hE hD z16 ⟨rfl, z16, rfl⟩ (by omega) (by omega) dX3_readClause_124
def F_X3_readClause_j61 (u : xT) (a0 : Nat) (y1 : Int32) (y2 : Int32) : Option (Int32 × xT) := if tK u a0 = 3 then (F_X3_deedHere u a0).bind (fun r18 => if r18.1 = (-1 : Int32) then if tK r18.2 a0 = 3 then (F_X3_refuse r18.2 a0).bind (fun r38 => some (r38.1, r38.2)) else none else if tK r18.2 a0 = 3 then (F_X3_next r18.2 a0).bind (fun r22 => if r18.1 = (1 : Int32) then if tK r22 a0 = 3 then (F_X3_numberHere r22 a0).bind (fun r26 => (F_X11_isToll r26).bind (fun r28 => if r28 = 0 then (F_X3_refuse r22 a0).bind (fun r34 => some (r34.1, r34.2)) else (F_X3_next r22 a0).bind (fun r32 => F_X3_readClause_j111 r32 a0 y1 y2 r18.1 r26))) else none else F_X3_readClause_j111 r22 a0 y1 y2 r18.1 (0 : Int32)) else none) else none
theorem B_X3_readClause_j61 {p : Program} {l : Launch} {e : Env} {s : State} {m : MethodId} {args : Array Value} {below : List Frame} {meth : Method} {cd : Code} {G : xG} {w0 : xW} {rr : (Int32 × xT)} (hE : xE p s m args meth cd cX3_readClause RX3 G 5 (Option.some Jvm.ClassFile.FieldType.boolean)) {u : xT} {a0 : Nat} {y1 : Int32} {y2 : Int32} {H : Heap} {locs : List Loc} {ls : Array Slot} (hD : tD G (xA w0 s.heap.size) s.heap u H locs) (hl : lv_has ls 5 [(0, .ref a0), (1, .int y1), (2, .int y2)]) (hF : F_X3_readClause_j61 u a0 y1 y2 = some rr) : W p l e (xR 145 0 0) s m args below meth cd H locs 0 0 (xQi G w0 (fun r z => r = rr.1 ∧ (rr.1 = 0 ∨ rr.1 = 1) ∧ z = ((tE G rr.2), rr.2.1)) below args s 0 0) (F0 m 61 ls []) := by
  have hx := hE.1; have hb := hE.2.1
  unfold F_X3_readClause_j61 at hF
  refine lv_aload_n hx hb dX3_readClause_61 rfl (lv_at hl 0 rfl) ?_
  obtain ⟨h17, hF⟩ := ite_s hF
  obtain ⟨r18, k19, hF⟩ := xb_s hF
  refine kVi (As := []) (rest := []) hE hl hD (c_X3_deedHere k19) kl_X3_69 (tE_3 h17) rfl rfl rfl rfl (Nat.le_of_ble_eq_true rfl) dX3_readClause_62 ⟨Nat.le_of_ble_eq_true rfl, Nat.le_of_ble_eq_true rfl⟩ ⟨Nat.le_of_ble_eq_true rfl, Nat.le_of_ble_eq_true rfl⟩ (fun H locs (hD : tD G _ _ r18.2 H locs) => ?_)
  refine lv_istore_n (lv' := [(3, .int r18.1), (0, .ref a0), (1, .int y1), (2, .int y2)]) hx hb dX3_readClause_65 rfl hl (by decide) rfl (fun ls hl => ?_)
  refine lv_iload_n hx hb dX3_readClause_66 rfl (lv_at hl 0 rfl) ?_
  refine lv_iconst (v := (-1 : Int32)) hx hb dX3_readClause_67 (by decide) ?_
  refine lv_icmp_ne (tgt := 76) hx hb dX3_readClause_68 (by decide) (fun c20 => ?_) (fun c20 => ?_)
  · have hF := ite_n hF c20
    refine lv_aload_n hx hb dX3_readClause_76 rfl (lv_at hl 1 rfl) ?_
    obtain ⟨h21, hF⟩ := ite_s hF
    obtain ⟨r22, k23, hF⟩ := xb_s hF
    refine kVv (As := []) (rest := []) hE hl hD (c_X3_next k23) kl_X3_53 (tE_3 h21) rfl rfl rfl rfl (Nat.le_of_ble_eq_true rfl) dX3_readClause_77 ⟨Nat.le_of_ble_eq_true rfl, Nat.le_of_ble_eq_true rfl⟩ ⟨Nat.le_of_ble_eq_true rfl, Nat.le_of_ble_eq_true rfl⟩ (fun H locs (hD : tD G _ _ r22 H locs) => ?_)
    refine lv_iconst (v := (0 : Int32)) hx hb dX3_readClause_80 (by decide) ?_
    refine lv_istore (lv' := [(4, .int (0 : Int32)), (3, .int r18.1), (0, .ref a0), (1, .int y1), (2, .int y2)]) hx hb dX3_readClause_81 hl (by decide) rfl (fun ls hl => ?_)
    refine lv_iload_n hx hb dX3_readClause_83 rfl (lv_at hl 1 rfl) ?_
    refine lv_iconst (v := (1 : Int32)) hx hb dX3_readClause_84 (by decide) ?_
    refine lv_icmp_ne (tgt := 111) hx hb dX3_readClause_85 (by decide) (fun c24 => ?_) (fun c24 => ?_)
    · have hF := ite_n hF c24
      exact B_X3_readClause_j111 hE hD (lv_sub hl [2, 3, 4, 1, 0] rfl) hF
    · have hF := ite_p hF c24
      refine lv_aload_n hx hb dX3_readClause_88 rfl (lv_at hl 2 rfl) ?_
      obtain ⟨h25, hF⟩ := ite_s hF
      obtain ⟨r26, k27, hF⟩ := xb_s hF
      refine kVi (As := []) (rest := []) hE hl hD (c_X3_numberHere k27) kl_X3_72 (tE_3 h25) rfl rfl rfl rfl (Nat.le_of_ble_eq_true rfl) dX3_readClause_89 ⟨Nat.le_of_ble_eq_true rfl, Nat.le_of_ble_eq_true rfl⟩ ⟨Nat.le_of_ble_eq_true rfl, Nat.le_of_ble_eq_true rfl⟩ (fun H locs (hD : tD G _ _ r22 H locs) => ?_)
      refine lv_istore (lv' := [(4, .int r26), (3, .int r18.1), (0, .ref a0), (1, .int y1), (2, .int y2)]) hx hb dX3_readClause_92 hl (by decide) rfl (fun ls hl => ?_)
      refine lv_iload hx hb dX3_readClause_94 (lv_at hl 0 rfl) ?_
      obtain ⟨r28, k29, hF⟩ := xb_s hF
      refine kNz (As := [.int r26]) (rest := []) hE hl hD (c_X11_isToll k29) kn_X3_75 rfl rfl (Nat.le_of_ble_eq_true rfl) dX3_readClause_96 ⟨Nat.le_of_ble_eq_true rfl, Nat.le_of_ble_eq_true rfl⟩ ⟨Nat.le_of_ble_eq_true rfl, Nat.le_of_ble_eq_true rfl⟩ (fun H locs z30 (hD : tD G _ _ r22 H locs) => ?_)
      refine lv_if_ne (tgt := 107) hx hb dX3_readClause_99 (by decide) (fun c31 => ?_) (fun c31 => ?_)
      · have hF := ite_n hF c31
        refine lv_aload_n hx hb dX3_readClause_107 rfl (lv_at hl 2 rfl) ?_
        obtain ⟨r32, k33, hF⟩ := xb_s hF
        refine kVv (As := []) (rest := []) hE hl hD (c_X3_next k33) kl_X3_53 (tE_3 h25) rfl rfl rfl rfl (Nat.le_of_ble_eq_true rfl) dX3_readClause_108 ⟨Nat.le_of_ble_eq_true rfl, Nat.le_of_ble_eq_true rfl⟩ ⟨Nat.le_of_ble_eq_true rfl, Nat.le_of_ble_eq_true rfl⟩ (fun H locs (hD : tD G _ _ r32 H locs) => ?_)
        exact B_X3_readClause_j111 hE hD (lv_sub hl [2, 3, 4, 1, 0] rfl) hF
      · have hF := ite_p hF c31
        refine lv_aload_n hx hb dX3_readClause_102 rfl (lv_at hl 2 rfl) ?_
        obtain ⟨r34, k35, hF⟩ := xb_s hF
        refine kVz (As := []) (rest := []) hE hl hD (c_X3_refuse k35) kl_X3_49 (tE_3 h25) rfl rfl rfl rfl (Nat.le_of_ble_eq_true rfl) dX3_readClause_103 ⟨Nat.le_of_ble_eq_true rfl, Nat.le_of_ble_eq_true rfl⟩ ⟨Nat.le_of_ble_eq_true rfl, Nat.le_of_ble_eq_true rfl⟩ (fun H locs z36 (hD : tD G _ _ r34.2 H locs) => ?_)
        obtain rfl := Option.some.inj hF
        exact x_zret hE hD z36 ⟨rfl, z36, rfl⟩ (by omega) (by omega) dX3_readClause_106
  · have hF := ite_p hF c20
    refine lv_aload_n hx hb dX3_readClause_71 rfl (lv_at hl 1 rfl) ?_
    obtain ⟨h37, hF⟩ := ite_s hF
    obtain ⟨r38, k39, hF⟩ := xb_s hF
    refine kVz (As := []) (rest := []) hE hl hD (c_X3_refuse k39) kl_X3_49 (tE_3 h37) rfl rfl rfl rfl (Nat.le_of_ble_eq_true rfl) dX3_readClause_72 ⟨Nat.le_of_ble_eq_true rfl, Nat.le_of_ble_eq_true rfl⟩ ⟨Nat.le_of_ble_eq_true rfl, Nat.le_of_ble_eq_true rfl⟩ (fun H locs z40 (hD : tD G _ _ r38.2 H locs) => ?_)
    obtain rfl := Option.some.inj hF
    exact x_zret hE hD z40 ⟨rfl, z40, rfl⟩ (by omega) (by omega) dX3_readClause_75
def F_X3_readClause_j21 (u : xT) (a0 : Nat) : Option (Int32 × xT) := if tK u a0 = 3 then (F_X3_refuse u a0).bind (fun r42 => some (r42.1, r42.2)) else none
theorem B_X3_readClause_j21 {p : Program} {l : Launch} {e : Env} {s : State} {m : MethodId} {args : Array Value} {below : List Frame} {meth : Method} {cd : Code} {G : xG} {w0 : xW} {rr : (Int32 × xT)} (hE : xE p s m args meth cd cX3_readClause RX3 G 5 (Option.some Jvm.ClassFile.FieldType.boolean)) {u : xT} {a0 : Nat} {H : Heap} {locs : List Loc} {ls : Array Slot} (hD : tD G (xA w0 s.heap.size) s.heap u H locs) (hl : lv_has ls 5 [(0, .ref a0)]) (hF : F_X3_readClause_j21 u a0 = some rr) : W p l e (xR 145 0 0) s m args below meth cd H locs 0 0 (xQi G w0 (fun r z => r = rr.1 ∧ (rr.1 = 0 ∨ rr.1 = 1) ∧ z = ((tE G rr.2), rr.2.1)) below args s 0 0) (F0 m 21 ls []) := by
  have hx := hE.1; have hb := hE.2.1
  unfold F_X3_readClause_j21 at hF
  refine lv_aload_n hx hb dX3_readClause_21 rfl (lv_at hl 0 rfl) ?_
  obtain ⟨h41, hF⟩ := ite_s hF
  obtain ⟨r42, k43, hF⟩ := xb_s hF
  refine kVz (As := []) (rest := []) hE hl hD (c_X3_refuse k43) kl_X3_49 (tE_3 h41) rfl rfl rfl rfl (Nat.le_of_ble_eq_true rfl) dX3_readClause_22 ⟨Nat.le_of_ble_eq_true rfl, Nat.le_of_ble_eq_true rfl⟩ ⟨Nat.le_of_ble_eq_true rfl, Nat.le_of_ble_eq_true rfl⟩ (fun H locs z44 (hD : tD G _ _ r42.2 H locs) => ?_)
  obtain rfl := Option.some.inj hF
  exact x_zret hE hD z44 ⟨rfl, z44, rfl⟩ (by omega) (by omega) dX3_readClause_25
def F_X3_readClause (u : xT) (a0 : Nat) : Option (Int32 × xT) := if tK u a0 = 3 then (F_X3_kindHere u a0).bind (fun r46 => if r46.1 < 0 then F_X3_readClause_j21 r46.2 a0 else if tK r46.2 a0 = 3 then (tP r46.2 a0 0).bind (fun q50 => if tK r46.2 q50 = 2 then if (tI r46.2 q50 0) < (8 : Int32) then (F_X3_next r46.2 a0).bind (fun r54 => if tK r54 a0 = 3 then (tP r54 a0 0).bind (fun q57 => if tK r54 q57 = 2 then xlet (tI r54 q57 9) (fun x60 => (F_X3_isName r54 a0 6).bind (fun r61 => if r61.1 = 0 then F_X3_readClause_j61 r61.2 a0 r46.1 x60 else if tK r61.2 a0 = 3 then (F_X3_next r61.2 a0).bind (fun r66 => if tK r66 a0 = 3 then (F_X3_readAnyOf 6 r66 a0 (0 : Int32)).bind (fun r69 => if r69.1 = 0 then some ((0 : Int32), r69.2) else F_X3_readClause_j61 r69.2 a0 r46.1 x60) else none) else none)) else none) else none) else F_X3_readClause_j21 r46.2 a0 else none) else none) else none
theorem c_X3_readClause {l : Launch} {G : xG} {rr : (Int32 × xT)} {u : xT} {a0 : Nat} (hF : F_X3_readClause u a0 = some rr) : xMi l G yX3_readClause cX3_readClause 5 (Option.some Jvm.ClassFile.FieldType.boolean) 145 0 0 [.ref a0] (tE G u) u.1 (fun r z => r = rr.1 ∧ (rr.1 = 0 ∨ rr.1 = 1) ∧ z = ((tE G rr.2), rr.2.1)) := by
  unfold F_X3_readClause at hF
  refine x_startI rfl (Nat.le_of_ble_eq_true rfl) (fun p e s m args below meth cd ls hE hnm hl hD => ?_)
  have hx := hE.1; have hb := hE.2.1
  have hl : lv_has ls 5 [(0, .ref a0)] := hl
  have hD : tD G (xA (tE G u) s.heap.size) s.heap u s.heap [] := hD
  refine lv_aload_n hx hb dX3_readClause_0 rfl (lv_at hl 0 rfl) ?_
  obtain ⟨h45, hF⟩ := ite_s hF
  obtain ⟨r46, k47, hF⟩ := xb_s hF
  refine kVi (As := []) (rest := []) hE hl hD (c_X3_kindHere k47) kl_X3_42 (tE_3 h45) rfl rfl rfl rfl (Nat.le_of_ble_eq_true rfl) dX3_readClause_1 ⟨Nat.le_of_ble_eq_true rfl, Nat.le_of_ble_eq_true rfl⟩ ⟨Nat.le_of_ble_eq_true rfl, Nat.le_of_ble_eq_true rfl⟩ (fun H locs (hD : tD G _ _ r46.2 H locs) => ?_)
  refine lv_istore_n (lv' := [(1, .int r46.1), (0, .ref a0)]) hx hb dX3_readClause_4 rfl hl (by decide) rfl (fun ls hl => ?_)
  refine lv_iload_n hx hb dX3_readClause_5 rfl (lv_at hl 0 rfl) ?_
  refine lv_if_lt (tgt := 21) hx hb dX3_readClause_6 (by decide) (fun c48 => ?_) (fun c48 => ?_)
  · have hF := ite_p hF c48
    exact B_X3_readClause_j21 hE hD (lv_sub hl [1] rfl) hF
  · have hF := ite_n hF c48
    refine lv_aload_n hx hb dX3_readClause_9 rfl (lv_at hl 1 rfl) ?_
    obtain ⟨h49, hF⟩ := ite_s hF
    obtain ⟨q50, h51, hF⟩ := xb_s hF
    refine gr_X3_12 hE hD h49 h51 dX3_readClause_10 ?_
    obtain ⟨h52, hF⟩ := ite_s hF
    refine gf_X3_46 hE hD h52 dX3_readClause_13 ?_
    refine lv_bipush (v := (8 : Int32)) hx hb dX3_readClause_16 (by decide) ?_
    refine lv_icmp_lt (tgt := 26) hx hb dX3_readClause_18 (by decide) (fun c53 => ?_) (fun c53 => ?_)
    · have hF := ite_p hF c53
      refine lv_aload_n hx hb dX3_readClause_26 rfl (lv_at hl 1 rfl) ?_
      obtain ⟨r54, k55, hF⟩ := xb_s hF
      refine kVv (As := []) (rest := []) hE hl hD (c_X3_next k55) kl_X3_53 (tE_3 h49) rfl rfl rfl rfl (Nat.le_of_ble_eq_true rfl) dX3_readClause_27 ⟨Nat.le_of_ble_eq_true rfl, Nat.le_of_ble_eq_true rfl⟩ ⟨Nat.le_of_ble_eq_true rfl, Nat.le_of_ble_eq_true rfl⟩ (fun H locs (hD : tD G _ _ r54 H locs) => ?_)
      refine lv_aload_n hx hb dX3_readClause_30 rfl (lv_at hl 1 rfl) ?_
      obtain ⟨h56, hF⟩ := ite_s hF
      obtain ⟨q57, h58, hF⟩ := xb_s hF
      refine gr_X3_12 hE hD h56 h58 dX3_readClause_31 ?_
      obtain ⟨h59, hF⟩ := ite_s hF
      refine gf_X3_56 hE hD h59 dX3_readClause_34 ?_
      refine lv_topi (fun x60 ex60 => ?_)
      have hF := xlet_e hF ex60
      refine lv_istore_n (lv' := [(2, .int x60), (1, .int r46.1), (0, .ref a0)]) hx hb dX3_readClause_37 rfl hl (by decide) rfl (fun ls hl => ?_)
      refine lv_aload_n hx hb dX3_readClause_38 rfl (lv_at hl 2 rfl) ?_
      refine va_ldcS (q := sK G 6) hx hb hE.2.2.1 (hE.2.2.2.2.1.2.2.2.2.2.2.2.1 6 (59, "if") rfl) dX3_readClause_39 ?_
      obtain ⟨r61, k62, hF⟩ := xb_s hF
      refine kVz (As := [.ref (sK G 6)]) (rest := []) hE hl hD (c_X3_isName k62) kl_X3_61 (tE_3 h56) rfl rfl rfl rfl (Nat.le_of_ble_eq_true rfl) dX3_readClause_41 ⟨Nat.le_of_ble_eq_true rfl, Nat.le_of_ble_eq_true rfl⟩ ⟨Nat.le_of_ble_eq_true rfl, Nat.le_of_ble_eq_true rfl⟩ (fun H locs z63 (hD : tD G _ _ r61.2 H locs) => ?_)
      refine lv_if_eq (tgt := 61) hx hb dX3_readClause_44 (by decide) (fun c64 => ?_) (fun c64 => ?_)
      · have hF := ite_p hF c64
        exact B_X3_readClause_j61 hE hD (lv_sub hl [2, 1, 0] rfl) hF
      · have hF := ite_n hF c64
        refine lv_aload_n hx hb dX3_readClause_47 rfl (lv_at hl 2 rfl) ?_
        obtain ⟨h65, hF⟩ := ite_s hF
        obtain ⟨r66, k67, hF⟩ := xb_s hF
        refine kVv (As := []) (rest := []) hE hl hD (c_X3_next k67) kl_X3_53 (tE_3 h65) rfl rfl rfl rfl (Nat.le_of_ble_eq_true rfl) dX3_readClause_48 ⟨Nat.le_of_ble_eq_true rfl, Nat.le_of_ble_eq_true rfl⟩ ⟨Nat.le_of_ble_eq_true rfl, Nat.le_of_ble_eq_true rfl⟩ (fun H locs (hD : tD G _ _ r66 H locs) => ?_)
        refine lv_aload_n hx hb dX3_readClause_51 rfl (lv_at hl 2 rfl) ?_
        refine lv_iconst (v := (0 : Int32)) hx hb dX3_readClause_52 (by decide) ?_
        obtain ⟨h68, hF⟩ := ite_s hF
        obtain ⟨r69, k70, hF⟩ := xb_s hF
        refine kVz (As := [.int (0 : Int32)]) (rest := []) hE hl hD (c_X3_readAnyOf 6 k70) kl_X3_65 (tE_3 h68) rfl rfl rfl rfl (Nat.le_of_ble_eq_true rfl) dX3_readClause_53 ⟨Nat.le_of_ble_eq_true rfl, Nat.le_of_ble_eq_true rfl⟩ ⟨Nat.le_of_ble_eq_true rfl, Nat.le_of_ble_eq_true rfl⟩ (fun H locs z71 (hD : tD G _ _ r69.2 H locs) => ?_)
        refine lv_if_ne (tgt := 61) hx hb dX3_readClause_56 (by decide) (fun c72 => ?_) (fun c72 => ?_)
        · have hF := ite_n hF c72
          exact B_X3_readClause_j61 hE hD (lv_sub hl [2, 1, 0] rfl) hF
        · have hF := ite_p hF c72
          refine lv_iconst (v := (0 : Int32)) hx hb dX3_readClause_59 (by decide) ?_
          obtain rfl := Option.some.inj hF
          exact x_zret hE hD (show (0 : Int32) = 0 ∨ (0 : Int32) = 1 by decide) ⟨rfl, (show (0 : Int32) = 0 ∨ (0 : Int32) = 1 by decide), rfl⟩ (by omega) (by omega) dX3_readClause_60
    · have hF := ite_n hF c53
      exact B_X3_readClause_j21 hE hD (lv_sub hl [1] rfl) hF
theorem ki_X11_132 : xLI RX11 132 yX3_init cX3_init 3 2 := ⟨⟨kw2_186, kw1_12, kw2_187⟩, Or.inl kw2_185, rfl, by decide, by decide, by decide +kernel⟩
def F_X11_law_j61 (u : xT) (a0 : Nat) (y1 : Nat) : Option (Int32 × xT) := if tK u a0 = 11 then (tP u a0 0).bind (fun q2 => if tK u y1 = 3 then (tP u y1 0).bind (fun q5 => if tK u q2 = 7 then xlet (tSP u q2 3 (some q5)) (fun t8 => (tP t8 a0 0).bind (fun q12 => if tK t8 q12 = 7 then (F_X7_settle t8 q12).bind (fun r15 => if tK r15 a0 = 11 then (tP r15 a0 0).bind (fun q18 => if tK r15 q18 = 7 then (tP r15 q18 3).bind (fun q21 => if tK r15 q21 = 2 then some (tI r15 q21 0, r15) else none) else none) else none) else none)) else none) else none) else none
theorem B_X11_law_j61 {p : Program} {l : Launch} {e : Env} {s : State} {m : MethodId} {args : Array Value} {below : List Frame} {meth : Method} {cd : Code} {G : xG} {w0 : xW} {rr : (Int32 × xT)} (hE : xE p s m args meth cd cX11_law RX11 G 3 (Option.some Jvm.ClassFile.FieldType.int)) {u : xT} {a0 : Nat} {y1 : Nat} {H : Heap} {locs : List Loc} {ls : Array Slot} {cells slots : Nat} (hcc : cells + 0 ≤ 10) (hkk : slots + 0 ≤ 357) (hD : tD G (xA w0 s.heap.size) s.heap u H locs) (hl : lv_has ls 3 [(0, .ref a0), (1, .ref y1)]) (hF : F_X11_law_j61 u a0 y1 = some rr) : W p l e (xR 150 10 357) s m args below meth cd H locs cells slots (xQi G w0 (fun r z => r = rr.1 ∧ z = ((tE G rr.2), rr.2.1)) below args s 10 357) (F0 m 61 ls []) := by
  have hx := hE.1; have hb := hE.2.1
  unfold F_X11_law_j61 at hF
  refine lv_aload_n hx hb dX11_law_61 rfl (lv_at hl 0 rfl) ?_
  obtain ⟨h1, hF⟩ := ite_s hF
  obtain ⟨q2, h3, hF⟩ := xb_s hF
  refine gr_X11_10 hE hD h1 h3 dX11_law_62 ?_
  refine lv_aload_n hx hb dX11_law_65 rfl (lv_at hl 1 rfl) ?_
  obtain ⟨h4, hF⟩ := ite_s hF
  obtain ⟨q5, h6, hF⟩ := xb_s hF
  refine gr_X11_148 hE hD h4 h6 dX11_law_66 ?_
  obtain ⟨h7, hF⟩ := ite_s hF
  refine pf_X11_109 (v := (some q5)) hE hD h7 dX11_law_69 (fun t8 H locs et8 hD => ?_)
  have hF := xlet_e hF et8
  have h9 : tK t8 a0 = 11 := by rw [et8]; exact h1
  have h10 : tK t8 y1 = 3 := by rw [et8]; exact h4
  have h11 : tK t8 q2 = 7 := by rw [et8]; exact h7
  refine lv_aload_n hx hb dX11_law_72 rfl (lv_at hl 0 rfl) ?_
  obtain ⟨q12, h13, hF⟩ := xb_s hF
  refine gr_X11_10 hE hD h9 h13 dX11_law_73 ?_
  obtain ⟨h14, hF⟩ := ite_s hF
  obtain ⟨r15, k16, hF⟩ := xb_s hF
  refine kVv (As := []) (rest := []) hE hl hD (c_X7_settle k16) kl_X11_128 (tE_7 h14) rfl rfl rfl rfl (Nat.le_of_ble_eq_true rfl) dX11_law_76 ⟨Nat.le_of_ble_eq_true rfl, Nat.le_of_ble_eq_true rfl⟩ ⟨(by show cells ≤ 10; omega), (by show slots ≤ 357; omega)⟩ (fun H locs (hD : tD G _ _ r15 H locs) => ?_)
  refine lv_aload_n hx hb dX11_law_79 rfl (lv_at hl 0 rfl) ?_
  obtain ⟨h17, hF⟩ := ite_s hF
  obtain ⟨q18, h19, hF⟩ := xb_s hF
  refine gr_X11_10 hE hD h17 h19 dX11_law_80 ?_
  obtain ⟨h20, hF⟩ := ite_s hF
  obtain ⟨q21, h22, hF⟩ := xb_s hF
  refine gr_X11_109 hE hD h20 h22 dX11_law_83 ?_
  obtain ⟨h23, hF⟩ := ite_s hF
  refine gf_X11_149 hE hD h23 dX11_law_86 ?_
  obtain rfl := Option.some.inj hF
  exact x_iret hE hD ⟨rfl, rfl⟩ (by omega) (by omega) dX11_law_89
def F_X11_law_l27 : Nat → xT → Nat → Nat → Int32 → Option (Int32 × xT)
  | 0, _, _, _, _ => none
  | nn + 1, u, a0, y1, y2 => if (8 : Int32) < y2 then F_X11_law_j61 u a0 y1 else if tK u y1 = 3 then if (tI u y1 2) = 0 then F_X11_law_j61 u a0 y1 else (F_X3_readClause u y1).bind (fun r27 => if r27.1 = 0 then if tK r27.2 y1 = 3 then some ((-100 : Int32) - (tI r27.2 y1 1), r27.2) else none else xlet (y2 + (1 : Int32)) (fun x31 => F_X11_law_l27 nn r27.2 a0 y1 x31)) else none
theorem L_X11_law_l27 {p : Program} {l : Launch} {e : Env} {s : State} {m : MethodId} {args : Array Value} {below : List Frame} {meth : Method} {cd : Code} {G : xG} {w0 : xW} {rr : (Int32 × xT)} (hE : xE p s m args meth cd cX11_law RX11 G 3 (Option.some Jvm.ClassFile.FieldType.int)) : ∀ (nn : Nat) {u : xT} {a0 : Nat} {y1 : Nat} {y2 : Int32} {H : Heap} {locs : List Loc} {ls : Array Slot} {cells slots : Nat}, cells + 0 ≤ 10 → slots + 0 ≤ 357 → tD G (xA w0 s.heap.size) s.heap u H locs → lv_has ls 3 [(0, .ref a0), (1, .ref y1), (2, .int y2)] → F_X11_law_l27 nn u a0 y1 y2 = some rr → W p l e (xR 150 10 357) s m args below meth cd H locs cells slots (xQi G w0 (fun r z => r = rr.1 ∧ z = ((tE G rr.2), rr.2.1)) below args s 10 357) (F0 m 27 ls []) := by
  have hx := hE.1; have hb := hE.2.1
  intro nn
  induction nn with
  | zero => intro u a0 y1 y2 H locs ls cells slots hcc hkk hD hl hF; rw [F_X11_law_l27] at hF; cases hF
  | succ nn ih =>
    intro u a0 y1 y2 H locs ls cells slots hcc hkk hD hl hF
    rw [F_X11_law_l27] at hF
    refine lv_iload_n hx hb dX11_law_27 rfl (lv_at hl 2 rfl) ?_
    refine lv_bipush (v := (8 : Int32)) hx hb dX11_law_28 (by decide) ?_
    refine lv_icmp_gt (tgt := 61) hx hb dX11_law_30 (by decide) (fun c24 => ?_) (fun c24 => ?_)
    · have hF := ite_p hF c24
      exact B_X11_law_j61 hE (by omega) (by omega) hD (lv_sub hl [0, 1] rfl) hF
    · have hF := ite_n hF c24
      refine lv_aload_n hx hb dX11_law_33 rfl (lv_at hl 1 rfl) ?_
      obtain ⟨h25, hF⟩ := ite_s hF
      refine gf_X11_138 hE hD h25 dX11_law_34 ?_
      refine lv_if_eq (tgt := 61) hx hb dX11_law_37 (by decide) (fun c26 => ?_) (fun c26 => ?_)
      · have hF := ite_p hF c26
        exact B_X11_law_j61 hE (by omega) (by omega) hD (lv_sub hl [0, 1] rfl) hF
      · have hF := ite_n hF c26
        refine lv_aload_n hx hb dX11_law_40 rfl (lv_at hl 1 rfl) ?_
        obtain ⟨r27, k28, hF⟩ := xb_s hF
        refine kVz (As := []) (rest := []) hE hl hD (c_X3_readClause k28) kl_X11_141 (tE_3 h25) rfl rfl rfl rfl (Nat.le_of_ble_eq_true rfl) dX11_law_41 ⟨Nat.le_of_ble_eq_true rfl, Nat.le_of_ble_eq_true rfl⟩ ⟨(by show cells ≤ 10; omega), (by show slots ≤ 357; omega)⟩ (fun H locs z29 (hD : tD G _ _ r27.2 H locs) => ?_)
        refine lv_if_ne (tgt := 55) hx hb dX11_law_44 (by decide) (fun c30 => ?_) (fun c30 => ?_)
        · have hF := ite_n hF c30
          obtain ⟨x31, ex31⟩ : ∃ y : Int32, y = y2 + (1 : Int32) := ⟨_, rfl⟩
          have hF := xlet_e hF ex31
          refine lv_iinc (v := x31) (lv' := [(2, .int x31), (0, .ref a0), (1, .ref y1)]) hx hb dX11_law_55 hl (k := 2) rfl (by rw [ex31]; rfl) (by decide) rfl (fun ls hl => ?_)
          refine lv_goto (tgt := 27) hx hb dX11_law_58 (by decide) ?_
          exact ih (by omega) (by omega) hD (lv_sub hl [1, 2, 0] rfl) hF
        · have hF := ite_p hF c30
          refine lv_bipush (v := (-100 : Int32)) hx hb dX11_law_47 (by decide) ?_
          refine lv_aload_n hx hb dX11_law_49 rfl (lv_at hl 1 rfl) ?_
          obtain ⟨h32, hF⟩ := ite_s hF
          refine gf_X11_145 hE hD h32 dX11_law_50 ?_
          refine lv_isub hx hb dX11_law_53 ?_
          obtain rfl := Option.some.inj hF
          exact x_iret hE hD ⟨rfl, rfl⟩ (by omega) (by omega) dX11_law_54
def F_X11_law (u : xT) (a0 : Nat) : Option (Int32 × xT) := xlet (tNew u 3 0) (fun t33 => if tK t33 a0 = 11 then (tP t33 a0 3).bind (fun q36 => (F_X3_init t33 u.1 q36 (tI t33 a0 4)).bind (fun r38 => if tK r38 a0 = 11 then xlet (tSI r38 a0 4 (0 : Int32)) (fun t41 => if tK t41 u.1 = 3 then (F_X3_next t41 u.1).bind (fun r44 => F_X11_law_l27 xFuel r44 a0 u.1 (0 : Int32)) else none) else none)) else none)
theorem c_X11_law {l : Launch} {G : xG} {rr : (Int32 × xT)} {u : xT} {a0 : Nat} (hF : F_X11_law u a0 = some rr) : xMi l G yX11_law cX11_law 3 (Option.some Jvm.ClassFile.FieldType.int) 150 10 357 [.ref a0] (tE G u) u.1 (fun r z => r = rr.1 ∧ z = ((tE G rr.2), rr.2.1)) := by
  unfold F_X11_law at hF
  refine x_startI rfl (Nat.le_of_ble_eq_true rfl) (fun p e s m args below meth cd ls hE hnm hl hD => ?_)
  have hx := hE.1; have hb := hE.2.1
  have hl : lv_has ls 3 [(0, .ref a0)] := hl
  have hD : tD G (xA (tE G u) s.heap.size) s.heap u s.heap [] := hD
  refine tn_X11_130 hE hD (by show 0 + 1 ≤ 10; omega) (by show 0 + 7 ≤ 357; omega) dX11_law_0 (fun t33 H et33 hD => ?_)
  have hF := xlet_e hF et33
  have h34 : tK t33 u.1 = 3 := by rw [et33]; exact tK_N _ _ _
  refine lv_dup hx hb dX11_law_3 rfl ?_
  refine lv_aload_n hx hb dX11_law_4 rfl (lv_at hl 0 rfl) ?_
  obtain ⟨h35, hF⟩ := ite_s hF
  obtain ⟨q36, h37, hF⟩ := xb_s hF
  refine gr_X11_23 hE hD h35 h37 dX11_law_5 ?_
  refine lv_aload_n hx hb dX11_law_8 rfl (lv_at hl 0 rfl) ?_
  refine gf_X11_27 hE hD h35 dX11_law_9 ?_
  obtain ⟨r38, k39, hF⟩ := xb_s hF
  refine kIvA (As := [.ref q36, .int (tI t33 a0 4)]) (rest := [.ref u.1]) hE hl hD (c_X3_init k39) ki_X11_132 rfl rfl (Nat.le_of_ble_eq_true rfl) dX11_law_12 ⟨Nat.le_of_ble_eq_true rfl, Nat.le_of_ble_eq_true rfl⟩ ⟨(by show 0 + 1 + 9 ≤ 10; omega), (by show 0 + 7 + 350 ≤ 357; omega)⟩ (fun H locs (hD : tD G _ _ r38 H locs) => ?_)
  refine lv_astore_n (lv' := [(1, .ref u.1), (0, .ref a0)]) hx hb dX11_law_15 rfl hl (by decide) rfl (fun ls hl => ?_)
  refine lv_aload_n hx hb dX11_law_16 rfl (lv_at hl 1 rfl) ?_
  refine lv_iconst (v := (0 : Int32)) hx hb dX11_law_17 (by decide) ?_
  obtain ⟨h40, hF⟩ := ite_s hF
  refine pf_X11_27 hE hD h40 dX11_law_18 (fun t41 H locs et41 hD => ?_)
  have hF := xlet_e hF et41
  have h42 : tK t41 a0 = 11 := by rw [et41]; exact h40
  refine lv_aload_n hx hb dX11_law_21 rfl (lv_at hl 0 rfl) ?_
  obtain ⟨h43, hF⟩ := ite_s hF
  obtain ⟨r44, k45, hF⟩ := xb_s hF
  refine kVv (As := []) (rest := []) hE hl hD (c_X3_next k45) kl_X11_135 (tE_3 h43) rfl rfl rfl rfl (Nat.le_of_ble_eq_true rfl) dX11_law_22 ⟨Nat.le_of_ble_eq_true rfl, Nat.le_of_ble_eq_true rfl⟩ ⟨(by show 0 + 1 + 9 ≤ 10; omega), (by show 0 + 7 + 350 ≤ 357; omega)⟩ (fun H locs (hD : tD G _ _ r44 H locs) => ?_)
  refine lv_iconst (v := (0 : Int32)) hx hb dX11_law_25 (by decide) ?_
  refine lv_istore_n (lv' := [(2, .int (0 : Int32)), (1, .ref u.1), (0, .ref a0)]) hx hb dX11_law_26 rfl hl (by decide) rfl (fun ls hl => ?_)
  exact L_X11_law_l27 hE _ (by omega) (by omega) hD (lv_sub hl [2, 1, 0] rfl) hF
