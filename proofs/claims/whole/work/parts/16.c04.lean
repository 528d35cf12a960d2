/-! ===== the class: walks 4 (printed by wip/whole/gen) ===== -/
def F_X7_welcome (u : xT) (a0 : Nat) (xa : Int32) : Option (Int32 × xT) := if tK u a0 = 7 then if (tI u a0 7) < (6 : Int32) then xlet (tI u a0 7) (fun x3 => (tP u a0 4).bind (fun q4 => if tK u q4 = 20 then if xIn x3 (tN u q4) then xlet (tSI u q4 x3.toNatClampNeg xa) (fun t8 => (tP t8 a0 5).bind (fun q11 => if tK t8 q11 = 20 then if xIn x3 (tN t8 q11) then xlet (tSI t8 q11 x3.toNatClampNeg (0 : Int32)) (fun t15 => (tP t15 a0 6).bind (fun q19 => if tK t15 q19 = 20 then if xIn x3 (tN t15 q19) then xlet (tSI t15 q19 x3.toNatClampNeg (-9 : Int32)) (fun t23 => xlet (tSI t23 a0 7 ((tI t23 a0 7) + (1 : Int32))) (fun t28 => some (x3, t28))) else none else none)) else none else none)) else none else none)) else some ((-2 : Int32), u) else none
theorem c_X7_welcome {l : Launch} {G : xG} {rr : (Int32 × xT)} {u : xT} {a0 : Nat} {xa : Int32} (hF : F_X7_welcome u a0 xa = some rr) : xMi l G yX7_welcome cX7_welcome 3 (Option.some Jvm.ClassFile.FieldType.int) 2 0 0 [.ref a0, .int xa] (tE G u) u.1 (fun r z => r = rr.1 ∧ z = ((tE G rr.2), rr.2.1)) := by
  unfold F_X7_welcome at hF
  refine x_startI rfl (Nat.le_of_ble_eq_true rfl) (fun p e s m args below meth cd ls hE hnm hl hD => ?_)
  have hx := hE.1; have hb := hE.2.1
  have hl : lv_has ls 3 [(0, .ref a0), (1, .int xa)] := hl
  have hD : tD G (xA (tE G u) s.heap.size) s.heap u s.heap [] := hD
  refine lv_aload_n hx hb dX7_welcome_0 rfl (lv_at hl 0 rfl) ?_
  obtain ⟨h1, hF⟩ := ite_s hF
  refine gf_X7_41 hE hD h1 dX7_welcome_1 ?_
  refine lv_bipush (v := (6 : Int32)) hx hb dX7_welcome_4 (by decide) ?_
  refine lv_icmp_lt (tgt := 12) hx hb dX7_welcome_6 (by decide) (fun c2 => ?_) (fun c2 => ?_)
  · have hF := ite_p hF c2
    refine lv_aload_n hx hb dX7_welcome_12 rfl (lv_at hl 0 rfl) ?_
    refine gf_X7_41 hE hD h1 dX7_welcome_13 ?_
    refine lv_topi (fun x3 ex3 => ?_)
    have hF := xlet_e hF ex3
    refine lv_istore_n (lv' := [(2, .int x3), (0, .ref a0), (1, .int xa)]) hx hb dX7_welcome_16 rfl hl (by decide) rfl (fun ls hl => ?_)
    refine lv_aload_n hx hb dX7_welcome_17 rfl (lv_at hl 1 rfl) ?_
    obtain ⟨q4, h5, hF⟩ := xb_s hF
    refine gr_X7_31 hE hD h1 h5 dX7_welcome_18 ?_
    refine lv_iload_n hx hb dX7_welcome_21 rfl (lv_at hl 0 rfl) ?_
    refine lv_iload_n hx hb dX7_welcome_22 rfl (lv_at hl 2 rfl) ?_
    obtain ⟨h6, hF⟩ := ite_s hF
    obtain ⟨h7, hF⟩ := ite_s hF
    refine t_iast hE hD h6 h7 dX7_welcome_23 (fun t8 H locs et8 hD => ?_)
    have hF := xlet_e hF et8
    have h9 : tK t8 a0 = 7 := by rw [et8]; exact h1
    have h10 : tK t8 q4 = 20 := by rw [et8]; exact h6
    refine lv_aload_n hx hb dX7_welcome_24 rfl (lv_at hl 1 rfl) ?_
    obtain ⟨q11, h12, hF⟩ := xb_s hF
    refine gr_X7_35 hE hD h9 h12 dX7_welcome_25 ?_
    refine lv_iload_n hx hb dX7_welcome_28 rfl (lv_at hl 0 rfl) ?_
    refine lv_iconst (v := (0 : Int32)) hx hb dX7_welcome_29 (by decide) ?_
    obtain ⟨h13, hF⟩ := ite_s hF
    obtain ⟨h14, hF⟩ := ite_s hF
    refine t_iast hE hD h13 h14 dX7_welcome_30 (fun t15 H locs et15 hD => ?_)
    have hF := xlet_e hF et15
    have h16 : tK t15 a0 = 7 := by rw [et15]; exact h9
    have h17 : tK t15 q4 = 20 := by rw [et15]; exact h10
    have h18 : tK t15 q11 = 20 := by rw [et15]; exact h13
    refine lv_aload_n hx hb dX7_welcome_31 rfl (lv_at hl 1 rfl) ?_
    obtain ⟨q19, h20, hF⟩ := xb_s hF
    refine gr_X7_38 hE hD h16 h20 dX7_welcome_32 ?_
    refine lv_iload_n hx hb dX7_welcome_35 rfl (lv_at hl 0 rfl) ?_
    refine lv_bipush (v := (-9 : Int32)) hx hb dX7_welcome_36 (by decide) ?_
    obtain ⟨h21, hF⟩ := ite_s hF
    obtain ⟨h22, hF⟩ := ite_s hF
    refine t_iast hE hD h21 h22 dX7_welcome_38 (fun t23 H locs et23 hD => ?_)
    have hF := xlet_e hF et23
    have h24 : tK t23 a0 = 7 := by rw [et23]; exact h16
    have h25 : tK t23 q4 = 20 := by rw [et23]; exact h17
    have h26 : tK t23 q11 = 20 := by rw [et23]; exact h18
    have h27 : tK t23 q19 = 20 := by rw [et23]; exact h21
    refine lv_aload_n hx hb dX7_welcome_39 rfl (lv_at hl 1 rfl) ?_
    refine lv_dup hx hb dX7_welcome_40 rfl ?_
    refine gf_X7_41 hE hD h24 dX7_welcome_41 ?_
    refine lv_iconst (v := (1 : Int32)) hx hb dX7_welcome_44 (by decide) ?_
    refine lv_iadd hx hb dX7_welcome_45 ?_
    refine pf_X7_41 hE hD h24 dX7_welcome_46 (fun t28 H locs et28 hD => ?_)
    have hF := xlet_e hF et28
    have h29 : tK t28 a0 = 7 := by rw [et28]; exact h24
    have h30 : tK t28 q4 = 20 := by rw [et28]; exact h25
    have h31 : tK t28 q11 = 20 := by rw [et28]; exact h26
    have h32 : tK t28 q19 = 20 := by rw [et28]; exact h27
    refine lv_iload_n hx hb dX7_welcome_49 rfl (lv_at hl 0 rfl) ?_
    obtain rfl := Option.some.inj hF
    exact x_iret hE hD ⟨rfl, rfl⟩ (by omega) (by omega) dX7_welcome_50
  · have hF := ite_n hF c2
    refine lv_bipush (v := (-2 : Int32)) hx hb dX7_welcome_9 (by decide) ?_
    obtain rfl := Option.some.inj hF
    exact x_iret hE hD ⟨rfl, rfl⟩ (by omega) (by omega) dX7_welcome_11
def F_X7_arrive_j32 (u : xT) (a0 : Nat) : Option (xT) := some u
theorem B_X7_arrive_j32 {p : Program} {l : Launch} {e : Env} {s : State} {m : MethodId} {args : Array Value} {below : List Frame} {meth : Method} {cd : Code} {G : xG} {w0 : xW} {rr : (xT)} (hE : xE p s m args meth cd cX7_arrive RX7 G 4 (Option.none : Option Jvm.ClassFile.FieldType)) {u : xT} {a0 : Nat} {H : Heap} {locs : List Loc} {ls : Array Slot} (hD : tD G (xA w0 s.heap.size) s.heap u H locs) (hl : lv_has ls 4 [(0, .ref a0)]) (hF : F_X7_arrive_j32 u a0 = some rr) : W p l e (xR 3 0 0) s m args below meth cd H locs 0 0 (xQv G w0 (fun z => z = ((tE G rr), rr.1)) below args s 0 0) (F0 m 32 ls []) := by
  have hx := hE.1; have hb := hE.2.1
  unfold F_X7_arrive_j32 at hF
  obtain rfl := Option.some.inj hF
  exact x_vret hE hD rfl (by omega) (by omega) dX7_arrive_32
def F_X7_arrive (u : xT) (a0 : Nat) (xa : Int32) (xb : Int32) (xc : Int32) : Option (xT) := if tK u a0 = 7 then (F_X7_isPerson u a0 xa).bind (fun r2 => if r2 = 0 then F_X7_arrive_j32 u a0 else (tP u a0 4).bind (fun q6 => if tK u q6 = 20 then if xIn xa (tN u q6) then xlet (tSI u q6 xa.toNatClampNeg xb) (fun t10 => (tP t10 a0 5).bind (fun q13 => if tK t10 q13 = 20 then if xIn xa (tN t10 q13) then if xIn xa (tN t10 q13) then xlet (tSI t10 q13 xa.toNatClampNeg ((tI t10 q13 xa.toNatClampNeg) + (1 : Int32))) (fun t18 => (tP t18 a0 6).bind (fun q22 => if tK t18 q22 = 20 then if xIn xa (tN t18 q22) then xlet (tSI t18 q22 xa.toNatClampNeg xc) (fun t26 => F_X7_arrive_j32 t26 a0) else none else none)) else none else none else none)) else none else none)) else none
theorem c_X7_arrive {l : Launch} {G : xG} {rr : (xT)} {u : xT} {a0 : Nat} {xa : Int32} {xb : Int32} {xc : Int32} (hF : F_X7_arrive u a0 xa xb xc = some rr) : xMv l G yX7_arrive cX7_arrive 4 (Option.none : Option Jvm.ClassFile.FieldType) 3 0 0 [.ref a0, .int xa, .int xb, .int xc] (tE G u) u.1 (fun z => z = ((tE G rr), rr.1)) := by
  unfold F_X7_arrive at hF
  refine x_startV rfl (Nat.le_of_ble_eq_true rfl) (fun p e s m args below meth cd ls hE hnm hl hD => ?_)
  have hx := hE.1; have hb := hE.2.1
  have hl : lv_has ls 4 [(0, .ref a0), (1, .int xa), (2, .int xb), (3, .int xc)] := hl
  have hD : tD G (xA (tE G u) s.heap.size) s.heap u s.heap [] := hD
  refine lv_aload_n hx hb dX7_arrive_0 rfl (lv_at hl 0 rfl) ?_
  refine lv_iload_n hx hb dX7_arrive_1 rfl (lv_at hl 1 rfl) ?_
  obtain ⟨h1, hF⟩ := ite_s hF
  obtain ⟨r2, k3, hF⟩ := xb_s hF
  refine kVz (As := [.int xa]) (rest := []) hE hl hD (c_X7_isPerson k3) kl_X7_69 (tE_7 h1) rfl rfl rfl rfl (Nat.le_of_ble_eq_true rfl) dX7_arrive_2 ⟨Nat.le_of_ble_eq_true rfl, Nat.le_of_ble_eq_true rfl⟩ ⟨Nat.le_of_ble_eq_true rfl, Nat.le_of_ble_eq_true rfl⟩ (fun H locs z4 (hD : tD G _ _ u H locs) => ?_)
  refine lv_if_eq (tgt := 32) hx hb dX7_arrive_5 (by decide) (fun c5 => ?_) (fun c5 => ?_)
  · have hF := ite_p hF c5
    exact B_X7_arrive_j32 hE hD (lv_sub hl [0] rfl) hF
  · have hF := ite_n hF c5
    refine lv_aload_n hx hb dX7_arrive_8 rfl (lv_at hl 0 rfl) ?_
    obtain ⟨q6, h7, hF⟩ := xb_s hF
    refine gr_X7_31 hE hD h1 h7 dX7_arrive_9 ?_
    refine lv_iload_n hx hb dX7_arrive_12 rfl (lv_at hl 1 rfl) ?_
    refine lv_iload_n hx hb dX7_arrive_13 rfl (lv_at hl 2 rfl) ?_
    obtain ⟨h8, hF⟩ := ite_s hF
    obtain ⟨h9, hF⟩ := ite_s hF
    refine t_iast hE hD h8 h9 dX7_arrive_14 (fun t10 H locs et10 hD => ?_)
    have hF := xlet_e hF et10
    have h11 : tK t10 a0 = 7 := by rw [et10]; exact h1
    have h12 : tK t10 q6 = 20 := by rw [et10]; exact h8
    refine lv_aload_n hx hb dX7_arrive_15 rfl (lv_at hl 0 rfl) ?_
    obtain ⟨q13, h14, hF⟩ := xb_s hF
    refine gr_X7_35 hE hD h11 h14 dX7_arrive_16 ?_
    refine lv_iload_n hx hb dX7_arrive_19 rfl (lv_at hl 1 rfl) ?_
    refine lv_dup2_11 hx hb dX7_arrive_20 rfl rfl ?_
    obtain ⟨h15, hF⟩ := ite_s hF
    obtain ⟨h16, hF⟩ := ite_s hF
    refine t_iald hE hD h15 h16 dX7_arrive_21 ?_
    refine lv_iconst (v := (1 : Int32)) hx hb dX7_arrive_22 (by decide) ?_
    refine lv_iadd hx hb dX7_arrive_23 ?_
    obtain ⟨h17, hF⟩ := ite_s hF
    refine t_iast hE hD h15 h17 dX7_arrive_24 (fun t18 H locs et18 hD => ?_)
    have hF := xlet_e hF et18
    have h19 : tK t18 a0 = 7 := by rw [et18]; exact h11
    have h20 : tK t18 q6 = 20 := by rw [et18]; exact h12
    have h21 : tK t18 q13 = 20 := by rw [et18]; exact h15
    refine lv_aload_n hx hb dX7_arrive_25 rfl (lv_at hl 0 rfl) ?_
    obtain ⟨q22, h23, hF⟩ := xb_s hF
    refine gr_X7_38 hE hD h19 h23 dX7_arrive_26 ?_
    refine lv_iload_n hx hb dX7_arrive_29 rfl (lv_at hl 1 rfl) ?_
    refine lv_iload_n hx hb dX7_arrive_30 rfl (lv_at hl 3 rfl) ?_
    obtain ⟨h24, hF⟩ := ite_s hF
    obtain ⟨h25, hF⟩ := ite_s hF
    refine t_iast hE hD h24 h25 dX7_arrive_31 (fun t26 H locs et26 hD => ?_)
    have hF := xlet_e hF et26
    have h27 : tK t26 a0 = 7 := by rw [et26]; exact h19
    have h28 : tK t26 q6 = 20 := by rw [et26]; exact h20
    have h29 : tK t26 q13 = 20 := by rw [et26]; exact h21
    have h30 : tK t26 q22 = 20 := by rw [et26]; exact h24
    exact B_X7_arrive_j32 hE hD (lv_sub hl [0] rfl) hF
def F_X7_hear (u : xT) (a0 : Nat) (xa : Int32) (xb : Int32) : Option (Int32 × xT) := if tK u a0 = 7 then if (tI u a0 10) < (6 : Int32) then xlet (tI u a0 10) (fun x3 => (tP u a0 8).bind (fun q4 => if tK u q4 = 20 then if xIn x3 (tN u q4) then xlet (tSI u q4 x3.toNatClampNeg xa) (fun t8 => (tP t8 a0 9).bind (fun q11 => if tK t8 q11 = 20 then if xIn x3 (tN t8 q11) then xlet (tSI t8 q11 x3.toNatClampNeg xb) (fun t15 => xlet (tSI t15 a0 10 ((tI t15 a0 10) + (1 : Int32))) (fun t19 => some (x3, t19))) else none else none)) else none else none)) else some ((-2 : Int32), u) else none
theorem c_X7_hear {l : Launch} {G : xG} {rr : (Int32 × xT)} {u : xT} {a0 : Nat} {xa : Int32} {xb : Int32} (hF : F_X7_hear u a0 xa xb = some rr) : xMi l G yX7_hear cX7_hear 4 (Option.some Jvm.ClassFile.FieldType.int) 2 0 0 [.ref a0, .int xa, .int xb] (tE G u) u.1 (fun r z => r = rr.1 ∧ z = ((tE G rr.2), rr.2.1)) := by
  unfold F_X7_hear at hF
  refine x_startI rfl (Nat.le_of_ble_eq_true rfl) (fun p e s m args below meth cd ls hE hnm hl hD => ?_)
  have hx := hE.1; have hb := hE.2.1
  have hl : lv_has ls 4 [(0, .ref a0), (1, .int xa), (2, .int xb)] := hl
  have hD : tD G (xA (tE G u) s.heap.size) s.heap u s.heap [] := hD
  refine lv_aload_n hx hb dX7_hear_0 rfl (lv_at hl 0 rfl) ?_
  obtain ⟨h1, hF⟩ := ite_s hF
  refine gf_X7_50 hE hD h1 dX7_hear_1 ?_
  refine lv_bipush (v := (6 : Int32)) hx hb dX7_hear_4 (by decide) ?_
  refine lv_icmp_lt (tgt := 12) hx hb dX7_hear_6 (by decide) (fun c2 => ?_) (fun c2 => ?_)
  · have hF := ite_p hF c2
    refine lv_aload_n hx hb dX7_hear_12 rfl (lv_at hl 0 rfl) ?_
    refine gf_X7_50 hE hD h1 dX7_hear_13 ?_
    refine lv_topi (fun x3 ex3 => ?_)
    have hF := xlet_e hF ex3
    refine lv_istore_n (lv' := [(3, .int x3), (0, .ref a0), (1, .int xa), (2, .int xb)]) hx hb dX7_hear_16 rfl hl (by decide) rfl (fun ls hl => ?_)
    refine lv_aload_n hx hb dX7_hear_17 rfl (lv_at hl 1 rfl) ?_
    obtain ⟨q4, h5, hF⟩ := xb_s hF
    refine gr_X7_44 hE hD h1 h5 dX7_hear_18 ?_
    refine lv_iload_n hx hb dX7_hear_21 rfl (lv_at hl 0 rfl) ?_
    refine lv_iload_n hx hb dX7_hear_22 rfl (lv_at hl 2 rfl) ?_
    obtain ⟨h6, hF⟩ := ite_s hF
    obtain ⟨h7, hF⟩ := ite_s hF
    refine t_iast hE hD h6 h7 dX7_hear_23 (fun t8 H locs et8 hD => ?_)
    have hF := xlet_e hF et8
    have h9 : tK t8 a0 = 7 := by rw [et8]; exact h1
    have h10 : tK t8 q4 = 20 := by rw [et8]; exact h6
    refine lv_aload_n hx hb dX7_hear_24 rfl (lv_at hl 1 rfl) ?_
    obtain ⟨q11, h12, hF⟩ := xb_s hF
    refine gr_X7_47 hE hD h9 h12 dX7_hear_25 ?_
    refine lv_iload_n hx hb dX7_hear_28 rfl (lv_at hl 0 rfl) ?_
    refine lv_iload_n hx hb dX7_hear_29 rfl (lv_at hl 3 rfl) ?_
    obtain ⟨h13, hF⟩ := ite_s hF
    obtain ⟨h14, hF⟩ := ite_s hF
    refine t_iast hE hD h13 h14 dX7_hear_30 (fun t15 H locs et15 hD => ?_)
    have hF := xlet_e hF et15
    have h16 : tK t15 a0 = 7 := by rw [et15]; exact h9
    have h17 : tK t15 q4 = 20 := by rw [et15]; exact h10
    have h18 : tK t15 q11 = 20 := by rw [et15]; exact h13
    refine lv_aload_n hx hb dX7_hear_31 rfl (lv_at hl 1 rfl) ?_
    refine lv_dup hx hb dX7_hear_32 rfl ?_
    refine gf_X7_50 hE hD h16 dX7_hear_33 ?_
    refine lv_iconst (v := (1 : Int32)) hx hb dX7_hear_36 (by decide) ?_
    refine lv_iadd hx hb dX7_hear_37 ?_
    refine pf_X7_50 hE hD h16 dX7_hear_38 (fun t19 H locs et19 hD => ?_)
    have hF := xlet_e hF et19
    have h20 : tK t19 a0 = 7 := by rw [et19]; exact h16
    have h21 : tK t19 q4 = 20 := by rw [et19]; exact h17
    have h22 : tK t19 q11 = 20 := by rw [et19]; exact h18
    refine lv_iload_n hx hb dX7_hear_41 rfl (lv_at hl 0 rfl) ?_
    obtain rfl := Option.some.inj hF
    exact x_iret hE hD ⟨rfl, rfl⟩ (by omega) (by omega) dX7_hear_42
  · have hF := ite_n hF c2
    refine lv_bipush (v := (-2 : Int32)) hx hb dX7_hear_9 (by decide) ?_
    obtain rfl := Option.some.inj hF
    exact x_iret hE hD ⟨rfl, rfl⟩ (by omega) (by omega) dX7_hear_11
theorem ku_X7_73_1 : xLU RX7 RX1 "DoubledBridge$Bridge" 73 ⟨"DoubledBridge$Bridge", "becomes", "(I)I"⟩ yX0_becomes cX0_becomes 2 (Option.some Jvm.ClassFile.FieldType.int) 1 := ⟨List.forall_mem_cons.mpr ⟨kw4_187, List.forall_mem_cons.mpr ⟨kw3_144, List.forall_mem_cons.mpr ⟨kw3_145, List.forall_mem_cons.mpr ⟨kw3_143, List.forall_mem_cons.mpr ⟨kw1_6, List.forall_mem_cons.mpr ⟨kw3_150, fun _ h => absurd h List.not_mem_nil⟩⟩⟩⟩⟩⟩, Or.inl rfl, by decide, by decide, by decide +kernel⟩
theorem ku_X7_73_4 : xLU RX7 RX4 "DoubledBridge$Bridge" 73 ⟨"DoubledBridge$Bridge", "becomes", "(I)I"⟩ yX0_becomes cX0_becomes 2 (Option.some Jvm.ClassFile.FieldType.int) 1 := ⟨List.forall_mem_cons.mpr ⟨kw4_187, List.forall_mem_cons.mpr ⟨kw3_144, List.forall_mem_cons.mpr ⟨kw3_146, List.forall_mem_cons.mpr ⟨kw3_143, List.forall_mem_cons.mpr ⟨kw1_6, List.forall_mem_cons.mpr ⟨kw3_150, fun _ h => absurd h List.not_mem_nil⟩⟩⟩⟩⟩⟩, Or.inl rfl, by decide, by decide, by decide +kernel⟩
theorem ku_X7_73_5 : xLU RX7 RX5 "DoubledBridge$Bridge" 73 ⟨"DoubledBridge$Bridge", "becomes", "(I)I"⟩ yX0_becomes cX0_becomes 2 (Option.some Jvm.ClassFile.FieldType.int) 1 := ⟨List.forall_mem_cons.mpr ⟨kw4_187, List.forall_mem_cons.mpr ⟨kw3_144, List.forall_mem_cons.mpr ⟨kw3_147, List.forall_mem_cons.mpr ⟨kw3_143, List.forall_mem_cons.mpr ⟨kw1_6, List.forall_mem_cons.mpr ⟨kw3_150, fun _ h => absurd h List.not_mem_nil⟩⟩⟩⟩⟩⟩, Or.inl rfl, by decide, by decide, by decide +kernel⟩
theorem ku_X7_73_6 : xLU RX7 RX6 "DoubledBridge$Bridge" 73 ⟨"DoubledBridge$Bridge", "becomes", "(I)I"⟩ yX0_becomes cX0_becomes 2 (Option.some Jvm.ClassFile.FieldType.int) 1 := ⟨List.forall_mem_cons.mpr ⟨kw4_187, List.forall_mem_cons.mpr ⟨kw3_144, List.forall_mem_cons.mpr ⟨kw3_148, List.forall_mem_cons.mpr ⟨kw3_143, List.forall_mem_cons.mpr ⟨kw1_6, List.forall_mem_cons.mpr ⟨kw3_150, fun _ h => absurd h List.not_mem_nil⟩⟩⟩⟩⟩⟩, Or.inl rfl, by decide, by decide, by decide +kernel⟩
theorem ku_X7_73_9 : xLU RX7 RX9 "DoubledBridge$Bridge" 73 ⟨"DoubledBridge$Bridge", "becomes", "(I)I"⟩ yX0_becomes cX0_becomes 2 (Option.some Jvm.ClassFile.FieldType.int) 1 := ⟨List.forall_mem_cons.mpr ⟨kw4_187, List.forall_mem_cons.mpr ⟨kw3_144, List.forall_mem_cons.mpr ⟨kw3_149, List.forall_mem_cons.mpr ⟨kw3_143, List.forall_mem_cons.mpr ⟨kw1_6, List.forall_mem_cons.mpr ⟨kw3_150, fun _ h => absurd h List.not_mem_nil⟩⟩⟩⟩⟩⟩, Or.inl rfl, by decide, by decide, by decide +kernel⟩
theorem kB_X7_73 {p : Program} {l : Launch} {e : Env} {R : Room} {s : State} {m : MethodId} {args : Array Value} {below : List Frame} {meth : Method} {c : Code} {H : Heap} {locs : List Loc} {cells slots : Nat} {Q : State → Prop} {cc : ByteArray} {pc : Nat} {ls : Array Slot} {rest : List Value} {G : xG} {A : Nat → Prop} {a nL : Nat} {H0 : Heap} {ret : Option FieldType} {t : xT} {lv : List (Nat × Value)} (hE : xE p s m args meth c cc RX7 G nL ret) (hl : lv_has ls nL lv) (hD : tD G A H0 t H locs) (hk : isBk (tK t a)) {xa : Int32} {v : Int32} (hF : F_X0_becomes t a xa = some v) (hr : (rest.map fun v => v.category).sum ≤ 8) (hdg : decode cc pc = .ok (.invokevirtual 73, 3)) (hR : 5 + 1 ≤ R.frames ∧ 8 + (2 + 11) + 40 * 5 ≤ R.locals) (hR2 : cells ≤ R.cells ∧ slots ≤ R.slots) (kk : ∀ (H1 : Heap) (locs1 : List Loc), tD G A H0 t H1 locs1 → W p l e R s m args below meth c H1 locs1 cells slots Q (F0 m (pc + 3) ls (.int v :: rest))) : W p l e R s m args below meth c H locs cells slots Q (F0 m pc ls (.int xa :: .ref a :: rest)) := by
  rcases hk with h | h | h | h | h
  · exact kUi (As := [.int xa]) (rest := rest) hE hl hD (c_X0_becomes hF) ku_X7_73_1 (tE_1 h) rfl rfl rfl rfl hr hdg ⟨by have := hR.1; omega, by have := hR.2; omega⟩ hR2 kk
  · exact kUi (As := [.int xa]) (rest := rest) hE hl hD (c_X0_becomes hF) ku_X7_73_4 (tE_4 h) rfl rfl rfl rfl hr hdg ⟨by have := hR.1; omega, by have := hR.2; omega⟩ hR2 kk
  · exact kUi (As := [.int xa]) (rest := rest) hE hl hD (c_X0_becomes hF) ku_X7_73_5 (tE_5 h) rfl rfl rfl rfl hr hdg ⟨by have := hR.1; omega, by have := hR.2; omega⟩ hR2 kk
  · exact kUi (As := [.int xa]) (rest := rest) hE hl hD (c_X0_becomes hF) ku_X7_73_6 (tE_6 h) rfl rfl rfl rfl hr hdg ⟨by have := hR.1; omega, by have := hR.2; omega⟩ hR2 kk
  · exact kUi (As := [.int xa]) (rest := rest) hE hl hD (c_X0_becomes hF) ku_X7_73_9 (tE_9 h) rfl rfl rfl rfl hr hdg ⟨by have := hR.1; omega, by have := hR.2; omega⟩ hR2 kk
def F_X7_lies_j56 (u : xT) (a0 : Nat) (y2 : Int32) : Option Int32 := some y2
theorem B_X7_lies_j56 {p : Program} {l : Launch} {e : Env} {s : State} {m : MethodId} {args : Array Value} {below : List Frame} {meth : Method} {cd : Code} {G : xG} {w0 : xW} {rr : Int32} (hE : xE p s m args meth cd cX7_lies RX7 G 4 (Option.some Jvm.ClassFile.FieldType.int)) {u : xT} {a0 : Nat} {y2 : Int32} {H : Heap} {locs : List Loc} {ls : Array Slot} (hD : tD G (xA w0 s.heap.size) s.heap u H locs) (hl : lv_has ls 4 [(0, .ref a0), (2, .int y2)]) (hF : F_X7_lies_j56 u a0 y2 = some rr) : W p l e (xR 6 0 0) s m args below meth cd H locs 0 0 (xQi G w0 (fun r z => r = rr ∧ z = ((tE G u), u.1)) below args s 0 0) (F0 m 56 ls []) := by
  have hx := hE.1; have hb := hE.2.1
  unfold F_X7_lies_j56 at hF
  refine lv_iload_n hx hb dX7_lies_56 rfl (lv_at hl 1 rfl) ?_
  obtain rfl := Option.some.inj hF
  exact x_iret hE hD ⟨rfl, rfl⟩ (by omega) (by omega) dX7_lies_57
def F_X7_lies_j50 (kc4 : xT → Nat → Nat → Int32 → Int32 → Option Int32) (u : xT) (a0 : Nat) (y1 : Nat) (y2 : Int32) (y3 : Int32) : Option Int32 := xlet (y3 + (1 : Int32)) (fun x1 => kc4 u a0 y1 y2 x1)
theorem B_X7_lies_j50 {p : Program} {l : Launch} {e : Env} {s : State} {m : MethodId} {args : Array Value} {below : List Frame} {meth : Method} {cd : Code} {G : xG} {w0 : xW} {rr : Int32} (hE : xE p s m args meth cd cX7_lies RX7 G 4 (Option.some Jvm.ClassFile.FieldType.int)) {u : xT} (kc4 : xT → Nat → Nat → Int32 → Int32 → Option Int32) (hc4 : ∀ {a0 : Nat} {y1 : Nat} {y2 : Int32} {y3 : Int32} {H : Heap} {locs : List Loc} {ls : Array Slot} , tD G (xA w0 s.heap.size) s.heap u H locs → lv_has ls 4 [(0, .ref a0), (1, .ref y1), (2, .int y2), (3, .int y3)] → kc4 u a0 y1 y2 y3 = some rr → W p l e (xR 6 0 0) s m args below meth cd H locs 0 0 (xQi G w0 (fun r z => r = rr ∧ z = ((tE G u), u.1)) below args s 0 0) (F0 m 4 ls [])) {a0 : Nat} {y1 : Nat} {y2 : Int32} {y3 : Int32} {H : Heap} {locs : List Loc} {ls : Array Slot} (hD : tD G (xA w0 s.heap.size) s.heap u H locs) (hl : lv_has ls 4 [(0, .ref a0), (1, .ref y1), (2, .int y2), (3, .int y3)]) (hF : F_X7_lies_j50 kc4 u a0 y1 y2 y3 = some rr) : W p l e (xR 6 0 0) s m args below meth cd H locs 0 0 (xQi G w0 (fun r z => r = rr ∧ z = ((tE G u), u.1)) below args s 0 0) (F0 m 50 ls []) := by
  have hx := hE.1; have hb := hE.2.1
  unfold F_X7_lies_j50 at hF
  obtain ⟨x1, ex1⟩ : ∃ y : Int32, y = y3 + (1 : Int32) := ⟨_, rfl⟩
  have hF := xlet_e hF ex1
  refine lv_iinc (v := x1) (lv' := [(3, .int x1), (0, .ref a0), (1, .ref y1), (2, .int y2)]) hx hb dX7_lies_50 hl (k := 3) rfl (by rw [ex1]; rfl) (by decide) rfl (fun ls hl => ?_)
  refine lv_goto (tgt := 4) hx hb dX7_lies_53 (by decide) ?_
  exact hc4 hD (lv_sub hl [1, 2, 3, 0] rfl) hF
def F_X7_lies_l4 : Nat → xT → Nat → Nat → Int32 → Int32 → Option Int32
  | 0, _, _, _, _, _ => none
  | nn + 1, u, a0, y1, y2, y3 => if tK u a0 = 7 then if (tI u a0 10) ≤ y3 then F_X7_lies_j56 u a0 y2 else if (6 : Int32) ≤ y3 then F_X7_lies_j56 u a0 y2 else (tP u a0 8).bind (fun q5 => if tK u q5 = 20 then if xIn y3 (tN u q5) then if isBk (tK u y1) then (F_X0_becomes u y1 (tI u q5 y3.toNatClampNeg)).bind (fun r10 => (tP u a0 9).bind (fun q12 => if tK u q12 = 20 then if xIn y3 (tN u q12) then if r10 = (tI u q12 y3.toNatClampNeg) then F_X7_lies_j50 (F_X7_lies_l4 nn) u a0 y1 y2 y3 else if y2 = (-1 : Int32) then F_X7_lies_j50 (F_X7_lies_l4 nn) u a0 y1 y3 y3 else some (-2 : Int32) else none else none)) else none else none else none) else none
theorem L_X7_lies_l4 {p : Program} {l : Launch} {e : Env} {s : State} {m : MethodId} {args : Array Value} {below : List Frame} {meth : Method} {cd : Code} {G : xG} {w0 : xW} {rr : Int32} (hE : xE p s m args meth cd cX7_lies RX7 G 4 (Option.some Jvm.ClassFile.FieldType.int)) : ∀ (nn : Nat) {u : xT} {a0 : Nat} {y1 : Nat} {y2 : Int32} {y3 : Int32} {H : Heap} {locs : List Loc} {ls : Array Slot} , tD G (xA w0 s.heap.size) s.heap u H locs → lv_has ls 4 [(0, .ref a0), (1, .ref y1), (2, .int y2), (3, .int y3)] → F_X7_lies_l4 nn u a0 y1 y2 y3 = some rr → W p l e (xR 6 0 0) s m args below meth cd H locs 0 0 (xQi G w0 (fun r z => r = rr ∧ z = ((tE G u), u.1)) below args s 0 0) (F0 m 4 ls []) := by
  have hx := hE.1; have hb := hE.2.1
  intro nn
  induction nn with
  | zero => intro u a0 y1 y2 y3 H locs ls hD hl hF; rw [F_X7_lies_l4] at hF; cases hF
  | succ nn ih =>
    intro u a0 y1 y2 y3 H locs ls hD hl hF
    rw [F_X7_lies_l4] at hF
    refine lv_iload_n hx hb dX7_lies_4 rfl (lv_at hl 3 rfl) ?_
    refine lv_aload_n hx hb dX7_lies_5 rfl (lv_at hl 0 rfl) ?_
    obtain ⟨h2, hF⟩ := ite_s hF
    refine gf_X7_50 hE hD h2 dX7_lies_6 ?_
    refine lv_icmp_ge (tgt := 56) hx hb dX7_lies_9 (by decide) (fun c3 => ?_) (fun c3 => ?_)
    · have hF := ite_p hF c3
      exact B_X7_lies_j56 hE hD (lv_sub hl [0, 2] rfl) hF
    · have hF := ite_n hF c3
      refine lv_iload_n hx hb dX7_lies_12 rfl (lv_at hl 3 rfl) ?_
      refine lv_bipush (v := (6 : Int32)) hx hb dX7_lies_13 (by decide) ?_
      refine lv_icmp_ge (tgt := 56) hx hb dX7_lies_15 (by decide) (fun c4 => ?_) (fun c4 => ?_)
      · have hF := ite_p hF c4
        exact B_X7_lies_j56 hE hD (lv_sub hl [0, 2] rfl) hF
      · have hF := ite_n hF c4
        refine lv_aload_n hx hb dX7_lies_18 rfl (lv_at hl 1 rfl) ?_
        refine lv_aload_n hx hb dX7_lies_19 rfl (lv_at hl 0 rfl) ?_
        obtain ⟨q5, h6, hF⟩ := xb_s hF
        refine gr_X7_44 hE hD h2 h6 dX7_lies_20 ?_
        refine lv_iload_n hx hb dX7_lies_23 rfl (lv_at hl 3 rfl) ?_
        obtain ⟨h7, hF⟩ := ite_s hF
        obtain ⟨h8, hF⟩ := ite_s hF
        refine t_iald hE hD h7 h8 dX7_lies_24 ?_
        obtain ⟨h9, hF⟩ := ite_s hF
        obtain ⟨r10, k11, hF⟩ := xb_s hF
        refine kB_X7_73 (rest := []) hE hl hD h9 k11 (Nat.le_of_ble_eq_true rfl) dX7_lies_25 ⟨Nat.le_of_ble_eq_true rfl, Nat.le_of_ble_eq_true rfl⟩ ⟨Nat.le_of_ble_eq_true rfl, Nat.le_of_ble_eq_true rfl⟩ (fun H locs (hD : tD G _ _ u H locs) => ?_)
        refine lv_aload_n hx hb dX7_lies_28 rfl (lv_at hl 0 rfl) ?_
        obtain ⟨q12, h13, hF⟩ := xb_s hF
        refine gr_X7_47 hE hD h2 h13 dX7_lies_29 ?_
        refine lv_iload_n hx hb dX7_lies_32 rfl (lv_at hl 3 rfl) ?_
        obtain ⟨h14, hF⟩ := ite_s hF
        obtain ⟨h15, hF⟩ := ite_s hF
        refine t_iald hE hD h14 h15 dX7_lies_33 ?_
        refine lv_icmp_ne (tgt := 40) hx hb dX7_lies_34 (by decide) (fun c16 => ?_) (fun c16 => ?_)
        · have hF := ite_n hF c16
          refine lv_iload_n hx hb dX7_lies_40 rfl (lv_at hl 2 rfl) ?_
          refine lv_iconst (v := (-1 : Int32)) hx hb dX7_lies_41 (by decide) ?_
          refine lv_icmp_eq (tgt := 48) hx hb dX7_lies_42 (by decide) (fun c17 => ?_) (fun c17 => ?_)
          · have hF := ite_p hF c17
            refine lv_iload_n hx hb dX7_lies_48 rfl (lv_at hl 3 rfl) ?_
            refine lv_istore_n (lv' := [(2, .int y3), (0, .ref a0), (1, .ref y1), (3, .int y3)]) hx hb dX7_lies_49 rfl hl (by decide) rfl (fun ls hl => ?_)
            exact B_X7_lies_j50 hE (F_X7_lies_l4 nn) ih hD (lv_sub hl [1, 2, 0, 3] rfl) hF
          · have hF := ite_n hF c17
            refine lv_bipush (v := (-2 : Int32)) hx hb dX7_lies_45 (by decide) ?_
            obtain rfl := Option.some.inj hF
            exact x_iret hE hD ⟨rfl, rfl⟩ (by omega) (by omega) dX7_lies_47
        · have hF := ite_p hF c16
          refine lv_goto (tgt := 50) hx hb dX7_lies_37 (by decide) ?_
          exact B_X7_lies_j50 hE (F_X7_lies_l4 nn) ih hD (lv_sub hl [0, 1, 2, 3] rfl) hF
def F_X7_lies (u : xT) (a0 : Nat) (xa : Nat) : Option Int32 := F_X7_lies_l4 xFuel u a0 xa (-1 : Int32) (0 : Int32)
theorem c_X7_lies {l : Launch} {G : xG} {rr : Int32} {u : xT} {a0 : Nat} {xa : Nat} (hF : F_X7_lies u a0 xa = some rr) : xMi l G yX7_lies cX7_lies 4 (Option.some Jvm.ClassFile.FieldType.int) 6 0 0 [.ref a0, .ref xa] (tE G u) u.1 (fun r z => r = rr ∧ z = ((tE G u), u.1)) := by
  unfold F_X7_lies at hF
  refine x_startI rfl (Nat.le_of_ble_eq_true rfl) (fun p e s m args below meth cd ls hE hnm hl hD => ?_)
  have hx := hE.1; have hb := hE.2.1
  have hl : lv_has ls 4 [(0, .ref a0), (1, .ref xa)] := hl
  have hD : tD G (xA (tE G u) s.heap.size) s.heap u s.heap [] := hD
  refine lv_iconst (v := (-1 : Int32)) hx hb dX7_lies_0 (by decide) ?_
  refine lv_istore_n (lv' := [(2, .int (-1 : Int32)), (0, .ref a0), (1, .ref xa)]) hx hb dX7_lies_1 rfl hl (by decide) rfl (fun ls hl => ?_)
  refine lv_iconst (v := (0 : Int32)) hx hb dX7_lies_2 (by decide) ?_
  refine lv_istore_n (lv' := [(3, .int (0 : Int32)), (2, .int (-1 : Int32)), (0, .ref a0), (1, .ref xa)]) hx hb dX7_lies_3 rfl hl (by decide) rfl (fun ls hl => ?_)
  exact L_X7_lies_l4 hE _ hD (lv_sub hl [2, 3, 1, 0] rfl) hF
def F_X7_copyFrom_j62 (kc23 : xT → Nat → Nat → Int32 → Option (xT)) (u : xT) (a0 : Nat) (y1 : Nat) (y2 : Int32) : Option (xT) := xlet (y2 + (1 : Int32)) (fun x1 => kc23 u a0 y1 x1)
theorem B_X7_copyFrom_j62 {p : Program} {l : Launch} {e : Env} {s : State} {m : MethodId} {args : Array Value} {below : List Frame} {meth : Method} {cd : Code} {G : xG} {w0 : xW} {rr : (xT)} (hE : xE p s m args meth cd cX7_copyFrom RX7 G 4 (Option.none : Option Jvm.ClassFile.FieldType)) {u : xT} {rc rk : Nat} (kc23 : xT → Nat → Nat → Int32 → Option (xT)) (hc23 : ∀ {u1 : xT} {a0 : Nat} {y1 : Nat} {y2 : Int32} {H : Heap} {locs : List Loc} {ls : Array Slot} {cells slots : Nat}, cells + rc ≤ 10 → slots + rk ≤ 80 → tD G (xA w0 s.heap.size) s.heap u1 H locs → lv_has ls 4 [(0, .ref a0), (1, .ref y1), (2, .int y2)] → kc23 u1 a0 y1 y2 = some rr → W p l e (xR 8 10 80) s m args below meth cd H locs cells slots (xQv G w0 (fun z => z = ((tE G rr), rr.1)) below args s 10 80) (F0 m 23 ls [])) {a0 : Nat} {y1 : Nat} {y2 : Int32} {H : Heap} {locs : List Loc} {ls : Array Slot} {cells slots : Nat} (hcc : cells + (rc + 0) ≤ 10) (hkk : slots + (rk + 0) ≤ 80) (hD : tD G (xA w0 s.heap.size) s.heap u H locs) (hl : lv_has ls 4 [(0, .ref a0), (1, .ref y1), (2, .int y2)]) (hF : F_X7_copyFrom_j62 kc23 u a0 y1 y2 = some rr) : W p l e (xR 8 10 80) s m args below meth cd H locs cells slots (xQv G w0 (fun z => z = ((tE G rr), rr.1)) below args s 10 80) (F0 m 62 ls []) := by
  have hx := hE.1; have hb := hE.2.1
  unfold F_X7_copyFrom_j62 at hF
  obtain ⟨x1, ex1⟩ : ∃ y : Int32, y = y2 + (1 : Int32) := ⟨_, rfl⟩
  have hF := xlet_e hF ex1
  refine lv_iinc (v := x1) (lv' := [(2, .int x1), (0, .ref a0), (1, .ref y1)]) hx hb dX7_copyFrom_62 hl (k := 2) rfl (by rw [ex1]; rfl) (by decide) rfl (fun ls hl => ?_)
  refine lv_goto (tgt := 23) hx hb dX7_copyFrom_65 (by decide) ?_
  exact hc23 (by omega) (by omega) hD (lv_sub hl [1, 2, 0] rfl) hF
def F_X7_copyFrom_l23 : Nat → xT → Nat → Nat → Int32 → Option (xT)
  | 0, _, _, _, _ => none
  | nn + 1, u, a0, y1, y2 => if tK u y1 = 7 then if (tI u y1 1) ≤ y2 then if tK u a0 = 7 then xlet (tSI u a0 7 (tI u y1 7)) (fun t5 => (tP t5 y1 4).bind (fun q8 => (tP t5 a0 4).bind (fun q10 => if tK t5 q8 = 20 then if tK t5 q10 = 20 then if 6 ≤ tN t5 q8 ∧ 6 ≤ tN t5 q10 then xlet (tSA t5 q10 (va_cpy (tI t5 q8) (tI t5 q10) 0 0 6)) (fun t15 => (tP t15 y1 5).bind (fun q20 => (tP t15 a0 5).bind (fun q22 => if tK t15 q20 = 20 then if tK t15 q22 = 20 then if 6 ≤ tN t15 q20 ∧ 6 ≤ tN t15 q22 then xlet (tSA t15 q22 (va_cpy (tI t15 q20) (tI t15 q22) 0 0 6)) (fun t27 => (tP t27 y1 6).bind (fun q34 => (tP t27 a0 6).bind (fun q36 => if tK t27 q34 = 20 then if tK t27 q36 = 20 then if 6 ≤ tN t27 q34 ∧ 6 ≤ tN t27 q36 then xlet (tSA t27 q36 (va_cpy (tI t27 q34) (tI t27 q36) 0 0 6)) (fun t41 => xlet (tSI t41 a0 10 (tI t41 y1 10)) (fun t50 => (tP t50 y1 8).bind (fun q59 => (tP t50 a0 8).bind (fun q61 => if tK t50 q59 = 20 then if tK t50 q61 = 20 then if 6 ≤ tN t50 q59 ∧ 6 ≤ tN t50 q61 then xlet (tSA t50 q61 (va_cpy (tI t50 q59) (tI t50 q61) 0 0 6)) (fun t66 => (tP t66 y1 9).bind (fun q77 => (tP t66 a0 9).bind (fun q79 => if tK t66 q77 = 20 then if tK t66 q79 = 20 then if 6 ≤ tN t66 q77 ∧ 6 ≤ tN t66 q79 then xlet (tSA t66 q79 (va_cpy (tI t66 q77) (tI t66 q79) 0 0 6)) (fun t84 => some t84) else none else none else none))) else none else none else none)))) else none else none else none))) else none else none else none))) else none else none else none))) else none else (F_X7_bridgeAt u y1 y2).bind (fun r97 => xopt (r97) (F_X7_copyFrom_j62 (F_X7_copyFrom_l23 nn) u a0 y1 y2) (fun q99 => if isBk (tK u q99) then if tK u a0 = 7 then (F_X7_build u a0 (tI u q99 0) (tI u q99 2) (tI u q99 3) (tI u q99 4)).bind (fun r103 => F_X7_copyFrom_j62 (F_X7_copyFrom_l23 nn) r103.2 a0 y1 y2) else none else none)) else none
theorem L_X7_copyFrom_l23 {p : Program} {l : Launch} {e : Env} {s : State} {m : MethodId} {args : Array Value} {below : List Frame} {meth : Method} {cd : Code} {G : xG} {w0 : xW} {rr : (xT)} (hE : xE p s m args meth cd cX7_copyFrom RX7 G 4 (Option.none : Option Jvm.ClassFile.FieldType)) : ∀ (nn : Nat) {u : xT} {a0 : Nat} {y1 : Nat} {y2 : Int32} {H : Heap} {locs : List Loc} {ls : Array Slot} {cells slots : Nat}, cells + (nn * 1 + 0) ≤ 10 → slots + (nn * 8 + 0) ≤ 80 → tD G (xA w0 s.heap.size) s.heap u H locs → lv_has ls 4 [(0, .ref a0), (1, .ref y1), (2, .int y2)] → F_X7_copyFrom_l23 nn u a0 y1 y2 = some rr → W p l e (xR 8 10 80) s m args below meth cd H locs cells slots (xQv G w0 (fun z => z = ((tE G rr), rr.1)) below args s 10 80) (F0 m 23 ls []) := by
  have hx := hE.1; have hb := hE.2.1
  intro nn
  induction nn with
  | zero => intro u a0 y1 y2 H locs ls cells slots hcc hkk hD hl hF; rw [F_X7_copyFrom_l23] at hF; cases hF
  | succ nn ih =>
    intro u a0 y1 y2 H locs ls cells slots hcc hkk hD hl hF
    rw [F_X7_copyFrom_l23] at hF
    refine lv_iload_n hx hb dX7_copyFrom_23 rfl (lv_at hl 2 rfl) ?_
    refine lv_aload_n hx hb dX7_copyFrom_24 rfl (lv_at hl 1 rfl) ?_
    obtain ⟨h2, hF⟩ := ite_s hF
    refine gf_X7_17 hE hD h2 dX7_copyFrom_25 ?_
    refine lv_icmp_ge (tgt := 68) hx hb dX7_copyFrom_28 (by decide) (fun c3 => ?_) (fun c3 => ?_)
    · have hF := ite_p hF c3
      refine lv_aload_n hx hb dX7_copyFrom_68 rfl (lv_at hl 0 rfl) ?_
      refine lv_aload_n hx hb dX7_copyFrom_69 rfl (lv_at hl 1 rfl) ?_
      refine gf_X7_41 hE hD h2 dX7_copyFrom_70 ?_
      obtain ⟨h4, hF⟩ := ite_s hF
      refine pf_X7_41 hE hD h4 dX7_copyFrom_73 (fun t5 H locs et5 hD => ?_)
      have hF := xlet_e hF et5
      have h6 : tK t5 y1 = 7 := by rw [et5]; exact h2
      have h7 : tK t5 a0 = 7 := by rw [et5]; exact h4
      refine lv_aload_n hx hb dX7_copyFrom_76 rfl (lv_at hl 1 rfl) ?_
      obtain ⟨q8, h9, hF⟩ := xb_s hF
      refine gr_X7_31 hE hD h6 h9 dX7_copyFrom_77 ?_
      refine lv_iconst (v := (0 : Int32)) hx hb dX7_copyFrom_80 (by decide) ?_
      refine lv_aload_n hx hb dX7_copyFrom_81 rfl (lv_at hl 0 rfl) ?_
      obtain ⟨q10, h11, hF⟩ := xb_s hF
      refine gr_X7_31 hE hD h7 h11 dX7_copyFrom_82 ?_
      refine lv_iconst (v := (0 : Int32)) hx hb dX7_copyFrom_85 (by decide) ?_
      refine lv_bipush (v := (6 : Int32)) hx hb dX7_copyFrom_86 (by decide) ?_
      obtain ⟨h12, hF⟩ := ite_s hF
      obtain ⟨h13, hF⟩ := ite_s hF
      obtain ⟨h14, hF⟩ := ite_s hF
      refine t_copy (N := 6) (rest := []) hE hl hD h12 h13 h14.1 h14.2 kw5_160 rfl (by decide) (Nat.le_of_ble_eq_true rfl) (Nat.le_of_ble_eq_true rfl) dX7_copyFrom_88 (fun t15 H locs et15 hD => ?_)
      have hF := xlet_e hF et15
      have h16 : tK t15 y1 = 7 := by rw [et15]; exact h6
      have h17 : tK t15 a0 = 7 := by rw [et15]; exact h7
      have h18 : tK t15 q8 = 20 := by rw [et15]; exact h12
      have h19 : tK t15 q10 = 20 := by rw [et15]; exact h13
      refine lv_aload_n hx hb dX7_copyFrom_91 rfl (lv_at hl 1 rfl) ?_
      obtain ⟨q20, h21, hF⟩ := xb_s hF
      refine gr_X7_35 hE hD h16 h21 dX7_copyFrom_92 ?_
      refine lv_iconst (v := (0 : Int32)) hx hb dX7_copyFrom_95 (by decide) ?_
      refine lv_aload_n hx hb dX7_copyFrom_96 rfl (lv_at hl 0 rfl) ?_
      obtain ⟨q22, h23, hF⟩ := xb_s hF
      refine gr_X7_35 hE hD h17 h23 dX7_copyFrom_97 ?_
      refine lv_iconst (v := (0 : Int32)) hx hb dX7_copyFrom_100 (by decide) ?_
      refine lv_bipush (v := (6 : Int32)) hx hb dX7_copyFrom_101 (by decide) ?_
      obtain ⟨h24, hF⟩ := ite_s hF
      obtain ⟨h25, hF⟩ := ite_s hF
      obtain ⟨h26, hF⟩ := ite_s hF
      refine t_copy (N := 6) (rest := []) hE hl hD h24 h25 h26.1 h26.2 kw5_160 rfl (by decide) (Nat.le_of_ble_eq_true rfl) (Nat.le_of_ble_eq_true rfl) dX7_copyFrom_103 (fun t27 H locs et27 hD => ?_)
      have hF := xlet_e hF et27
      have h28 : tK t27 y1 = 7 := by rw [et27]; exact h16
      have h29 : tK t27 a0 = 7 := by rw [et27]; exact h17
      have h30 : tK t27 q8 = 20 := by rw [et27]; exact h18
      have h31 : tK t27 q10 = 20 := by rw [et27]; exact h19
      have h32 : tK t27 q20 = 20 := by rw [et27]; exact h24
      have h33 : tK t27 q22 = 20 := by rw [et27]; exact h25
      refine lv_aload_n hx hb dX7_copyFrom_106 rfl (lv_at hl 1 rfl) ?_
      obtain ⟨q34, h35, hF⟩ := xb_s hF
      refine gr_X7_38 hE hD h28 h35 dX7_copyFrom_107 ?_
      refine lv_iconst (v := (0 : Int32)) hx hb dX7_copyFrom_110 (by decide) ?_
      refine lv_aload_n hx hb dX7_copyFrom_111 rfl (lv_at hl 0 rfl) ?_
      obtain ⟨q36, h37, hF⟩ := xb_s hF
      refine gr_X7_38 hE hD h29 h37 dX7_copyFrom_112 ?_
      refine lv_iconst (v := (0 : Int32)) hx hb dX7_copyFrom_115 (by decide) ?_
      refine lv_bipush (v := (6 : Int32)) hx hb dX7_copyFrom_116 (by decide) ?_
      obtain ⟨h38, hF⟩ := ite_s hF
      obtain ⟨h39, hF⟩ := ite_s hF
      obtain ⟨h40, hF⟩ := ite_s hF
      refine t_copy (N := 6) (rest := []) hE hl hD h38 h39 h40.1 h40.2 kw5_160 rfl (by decide) (Nat.le_of_ble_eq_true rfl) (Nat.le_of_ble_eq_true rfl) dX7_copyFrom_118 (fun t41 H locs et41 hD => ?_)
      have hF := xlet_e hF et41
      have h42 : tK t41 y1 = 7 := by rw [et41]; exact h28
      have h43 : tK t41 a0 = 7 := by rw [et41]; exact h29
      have h44 : tK t41 q8 = 20 := by rw [et41]; exact h30
      have h45 : tK t41 q10 = 20 := by rw [et41]; exact h31
      have h46 : tK t41 q20 = 20 := by rw [et41]; exact h32
      have h47 : tK t41 q22 = 20 := by rw [et41]; exact h33
      have h48 : tK t41 q34 = 20 := by rw [et41]; exact h38
      have h49 : tK t41 q36 = 20 := by rw [et41]; exact h39
      refine lv_aload_n hx hb dX7_copyFrom_121 rfl (lv_at hl 0 rfl) ?_
      refine lv_aload_n hx hb dX7_copyFrom_122 rfl (lv_at hl 1 rfl) ?_
      refine gf_X7_50 hE hD h42 dX7_copyFrom_123 ?_
      refine pf_X7_50 hE hD h43 dX7_copyFrom_126 (fun t50 H locs et50 hD => ?_)
      have hF := xlet_e hF et50
      have h51 : tK t50 y1 = 7 := by rw [et50]; exact h42
      have h52 : tK t50 a0 = 7 := by rw [et50]; exact h43
      have h53 : tK t50 q8 = 20 := by rw [et50]; exact h44
      have h54 : tK t50 q10 = 20 := by rw [et50]; exact h45
      have h55 : tK t50 q20 = 20 := by rw [et50]; exact h46
      have h56 : tK t50 q22 = 20 := by rw [et50]; exact h47
      have h57 : tK t50 q34 = 20 := by rw [et50]; exact h48
      have h58 : tK t50 q36 = 20 := by rw [et50]; exact h49
      refine lv_aload_n hx hb dX7_copyFrom_129 rfl (lv_at hl 1 rfl) ?_
      obtain ⟨q59, h60, hF⟩ := xb_s hF
      refine gr_X7_44 hE hD h51 h60 dX7_copyFrom_130 ?_
      refine lv_iconst (v := (0 : Int32)) hx hb dX7_copyFrom_133 (by decide) ?_
      refine lv_aload_n hx hb dX7_copyFrom_134 rfl (lv_at hl 0 rfl) ?_
      obtain ⟨q61, h62, hF⟩ := xb_s hF
      refine gr_X7_44 hE hD h52 h62 dX7_copyFrom_135 ?_
      refine lv_iconst (v := (0 : Int32)) hx hb dX7_copyFrom_138 (by decide) ?_
      refine lv_bipush (v := (6 : Int32)) hx hb dX7_copyFrom_139 (by decide) ?_
      obtain ⟨h63, hF⟩ := ite_s hF
      obtain ⟨h64, hF⟩ := ite_s hF
      obtain ⟨h65, hF⟩ := ite_s hF
      refine t_copy (N := 6) (rest := []) hE hl hD h63 h64 h65.1 h65.2 kw5_160 rfl (by decide) (Nat.le_of_ble_eq_true rfl) (Nat.le_of_ble_eq_true rfl) dX7_copyFrom_141 (fun t66 H locs et66 hD => ?_)
      have hF := xlet_e hF et66
      have h67 : tK t66 y1 = 7 := by rw [et66]; exact h51
      have h68 : tK t66 a0 = 7 := by rw [et66]; exact h52
      have h69 : tK t66 q8 = 20 := by rw [et66]; exact h53
      have h70 : tK t66 q10 = 20 := by rw [et66]; exact h54
      have h71 : tK t66 q20 = 20 := by rw [et66]; exact h55
      have h72 : tK t66 q22 = 20 := by rw [et66]; exact h56
      have h73 : tK t66 q34 = 20 := by rw [et66]; exact h57
      have h74 : tK t66 q36 = 20 := by rw [et66]; exact h58
      have h75 : tK t66 q59 = 20 := by rw [et66]; exact h63
      have h76 : tK t66 q61 = 20 := by rw [et66]; exact h64
      refine lv_aload_n hx hb dX7_copyFrom_144 rfl (lv_at hl 1 rfl) ?_
      obtain ⟨q77, h78, hF⟩ := xb_s hF
      refine gr_X7_47 hE hD h67 h78 dX7_copyFrom_145 ?_
      refine lv_iconst (v := (0 : Int32)) hx hb dX7_copyFrom_148 (by decide) ?_
      refine lv_aload_n hx hb dX7_copyFrom_149 rfl (lv_at hl 0 rfl) ?_
      obtain ⟨q79, h80, hF⟩ := xb_s hF
      refine gr_X7_47 hE hD h68 h80 dX7_copyFrom_150 ?_
      refine lv_iconst (v := (0 : Int32)) hx hb dX7_copyFrom_153 (by decide) ?_
      refine lv_bipush (v := (6 : Int32)) hx hb dX7_copyFrom_154 (by decide) ?_
      obtain ⟨h81, hF⟩ := ite_s hF
      obtain ⟨h82, hF⟩ := ite_s hF
      obtain ⟨h83, hF⟩ := ite_s hF
      refine t_copy (N := 6) (rest := []) hE hl hD h81 h82 h83.1 h83.2 kw5_160 rfl (by decide) (Nat.le_of_ble_eq_true rfl) (Nat.le_of_ble_eq_true rfl) dX7_copyFrom_156 (fun t84 H locs et84 hD => ?_)
      have hF := xlet_e hF et84
      have h85 : tK t84 y1 = 7 := by rw [et84]; exact h67
      have h86 : tK t84 a0 = 7 := by rw [et84]; exact h68
      have h87 : tK t84 q8 = 20 := by rw [et84]; exact h69
      have h88 : tK t84 q10 = 20 := by rw [et84]; exact h70
      have h89 : tK t84 q20 = 20 := by rw [et84]; exact h71
      have h90 : tK t84 q22 = 20 := by rw [et84]; exact h72
      have h91 : tK t84 q34 = 20 := by rw [et84]; exact h73
      have h92 : tK t84 q36 = 20 := by rw [et84]; exact h74
      have h93 : tK t84 q59 = 20 := by rw [et84]; exact h75
      have h94 : tK t84 q61 = 20 := by rw [et84]; exact h76
      have h95 : tK t84 q77 = 20 := by rw [et84]; exact h81
      have h96 : tK t84 q79 = 20 := by rw [et84]; exact h82
      obtain rfl := Option.some.inj hF
      exact x_vret hE hD rfl (by omega) (by omega) dX7_copyFrom_159
    · have hF := ite_n hF c3
      refine lv_aload_n hx hb dX7_copyFrom_31 rfl (lv_at hl 1 rfl) ?_
      refine lv_iload_n hx hb dX7_copyFrom_32 rfl (lv_at hl 2 rfl) ?_
      obtain ⟨r97, k98, hF⟩ := xb_s hF
      refine kVq (As := [.int y2]) (rest := []) hE hl hD (c_X7_bridgeAt k98) kl_X7_65 (tE_7 h2) rfl rfl rfl rfl (Nat.le_of_ble_eq_true rfl) dX7_copyFrom_33 ⟨Nat.le_of_ble_eq_true rfl, Nat.le_of_ble_eq_true rfl⟩ ⟨(by show cells ≤ 10; omega), (by show slots ≤ 80; omega)⟩ (fun H locs (hD : tD G _ _ u H locs) => ?_)
      refine t_split hF (fun h100 hF => ?_) (fun q99 h100 hF => ?_)
      · refine lv_astore_nN (lv' := [(3, .null), (0, .ref a0), (1, .ref y1), (2, .int y2)]) hx hb dX7_copyFrom_36 rfl hl (by decide) rfl (fun ls hl => ?_)
        refine lv_aload_nN hx hb dX7_copyFrom_37 rfl (lv_at hl 0 rfl) ?_
        refine lv_ifnullN (tgt := 62) hx hb dX7_copyFrom_38 (by decide) ?_
        exact B_X7_copyFrom_j62 hE (F_X7_copyFrom_l23 nn) ih (by omega) (by omega) hD (lv_sub hl [1, 2, 3] rfl) hF
      · refine lv_astore_n (lv' := [(3, .ref q99), (0, .ref a0), (1, .ref y1), (2, .int y2)]) hx hb dX7_copyFrom_36 rfl hl (by decide) rfl (fun ls hl => ?_)
        refine lv_aload_n hx hb dX7_copyFrom_37 rfl (lv_at hl 0 rfl) ?_
        refine lv_ifnull hx hb dX7_copyFrom_38 ?_
        refine lv_aload_n hx hb dX7_copyFrom_41 rfl (lv_at hl 1 rfl) ?_
        refine lv_aload_n hx hb dX7_copyFrom_42 rfl (lv_at hl 0 rfl) ?_
        obtain ⟨h101, hF⟩ := ite_s hF
        refine gf_X7_77 hE hD h101 dX7_copyFrom_43 ?_
        refine lv_aload_n hx hb dX7_copyFrom_46 rfl (lv_at hl 0 rfl) ?_
        refine gf_X7_80 hE hD h101 dX7_copyFrom_47 ?_
        refine lv_aload_n hx hb dX7_copyFrom_50 rfl (lv_at hl 0 rfl) ?_
        refine gf_X7_83 hE hD h101 dX7_copyFrom_51 ?_
        refine lv_aload_n hx hb dX7_copyFrom_54 rfl (lv_at hl 0 rfl) ?_
        refine gf_X7_86 hE hD h101 dX7_copyFrom_55 ?_
        obtain ⟨h102, hF⟩ := ite_s hF
        obtain ⟨r103, k104, hF⟩ := xb_s hF
        refine kViA (As := [.int (tI u q99 0), .int (tI u q99 2), .int (tI u q99 3), .int (tI u q99 4)]) (rest := []) hE hl hD (c_X7_build k104) kl_X7_89 (tE_7 h102) rfl rfl rfl rfl (Nat.le_of_ble_eq_true rfl) dX7_copyFrom_58 ⟨Nat.le_of_ble_eq_true rfl, Nat.le_of_ble_eq_true rfl⟩ ⟨(by show cells + 1 ≤ 10; omega), (by show slots + 8 ≤ 80; omega)⟩ (fun H locs (hD : tD G _ _ r103.2 H locs) => ?_)
        refine lv_pop hx hb dX7_copyFrom_61 rfl ?_
        exact B_X7_copyFrom_j62 hE (F_X7_copyFrom_l23 nn) ih (by omega) (by omega) hD (lv_sub hl [1, 2, 3] rfl) hF
def F_X7_copyFrom (u : xT) (a0 : Nat) (xa : Nat) : Option (xT) := if tK u a0 = 7 then xlet (tSI u a0 1 (0 : Int32)) (fun t106 => if tK t106 xa = 7 then xlet (tSI t106 a0 2 (tI t106 xa 2)) (fun t109 => (tP t109 xa 3).bind (fun q112 => xlet (tSP t109 a0 3 (some q112)) (fun t114 => F_X7_copyFrom_l23 10 t114 a0 xa (0 : Int32)))) else none) else none
theorem c_X7_copyFrom {l : Launch} {G : xG} {rr : (xT)} {u : xT} {a0 : Nat} {xa : Nat} (hF : F_X7_copyFrom u a0 xa = some rr) : xMv l G yX7_copyFrom cX7_copyFrom 4 (Option.none : Option Jvm.ClassFile.FieldType) 8 10 80 [.ref a0, .ref xa] (tE G u) u.1 (fun z => z = ((tE G rr), rr.1)) := by
  unfold F_X7_copyFrom at hF
  refine x_startV rfl (Nat.le_of_ble_eq_true rfl) (fun p e s m args below meth cd ls hE hnm hl hD => ?_)
  have hx := hE.1; have hb := hE.2.1
  have hl : lv_has ls 4 [(0, .ref a0), (1, .ref xa)] := hl
  have hD : tD G (xA (tE G u) s.heap.size) s.heap u s.heap [] := hD
  refine lv_aload_n hx hb dX7_copyFrom_0 rfl (lv_at hl 0 rfl) ?_
  refine lv_iconst (v := (0 : Int32)) hx hb dX7_copyFrom_1 (by decide) ?_
  obtain ⟨h105, hF⟩ := ite_s hF
  refine pf_X7_17 hE hD h105 dX7_copyFrom_2 (fun t106 H locs et106 hD => ?_)
  have hF := xlet_e hF et106
  have h107 : tK t106 a0 = 7 := by rw [et106]; exact h105
  refine lv_aload_n hx hb dX7_copyFrom_5 rfl (lv_at hl 0 rfl) ?_
  refine lv_aload_n hx hb dX7_copyFrom_6 rfl (lv_at hl 1 rfl) ?_
  obtain ⟨h108, hF⟩ := ite_s hF
  refine gf_X7_21 hE hD h108 dX7_copyFrom_7 ?_
  refine pf_X7_21 hE hD h107 dX7_copyFrom_10 (fun t109 H locs et109 hD => ?_)
  have hF := xlet_e hF et109
  have h110 : tK t109 a0 = 7 := by rw [et109]; exact h107
  have h111 : tK t109 xa = 7 := by rw [et109]; exact h108
  refine lv_aload_n hx hb dX7_copyFrom_13 rfl (lv_at hl 0 rfl) ?_
  refine lv_aload_n hx hb dX7_copyFrom_14 rfl (lv_at hl 1 rfl) ?_
  obtain ⟨q112, h113, hF⟩ := xb_s hF
  refine gr_X7_27 hE hD h111 h113 dX7_copyFrom_15 ?_
  refine pf_X7_27 (v := (some q112)) hE hD h110 dX7_copyFrom_18 (fun t114 H locs et114 hD => ?_)
  have hF := xlet_e hF et114
  have h115 : tK t114 a0 = 7 := by rw [et114]; exact h110
  have h116 : tK t114 xa = 7 := by rw [et114]; exact h111
  refine lv_iconst (v := (0 : Int32)) hx hb dX7_copyFrom_21 (by decide) ?_
  refine lv_istore_n (lv' := [(2, .int (0 : Int32)), (0, .ref a0), (1, .ref xa)]) hx hb dX7_copyFrom_22 rfl hl (by decide) rfl (fun ls hl => ?_)
  exact L_X7_copyFrom_l23 hE _ (by omega) (by omega) hD (lv_sub hl [1, 2, 0] rfl) hF
def F_X8_init (u : xT) (a0 : Nat) (xa : Int32) (xb : Int32) : Option (xT) := if tK u a0 = 8 then xlet (tSI u a0 0 xa) (fun t2 => xlet (if (40 : Int32) < xb then (40 : Int32) else xb) (fun x4 => xlet (if (0 : Int32) < x4 then x4 else (0 : Int32)) (fun x5 => if ¬ x5 < 0 ∧ x5.toNatClampNeg ≤ 40 then xlet (tNew t2 20 x5.toNatClampNeg) (fun t6 => if tK t6 a0 = 8 then xlet (tSP t6 a0 1 (some t2.1)) (fun t10 => some t10) else none) else none))) else none
theorem c_X8_init {l : Launch} {G : xG} {rr : (xT)} {u : xT} {a0 : Nat} {xa : Int32} {xb : Int32} (hF : F_X8_init u a0 xa xb = some rr) : xMv l G yX8_init cX8_init 3 (Option.none : Option Jvm.ClassFile.FieldType) 3 1 40 [.ref a0, .int xa, .int xb] (tE G u) u.1 (fun z => z = ((tE G rr), rr.1)) := by
  unfold F_X8_init at hF
  refine x_startV rfl (Nat.le_of_ble_eq_true rfl) (fun p e s m args below meth cd ls hE hnm hl hD => ?_)
  have hx := hE.1; have hb := hE.2.1
  have hl : lv_has ls 3 [(0, .ref a0), (1, .int xa), (2, .int xb)] := hl
  have hD : tD G (xA (tE G u) s.heap.size) s.heap u s.heap [] := hD
  refine lv_aload_n hx hb dX8_init_0 rfl (lv_at hl 0 rfl) ?_
  refine x_objI (rest := []) hE hl kw4_232 (Nat.le_of_ble_eq_true rfl) (Nat.le_of_ble_eq_true rfl) dX8_init_1 ?_
  refine lv_aload_n hx hb dX8_init_4 rfl (lv_at hl 0 rfl) ?_
  refine lv_iload_n hx hb dX8_init_5 rfl (lv_at hl 1 rfl) ?_
  obtain ⟨h1, hF⟩ := ite_s hF
  refine pf_X8_9 hE hnm hD h1 dX8_init_6 (fun t2 H locs et2 hD => ?_)
  have hF := xlet_e hF et2
  have h3 : tK t2 a0 = 8 := by rw [et2]; exact h1
  refine lv_aload_n hx hb dX8_init_9 rfl (lv_at hl 0 rfl) ?_
  refine lv_iconst (v := (0 : Int32)) hx hb dX8_init_10 (by decide) ?_
  refine lv_iload_n hx hb dX8_init_11 rfl (lv_at hl 2 rfl) ?_
  refine lv_bipush (v := (40 : Int32)) hx hb dX8_init_12 (by decide) ?_
  refine x_mminI (rest := [.int (0 : Int32), .ref a0]) hE hl kw4_233 (Nat.le_of_ble_eq_true rfl) (Nat.le_of_ble_eq_true rfl) (by show 0 ≤ 1; omega) (by show 0 ≤ 40; omega) dX8_init_14 ?_
  refine lv_topi (fun x4 ex4 => ?_)
  have hF := xlet_e hF ex4
  refine x_mmaxI (rest := [.ref a0]) hE hl kw4_234 (Nat.le_of_ble_eq_true rfl) (Nat.le_of_ble_eq_true rfl) (by show 0 ≤ 1; omega) (by show 0 ≤ 40; omega) dX8_init_17 ?_
  refine lv_topi (fun x5 ex5 => ?_)
  have hF := xlet_e hF ex5
  obtain ⟨h7, hF⟩ := ite_s hF
  refine t_newI (N := x5.toNatClampNeg) hE hD h7.1 rfl (by have := h7.2; omega) (by show 0 + 1 ≤ 1; omega) (by have := h7.2; show 0 + _ ≤ 40; omega) dX8_init_20 (fun t6 H et6 hD => ?_)
  refine W.widen (k := 0 + 1) (n := 0 + 40) (by omega) (by have := h7.2; omega) ?_
  have hF := xlet_e hF et6
  have h8 : tK t6 t2.1 = 20 := by rw [et6]; exact tK_N _ _ _
  obtain ⟨h9, hF⟩ := ite_s hF
  refine pf_X8_24 (v := (some t2.1)) hE hnm hD h9 dX8_init_22 (fun t10 H locs et10 hD => ?_)
  have hF := xlet_e hF et10
  have h11 : tK t10 t2.1 = 20 := by rw [et10]; exact h8
  have h12 : tK t10 a0 = 8 := by rw [et10]; exact h9
  obtain rfl := Option.some.inj hF
  exact x_vret hE hD rfl (by omega) (by omega) dX8_init_25
def F_X8_size (u : xT) (a0 : Nat) : Option Int32 := if tK u a0 = 8 then (tP u a0 1).bind (fun q2 => if tK u q2 = 20 then some (nI (tN u q2)) else none) else none
theorem c_X8_size {l : Launch} {G : xG} {rr : Int32} {u : xT} {a0 : Nat} (hF : F_X8_size u a0 = some rr) : xMi l G yX8_size cX8_size 1 (Option.some Jvm.ClassFile.FieldType.int) 2 0 0 [.ref a0] (tE G u) u.1 (fun r z => r = rr ∧ z = ((tE G u), u.1)) := by
  unfold F_X8_size at hF
  refine x_startI rfl (Nat.le_of_ble_eq_true rfl) (fun p e s m args below meth cd ls hE hnm hl hD => ?_)
  have hx := hE.1; have hb := hE.2.1
  have hl : lv_has ls 1 [(0, .ref a0)] := hl
  have hD : tD G (xA (tE G u) s.heap.size) s.heap u s.heap [] := hD
  refine lv_aload_n hx hb dX8_size_0 rfl (lv_at hl 0 rfl) ?_
  obtain ⟨h1, hF⟩ := ite_s hF
  obtain ⟨q2, h3, hF⟩ := xb_s hF
  refine gr_X8_24 hE hD h1 h3 dX8_size_1 ?_
  obtain ⟨h4, hF⟩ := ite_s hF
  refine t_alen hE hD h4 dX8_size_4 ?_
  obtain rfl := Option.some.inj hF
  exact x_iret hE hD ⟨rfl, rfl⟩ (by omega) (by omega) dX8_size_5
def F_X8_has_j18 (u : xT) (a0 : Nat) (s0 : Int32) : Option Int32 := if s0 = 0 ∨ s0 = 1 then some s0 else none
theorem B_X8_has_j18 {p : Program} {l : Launch} {e : Env} {s : State} {m : MethodId} {args : Array Value} {below : List Frame} {meth : Method} {cd : Code} {G : xG} {w0 : xW} {rr : Int32} (hE : xE p s m args meth cd cX8_has RX8 G 2 (Option.some Jvm.ClassFile.FieldType.boolean)) {u : xT} {a0 : Nat} {s0 : Int32} {H : Heap} {locs : List Loc} {ls : Array Slot} (hD : tD G (xA w0 s.heap.size) s.heap u H locs) (hl : lv_has ls 2 [(0, .ref a0)]) (hF : F_X8_has_j18 u a0 s0 = some rr) : W p l e (xR 2 0 0) s m args below meth cd H locs 0 0 (xQi G w0 (fun r z => r = rr ∧ (rr = 0 ∨ rr = 1) ∧ z = ((tE G u), u.1)) below args s 0 0) (F0 m 18 ls [.int s0]) := by
  have hx := hE.1; have hb := hE.2.1
  unfold F_X8_has_j18 at hF
  obtain ⟨h1, hF⟩ := ite_s hF
  obtain rfl := Option.some.inj hF
  exact x_zret hE hD h1 ⟨rfl, h1, rfl⟩ (by omega) (by omega) dX8_has_18
def F_X8_has_j17 (u : xT) (a0 : Nat) : Option Int32 := F_X8_has_j18 u a0 (0 : Int32)
theorem B_X8_has_j17 {p : Program} {l : Launch} {e : Env} {s : State} {m : MethodId} {args : Array Value} {below : List Frame} {meth : Method} {cd : Code} {G : xG} {w0 : xW} {rr : Int32} (hE : xE p s m args meth cd cX8_has RX8 G 2 (Option.some Jvm.ClassFile.FieldType.boolean)) {u : xT} {a0 : Nat} {H : Heap} {locs : List Loc} {ls : Array Slot} (hD : tD G (xA w0 s.heap.size) s.heap u H locs) (hl : lv_has ls 2 [(0, .ref a0)]) (hF : F_X8_has_j17 u a0 = some rr) : W p l e (xR 2 0 0) s m args below meth cd H locs 0 0 (xQi G w0 (fun r z => r = rr ∧ (rr = 0 ∨ rr = 1) ∧ z = ((tE G u), u.1)) below args s 0 0) (F0 m 17 ls []) := by
  have hx := hE.1; have hb := hE.2.1
  unfold F_X8_has_j17 at hF
  refine lv_iconst (v := (0 : Int32)) hx hb dX8_has_17 (by decide) ?_
  exact B_X8_has_j18 hE hD (lv_sub hl [0] rfl) hF
def F_X8_has (u : xT) (a0 : Nat) (xa : Int32) : Option Int32 := if xa < 0 then F_X8_has_j17 u a0 else if tK u a0 = 8 then (tP u a0 1).bind (fun q4 => if tK u q4 = 20 then if (nI (tN u q4)) ≤ xa then F_X8_has_j17 u a0 else F_X8_has_j18 u a0 (1 : Int32) else none) else none
theorem c_X8_has {l : Launch} {G : xG} {rr : Int32} {u : xT} {a0 : Nat} {xa : Int32} (hF : F_X8_has u a0 xa = some rr) : xMi l G yX8_has cX8_has 2 (Option.some Jvm.ClassFile.FieldType.boolean) 2 0 0 [.ref a0, .int xa] (tE G u) u.1 (fun r z => r = rr ∧ (rr = 0 ∨ rr = 1) ∧ z = ((tE G u), u.1)) := by
  unfold F_X8_has at hF
  refine x_startI rfl (Nat.le_of_ble_eq_true rfl) (fun p e s m args below meth cd ls hE hnm hl hD => ?_)
  have hx := hE.1; have hb := hE.2.1
  have hl : lv_has ls 2 [(0, .ref a0), (1, .int xa)] := hl
  have hD : tD G (xA (tE G u) s.heap.size) s.heap u s.heap [] := hD
  refine lv_iload_n hx hb dX8_has_0 rfl (lv_at hl 1 rfl) ?_
  refine lv_if_lt (tgt := 17) hx hb dX8_has_1 (by decide) (fun c2 => ?_) (fun c2 => ?_)
  · have hF := ite_p hF c2
    exact B_X8_has_j17 hE hD (lv_sub hl [0] rfl) hF
  · have hF := ite_n hF c2
    refine lv_iload_n hx hb dX8_has_4 rfl (lv_at hl 1 rfl) ?_
    refine lv_aload_n hx hb dX8_has_5 rfl (lv_at hl 0 rfl) ?_
    obtain ⟨h3, hF⟩ := ite_s hF
    obtain ⟨q4, h5, hF⟩ := xb_s hF
    refine gr_X8_24 hE hD h3 h5 dX8_has_6 ?_
    obtain ⟨h6, hF⟩ := ite_s hF
    refine t_alen hE hD h6 dX8_has_9 ?_
    refine lv_icmp_ge (tgt := 17) hx hb dX8_has_10 (by decide) (fun c7 => ?_) (fun c7 => ?_)
    · have hF := ite_p hF c7
      exact B_X8_has_j17 hE hD (lv_sub hl [0] rfl) hF
    · have hF := ite_n hF c7
      refine lv_iconst (v := (1 : Int32)) hx hb dX8_has_13 (by decide) ?_
      refine lv_goto (tgt := 18) hx hb dX8_has_14 (by decide) ?_
      exact B_X8_has_j18 hE hD (lv_sub hl [0] rfl) hF
def F_X8_get_j19 (u : xT) (a0 : Nat) (s0 : Int32) : Option Int32 := some s0
theorem B_X8_get_j19 {p : Program} {l : Launch} {e : Env} {s : State} {m : MethodId} {args : Array Value} {below : List Frame} {meth : Method} {cd : Code} {G : xG} {w0 : xW} {rr : Int32} (hE : xE p s m args meth cd cX8_get RX8 G 2 (Option.some Jvm.ClassFile.FieldType.int)) {u : xT} {a0 : Nat} {s0 : Int32} {H : Heap} {locs : List Loc} {ls : Array Slot} (hD : tD G (xA w0 s.heap.size) s.heap u H locs) (hl : lv_has ls 2 [(0, .ref a0)]) (hF : F_X8_get_j19 u a0 s0 = some rr) : W p l e (xR 3 0 0) s m args below meth cd H locs 0 0 (xQi G w0 (fun r z => r = rr ∧ z = ((tE G u), u.1)) below args s 0 0) (F0 m 19 ls [.int s0]) := by
  have hx := hE.1; have hb := hE.2.1
  unfold F_X8_get_j19 at hF
  obtain rfl := Option.some.inj hF
  exact x_iret hE hD ⟨rfl, rfl⟩ (by omega) (by omega) dX8_get_19
def F_X8_get (u : xT) (a0 : Nat) (xa : Int32) : Option Int32 := if tK u a0 = 8 then (F_X8_has u a0 xa).bind (fun r2 => if r2 = 0 then F_X8_get_j19 u a0 (-12 : Int32) else (tP u a0 1).bind (fun q6 => if tK u q6 = 20 then if xIn xa (tN u q6) then F_X8_get_j19 u a0 (tI u q6 xa.toNatClampNeg) else none else none)) else none
theorem c_X8_get {l : Launch} {G : xG} {rr : Int32} {u : xT} {a0 : Nat} {xa : Int32} (hF : F_X8_get u a0 xa = some rr) : xMi l G yX8_get cX8_get 2 (Option.some Jvm.ClassFile.FieldType.int) 3 0 0 [.ref a0, .int xa] (tE G u) u.1 (fun r z => r = rr ∧ z = ((tE G u), u.1)) := by
  unfold F_X8_get at hF
  refine x_startI rfl (Nat.le_of_ble_eq_true rfl) (fun p e s m args below meth cd ls hE hnm hl hD => ?_)
  have hx := hE.1; have hb := hE.2.1
  have hl : lv_has ls 2 [(0, .ref a0), (1, .int xa)] := hl
  have hD : tD G (xA (tE G u) s.heap.size) s.heap u s.heap [] := hD
  refine lv_aload_n hx hb dX8_get_0 rfl (lv_at hl 0 rfl) ?_
  refine lv_iload_n hx hb dX8_get_1 rfl (lv_at hl 1 rfl) ?_
  obtain ⟨h1, hF⟩ := ite_s hF
  obtain ⟨r2, k3, hF⟩ := xb_s hF
  refine kVz (As := [.int xa]) (rest := []) hE hl hD (c_X8_has k3) kl_X8_28 (tE_8 h1) rfl rfl rfl rfl (Nat.le_of_ble_eq_true rfl) dX8_get_2 ⟨Nat.le_of_ble_eq_true rfl, Nat.le_of_ble_eq_true rfl⟩ ⟨Nat.le_of_ble_eq_true rfl, Nat.le_of_ble_eq_true rfl⟩ (fun H locs z4 (hD : tD G _ _ u H locs) => ?_)
  refine lv_if_eq (tgt := 17) hx hb dX8_get_5 (by decide) (fun c5 => ?_) (fun c5 => ?_)
  · have hF := ite_p hF c5
    refine lv_bipush (v := (-12 : Int32)) hx hb dX8_get_17 (by decide) ?_
    exact B_X8_get_j19 hE hD (lv_sub hl [0] rfl) hF
  · have hF := ite_n hF c5
    refine lv_aload_n hx hb dX8_get_8 rfl (lv_at hl 0 rfl) ?_
    obtain ⟨q6, h7, hF⟩ := xb_s hF
    refine gr_X8_24 hE hD h1 h7 dX8_get_9 ?_
    refine lv_iload_n hx hb dX8_get_12 rfl (lv_at hl 1 rfl) ?_
    obtain ⟨h8, hF⟩ := ite_s hF
    obtain ⟨h9, hF⟩ := ite_s hF
    refine t_iald hE hD h8 h9 dX8_get_13 ?_
    refine lv_goto (tgt := 19) hx hb dX8_get_14 (by decide) ?_
    exact B_X8_get_j19 hE hD (lv_sub hl [0] rfl) hF
def F_X8_narrowed_j56 (u : xT) (a0 : Nat) (y1 : Int32) : Option Int32 := some y1
theorem B_X8_narrowed_j56 {p : Program} {l : Launch} {e : Env} {s : State} {m : MethodId} {args : Array Value} {below : List Frame} {meth : Method} {cd : Code} {G : xG} {w0 : xW} {rr : Int32} (hE : xE p s m args meth cd cX8_narrowed RX8 G 2 (Option.some Jvm.ClassFile.FieldType.int)) {u : xT} {a0 : Nat} {y1 : Int32} {H : Heap} {locs : List Loc} {ls : Array Slot} (hD : tD G (xA w0 s.heap.size) s.heap u H locs) (hl : lv_has ls 2 [(0, .ref a0), (1, .int y1)]) (hF : F_X8_narrowed_j56 u a0 y1 = some rr) : W p l e (xR 2 0 0) s m args below meth cd H locs 0 0 (xQi G w0 (fun r z => r = rr ∧ z = ((tE G u), u.1)) below args s 0 0) (F0 m 56 ls []) := by
  have hx := hE.1; have hb := hE.2.1
  unfold F_X8_narrowed_j56 at hF
  refine lv_iload_n hx hb dX8_narrowed_56 rfl (lv_at hl 1 rfl) ?_
  obtain rfl := Option.some.inj hF
  exact x_iret hE hD ⟨rfl, rfl⟩ (by omega) (by omega) dX8_narrowed_57
def F_X8_narrowed_j55 (u : xT) (a0 : Nat) (s0 : Int32) : Option Int32 := some s0
theorem B_X8_narrowed_j55 {p : Program} {l : Launch} {e : Env} {s : State} {m : MethodId} {args : Array Value} {below : List Frame} {meth : Method} {cd : Code} {G : xG} {w0 : xW} {rr : Int32} (hE : xE p s m args meth cd cX8_narrowed RX8 G 2 (Option.some Jvm.ClassFile.FieldType.int)) {u : xT} {a0 : Nat} {s0 : Int32} {H : Heap} {locs : List Loc} {ls : Array Slot} (hD : tD G (xA w0 s.heap.size) s.heap u H locs) (hl : lv_has ls 2 [(0, .ref a0)]) (hF : F_X8_narrowed_j55 u a0 s0 = some rr) : W p l e (xR 2 0 0) s m args below meth cd H locs 0 0 (xQi G w0 (fun r z => r = rr ∧ z = ((tE G u), u.1)) below args s 0 0) (F0 m 55 ls [.int s0]) := by
  have hx := hE.1; have hb := hE.2.1
  unfold F_X8_narrowed_j55 at hF
  obtain rfl := Option.some.inj hF
  exact x_iret hE hD ⟨rfl, rfl⟩ (by omega) (by omega) dX8_narrowed_55
def F_X8_narrowed (u : xT) (a0 : Nat) (xa : Int32) : Option Int32 := if tK u a0 = 8 then xlet (tI u a0 0) (fun x2 => (if x2 = (0 : Int32) then some xa.toInt8.toInt32 else (if x2 = (1 : Int32) then some xa.toInt16.toInt32 else (if x2 = (2 : Int32) then F_X8_narrowed_j56 u a0 xa else (if x2 = (3 : Int32) then F_X8_narrowed_j56 u a0 xa else (if x2 = (4 : Int32) then if xa = 0 then F_X8_narrowed_j55 u a0 (0 : Int32) else F_X8_narrowed_j55 u a0 (1 : Int32) else F_X8_narrowed_j56 u a0 xa)))))) else none
theorem c_X8_narrowed {l : Launch} {G : xG} {rr : Int32} {u : xT} {a0 : Nat} {xa : Int32} (hF : F_X8_narrowed u a0 xa = some rr) : xMi l G yX8_narrowed cX8_narrowed 2 (Option.some Jvm.ClassFile.FieldType.int) 2 0 0 [.ref a0, .int xa] (tE G u) u.1 (fun r z => r = rr ∧ z = ((tE G u), u.1)) := by
  unfold F_X8_narrowed at hF
  refine x_startI rfl (Nat.le_of_ble_eq_true rfl) (fun p e s m args below meth cd ls hE hnm hl hD => ?_)
  have hx := hE.1; have hb := hE.2.1
  have hl : lv_has ls 2 [(0, .ref a0), (1, .int xa)] := hl
  have hD : tD G (xA (tE G u) s.heap.size) s.heap u s.heap [] := hD
  refine lv_aload_n hx hb dX8_narrowed_0 rfl (lv_at hl 0 rfl) ?_
  obtain ⟨h1, hF⟩ := ite_s hF
  refine gf_X8_9 hE hD h1 dX8_narrowed_1 ?_
  refine lv_topi (fun x2 ex2 => ?_)
  have hF := xlet_e hF ex2
  by_cases c3 : x2 = (0 : Int32)
  · have hF := ite_p hF c3
    refine lv_tableIn (off := 36) (tgt := 40) hx hb dX8_narrowed_4 (by rw [c3]; decide) (by rw [c3]; decide) (by rw [c3]; rfl) (by decide) ?_
    refine lv_iload_n hx hb dX8_narrowed_40 rfl (lv_at hl 1 rfl) ?_
    refine lv_i2b (v := xa.toInt8.toInt32) hx hb dX8_narrowed_41 rfl ?_
    obtain rfl := Option.some.inj hF
    exact x_iret hE hD ⟨rfl, rfl⟩ (by omega) (by omega) dX8_narrowed_42
  · have hF := ite_n hF c3
    by_cases c4 : x2 = (1 : Int32)
    · have hF := ite_p hF c4
      refine lv_tableIn (off := 39) (tgt := 43) hx hb dX8_narrowed_4 (by rw [c4]; decide) (by rw [c4]; decide) (by rw [c4]; rfl) (by decide) ?_
      refine lv_iload_n hx hb dX8_narrowed_43 rfl (lv_at hl 1 rfl) ?_
      refine lv_i2s (v := xa.toInt16.toInt32) hx hb dX8_narrowed_44 rfl ?_
      obtain rfl := Option.some.inj hF
      exact x_iret hE hD ⟨rfl, rfl⟩ (by omega) (by omega) dX8_narrowed_45
    · have hF := ite_n hF c4
      by_cases c5 : x2 = (2 : Int32)
      · have hF := ite_p hF c5
        refine lv_tableIn (off := 52) (tgt := 56) hx hb dX8_narrowed_4 (by rw [c5]; decide) (by rw [c5]; decide) (by rw [c5]; rfl) (by decide) ?_
        exact B_X8_narrowed_j56 hE hD (lv_sub hl [0, 1] rfl) hF
      · have hF := ite_n hF c5
        by_cases c6 : x2 = (3 : Int32)
        · have hF := ite_p hF c6
          refine lv_tableIn (off := 52) (tgt := 56) hx hb dX8_narrowed_4 (by rw [c6]; decide) (by rw [c6]; decide) (by rw [c6]; rfl) (by decide) ?_
          exact B_X8_narrowed_j56 hE hD (lv_sub hl [0, 1] rfl) hF
        · have hF := ite_n hF c6
          by_cases c7 : x2 = (4 : Int32)
          · have hF := ite_p hF c7
            refine lv_tableIn (off := 42) (tgt := 46) hx hb dX8_narrowed_4 (by rw [c7]; decide) (by rw [c7]; decide) (by rw [c7]; rfl) (by decide) ?_
            refine lv_iload_n hx hb dX8_narrowed_46 rfl (lv_at hl 1 rfl) ?_
            refine lv_if_eq (tgt := 54) hx hb dX8_narrowed_47 (by decide) (fun c8 => ?_) (fun c8 => ?_)
            · have hF := ite_p hF c8
              refine lv_iconst (v := (0 : Int32)) hx hb dX8_narrowed_54 (by decide) ?_
              exact B_X8_narrowed_j55 hE hD (lv_sub hl [0] rfl) hF
            · have hF := ite_n hF c8
              refine lv_iconst (v := (1 : Int32)) hx hb dX8_narrowed_50 (by decide) ?_
              refine lv_goto (tgt := 55) hx hb dX8_narrowed_51 (by decide) ?_
              exact B_X8_narrowed_j55 hE hD (lv_sub hl [0] rfl) hF
          · have hF := ite_n hF c7
            refine lv_tableOut (tgt := 56) hx hb dX8_narrowed_4 (by have hc3 := lv_neT (a := 0) c3 rfl; have hc4 := lv_neT (a := 1) c4 rfl; have hc5 := lv_neT (a := 2) c5 rfl; have hc6 := lv_neT (a := 3) c6 rfl; have hc7 := lv_neT (a := 4) c7 rfl; omega) (by decide) ?_
            exact B_X8_narrowed_j56 hE hD (lv_sub hl [0, 1] rfl) hF
def F_X8_set_j19 (u : xT) (a0 : Nat) : Option (xT) := some u
theorem B_X8_set_j19 {p : Program} {l : Launch} {e : Env} {s : State} {m : MethodId} {args : Array Value} {below : List Frame} {meth : Method} {cd : Code} {G : xG} {w0 : xW} {rr : (xT)} (hE : xE p s m args meth cd cX8_set RX8 G 3 (Option.none : Option Jvm.ClassFile.FieldType)) {u : xT} {a0 : Nat} {H : Heap} {locs : List Loc} {ls : Array Slot} (hD : tD G (xA w0 s.heap.size) s.heap u H locs) (hl : lv_has ls 3 [(0, .ref a0)]) (hF : F_X8_set_j19 u a0 = some rr) : W p l e (xR 3 0 0) s m args below meth cd H locs 0 0 (xQv G w0 (fun z => z = ((tE G rr), rr.1)) below args s 0 0) (F0 m 19 ls []) := by
  have hx := hE.1; have hb := hE.2.1
  unfold F_X8_set_j19 at hF
  obtain rfl := Option.some.inj hF
  exact x_vret hE hD rfl (by omega) (by omega) dX8_set_19
def F_X8_set (u : xT) (a0 : Nat) (xa : Int32) (xb : Int32) : Option (xT) := if tK u a0 = 8 then (F_X8_has u a0 xa).bind (fun r2 => if r2 = 0 then F_X8_set_j19 u a0 else (tP u a0 1).bind (fun q6 => (F_X8_narrowed u a0 xb).bind (fun r8 => if tK u q6 = 20 then if xIn xa (tN u q6) then xlet (tSI u q6 xa.toNatClampNeg r8) (fun t12 => F_X8_set_j19 t12 a0) else none else none))) else none
theorem c_X8_set {l : Launch} {G : xG} {rr : (xT)} {u : xT} {a0 : Nat} {xa : Int32} {xb : Int32} (hF : F_X8_set u a0 xa xb = some rr) : xMv l G yX8_set cX8_set 3 (Option.none : Option Jvm.ClassFile.FieldType) 3 0 0 [.ref a0, .int xa, .int xb] (tE G u) u.1 (fun z => z = ((tE G rr), rr.1)) := by
  unfold F_X8_set at hF
  refine x_startV rfl (Nat.le_of_ble_eq_true rfl) (fun p e s m args below meth cd ls hE hnm hl hD => ?_)
  have hx := hE.1; have hb := hE.2.1
  have hl : lv_has ls 3 [(0, .ref a0), (1, .int xa), (2, .int xb)] := hl
  have hD : tD G (xA (tE G u) s.heap.size) s.heap u s.heap [] := hD
  refine lv_aload_n hx hb dX8_set_0 rfl (lv_at hl 0 rfl) ?_
  refine lv_iload_n hx hb dX8_set_1 rfl (lv_at hl 1 rfl) ?_
  obtain ⟨h1, hF⟩ := ite_s hF
  obtain ⟨r2, k3, hF⟩ := xb_s hF
  refine kVz (As := [.int xa]) (rest := []) hE hl hD (c_X8_has k3) kl_X8_28 (tE_8 h1) rfl rfl rfl rfl (Nat.le_of_ble_eq_true rfl) dX8_set_2 ⟨Nat.le_of_ble_eq_true rfl, Nat.le_of_ble_eq_true rfl⟩ ⟨Nat.le_of_ble_eq_true rfl, Nat.le_of_ble_eq_true rfl⟩ (fun H locs z4 (hD : tD G _ _ u H locs) => ?_)
  refine lv_if_eq (tgt := 19) hx hb dX8_set_5 (by decide) (fun c5 => ?_) (fun c5 => ?_)
  · have hF := ite_p hF c5
    exact B_X8_set_j19 hE hD (lv_sub hl [0] rfl) hF
  · have hF := ite_n hF c5
    refine lv_aload_n hx hb dX8_set_8 rfl (lv_at hl 0 rfl) ?_
    obtain ⟨q6, h7, hF⟩ := xb_s hF
    refine gr_X8_24 hE hD h1 h7 dX8_set_9 ?_
    refine lv_iload_n hx hb dX8_set_12 rfl (lv_at hl 1 rfl) ?_
    refine lv_aload_n hx hb dX8_set_13 rfl (lv_at hl 0 rfl) ?_
    refine lv_iload_n hx hb dX8_set_14 rfl (lv_at hl 2 rfl) ?_
    obtain ⟨r8, k9, hF⟩ := xb_s hF
    refine kVi (As := [.int xb]) (rest := [.int xa, .ref q6]) hE hl hD (c_X8_narrowed k9) kl_X8_32 (tE_8 h1) rfl rfl rfl rfl (Nat.le_of_ble_eq_true rfl) dX8_set_15 ⟨Nat.le_of_ble_eq_true rfl, Nat.le_of_ble_eq_true rfl⟩ ⟨Nat.le_of_ble_eq_true rfl, Nat.le_of_ble_eq_true rfl⟩ (fun H locs (hD : tD G _ _ u H locs) => ?_)
    obtain ⟨h10, hF⟩ := ite_s hF
    obtain ⟨h11, hF⟩ := ite_s hF
    refine t_iast hE hD h10 h11 dX8_set_18 (fun t12 H locs et12 hD => ?_)
    have hF := xlet_e hF et12
    have h13 : tK t12 a0 = 8 := by rw [et12]; exact h1
    have h14 : tK t12 q6 = 20 := by rw [et12]; exact h10
    exact B_X8_set_j19 hE hD (lv_sub hl [0] rfl) hF
def F_X10_init (u : xT) (a0 : Nat) : Option (xT) := xlet (tNew u 20 30) (fun t1 => if tK t1 a0 = 10 then xlet (tSP t1 a0 0 (some u.1)) (fun t4 => xlet (tSI t4 a0 1 (0 : Int32)) (fun t7 => xlet (tSI t7 a0 2 (0 : Int32)) (fun t10 => some t10))) else none)
theorem c_X10_init {l : Launch} {G : xG} {rr : (xT)} {u : xT} {a0 : Nat} (hF : F_X10_init u a0 = some rr) : xMv l G yX10_init cX10_init 1 (Option.none : Option Jvm.ClassFile.FieldType) 2 1 30 [.ref a0] (tE G u) u.1 (fun z => z = ((tE G rr), rr.1)) := by
  unfold F_X10_init at hF
  refine x_startV rfl (Nat.le_of_ble_eq_true rfl) (fun p e s m args below meth cd ls hE hnm hl hD => ?_)
  have hx := hE.1; have hb := hE.2.1
  have hl : lv_has ls 1 [(0, .ref a0)] := hl
  have hD : tD G (xA (tE G u) s.heap.size) s.heap u s.heap [] := hD
  refine lv_aload_n hx hb dX10_init_0 rfl (lv_at hl 0 rfl) ?_
  refine x_objI (rest := []) hE hl kw1_127 (Nat.le_of_ble_eq_true rfl) (Nat.le_of_ble_eq_true rfl) dX10_init_1 ?_
  refine lv_aload_n hx hb dX10_init_4 rfl (lv_at hl 0 rfl) ?_
  refine lv_bipush (v := (30 : Int32)) hx hb dX10_init_5 (by decide) ?_
  refine t_newI (N := 30) hE hD (by decide) (by decide) (Nat.le_of_ble_eq_true rfl) (by show 0 + 1 ≤ 1; omega) (by show 0 + 30 ≤ 30; omega) dX10_init_7 (fun t1 H et1 hD => ?_)
  have hF := xlet_e hF et1
  have h2 : tK t1 u.1 = 20 := by rw [et1]; exact tK_N _ _ _
  obtain ⟨h3, hF⟩ := ite_s hF
  refine pf_X10_9 (v := (some u.1)) hE hnm hD h3 dX10_init_9 (fun t4 H locs et4 hD => ?_)
  have hF := xlet_e hF et4
  have h5 : tK t4 u.1 = 20 := by rw [et4]; exact h2
  have h6 : tK t4 a0 = 10 := by rw [et4]; exact h3
  refine lv_aload_n hx hb dX10_init_12 rfl (lv_at hl 0 rfl) ?_
  refine lv_iconst (v := (0 : Int32)) hx hb dX10_init_13 (by decide) ?_
  refine pf_X10_15 hE hD h6 dX10_init_14 (fun t7 H locs et7 hD => ?_)
  have hF := xlet_e hF et7
  have h8 : tK t7 u.1 = 20 := by rw [et7]; exact h5
  have h9 : tK t7 a0 = 10 := by rw [et7]; exact h6
  refine lv_aload_n hx hb dX10_init_17 rfl (lv_at hl 0 rfl) ?_
  refine lv_iconst (v := (0 : Int32)) hx hb dX10_init_18 (by decide) ?_
  refine pf_X10_19 hE hD h9 (by decide) dX10_init_19 (fun t10 H locs et10 hD => ?_)
  have hF := xlet_e hF et10
  have h11 : tK t10 u.1 = 20 := by rw [et10]; exact h8
  have h12 : tK t10 a0 = 10 := by rw [et10]; exact h9
  obtain rfl := Option.some.inj hF
  exact x_vret hE hD rfl (by omega) (by omega) dX10_init_22
def F_X10_clear (u : xT) (a0 : Nat) : Option (xT) := if tK u a0 = 10 then xlet (tSI u a0 1 (0 : Int32)) (fun t2 => xlet (tSI t2 a0 2 (0 : Int32)) (fun t4 => some t4)) else none
theorem c_X10_clear {l : Launch} {G : xG} {rr : (xT)} {u : xT} {a0 : Nat} (hF : F_X10_clear u a0 = some rr) : xMv l G yX10_clear cX10_clear 1 (Option.none : Option Jvm.ClassFile.FieldType) 2 0 0 [.ref a0] (tE G u) u.1 (fun z => z = ((tE G rr), rr.1)) := by
  unfold F_X10_clear at hF
  refine x_startV rfl (Nat.le_of_ble_eq_true rfl) (fun p e s m args below meth cd ls hE hnm hl hD => ?_)
  have hx := hE.1; have hb := hE.2.1
  have hl : lv_has ls 1 [(0, .ref a0)] := hl
  have hD : tD G (xA (tE G u) s.heap.size) s.heap u s.heap [] := hD
  refine lv_aload_n hx hb dX10_clear_0 rfl (lv_at hl 0 rfl) ?_
  refine lv_iconst (v := (0 : Int32)) hx hb dX10_clear_1 (by decide) ?_
  obtain ⟨h1, hF⟩ := ite_s hF
  refine pf_X10_15 hE hD h1 dX10_clear_2 (fun t2 H locs et2 hD => ?_)
  have hF := xlet_e hF et2
  have h3 : tK t2 a0 = 10 := by rw [et2]; exact h1
  refine lv_aload_n hx hb dX10_clear_5 rfl (lv_at hl 0 rfl) ?_
  refine lv_iconst (v := (0 : Int32)) hx hb dX10_clear_6 (by decide) ?_
  refine pf_X10_19 hE hD h3 (by decide) dX10_clear_7 (fun t4 H locs et4 hD => ?_)
  have hF := xlet_e hF et4
  have h5 : tK t4 a0 = 10 := by rw [et4]; exact h3
  obtain rfl := Option.some.inj hF
  exact x_vret hE hD rfl (by omega) (by omega) dX10_clear_10
def F_X10_bodyAt_j32 (u : xT) (a0 : Nat) (s0 : Int32) : Option Int32 := some s0
theorem B_X10_bodyAt_j32 {p : Program} {l : Launch} {e : Env} {s : State} {m : MethodId} {args : Array Value} {below : List Frame} {meth : Method} {cd : Code} {G : xG} {w0 : xW} {rr : Int32} (hE : xE p s m args meth cd cX10_bodyAt RX10 G 2 (Option.some Jvm.ClassFile.FieldType.int)) {u : xT} {a0 : Nat} {s0 : Int32} {H : Heap} {locs : List Loc} {ls : Array Slot} (hD : tD G (xA w0 s.heap.size) s.heap u H locs) (hl : lv_has ls 2 [(0, .ref a0)]) (hF : F_X10_bodyAt_j32 u a0 s0 = some rr) : W p l e (xR 2 0 0) s m args below meth cd H locs 0 0 (xQi G w0 (fun r z => r = rr ∧ z = ((tE G u), u.1)) below args s 0 0) (F0 m 32 ls [.int s0]) := by
  have hx := hE.1; have hb := hE.2.1
  unfold F_X10_bodyAt_j32 at hF
  obtain rfl := Option.some.inj hF
  exact x_iret hE hD ⟨rfl, rfl⟩ (by omega) (by omega) dX10_bodyAt_32
def F_X10_bodyAt_j30 (u : xT) (a0 : Nat) : Option Int32 := F_X10_bodyAt_j32 u a0 (-3 : Int32)
theorem B_X10_bodyAt_j30 {p : Program} {l : Launch} {e : Env} {s : State} {m : MethodId} {args : Array Value} {below : List Frame} {meth : Method} {cd : Code} {G : xG} {w0 : xW} {rr : Int32} (hE : xE p s m args meth cd cX10_bodyAt RX10 G 2 (Option.some Jvm.ClassFile.FieldType.int)) {u : xT} {a0 : Nat} {H : Heap} {locs : List Loc} {ls : Array Slot} (hD : tD G (xA w0 s.heap.size) s.heap u H locs) (hl : lv_has ls 2 [(0, .ref a0)]) (hF : F_X10_bodyAt_j30 u a0 = some rr) : W p l e (xR 2 0 0) s m args below meth cd H locs 0 0 (xQi G w0 (fun r z => r = rr ∧ z = ((tE G u), u.1)) below args s 0 0) (F0 m 30 ls []) := by
  have hx := hE.1; have hb := hE.2.1
  unfold F_X10_bodyAt_j30 at hF
  refine lv_bipush (v := (-3 : Int32)) hx hb dX10_bodyAt_30 (by decide) ?_
  exact B_X10_bodyAt_j32 hE hD (lv_sub hl [0] rfl) hF
def F_X10_bodyAt (u : xT) (a0 : Nat) (xa : Int32) : Option Int32 := if xa < 0 then F_X10_bodyAt_j30 u a0 else if tK u a0 = 10 then if (tI u a0 1) ≤ xa then F_X10_bodyAt_j30 u a0 else (tP u a0 0).bind (fun q4 => if tK u q4 = 20 then if (nI (tN u q4)) ≤ xa then F_X10_bodyAt_j30 u a0 else (tP u a0 0).bind (fun q8 => if tK u q8 = 20 then if xIn xa (tN u q8) then F_X10_bodyAt_j32 u a0 (tI u q8 xa.toNatClampNeg) else none else none) else none) else none
theorem c_X10_bodyAt {l : Launch} {G : xG} {rr : Int32} {u : xT} {a0 : Nat} {xa : Int32} (hF : F_X10_bodyAt u a0 xa = some rr) : xMi l G yX10_bodyAt cX10_bodyAt 2 (Option.some Jvm.ClassFile.FieldType.int) 2 0 0 [.ref a0, .int xa] (tE G u) u.1 (fun r z => r = rr ∧ z = ((tE G u), u.1)) := by
  unfold F_X10_bodyAt at hF
  refine x_startI rfl (Nat.le_of_ble_eq_true rfl) (fun p e s m args below meth cd ls hE hnm hl hD => ?_)
  have hx := hE.1; have hb := hE.2.1
  have hl : lv_has ls 2 [(0, .ref a0), (1, .int xa)] := hl
  have hD : tD G (xA (tE G u) s.heap.size) s.heap u s.heap [] := hD
  refine lv_iload_n hx hb dX10_bodyAt_0 rfl (lv_at hl 1 rfl) ?_
  refine lv_if_lt (tgt := 30) hx hb dX10_bodyAt_1 (by decide) (fun c1 => ?_) (fun c1 => ?_)
  · have hF := ite_p hF c1
    exact B_X10_bodyAt_j30 hE hD (lv_sub hl [0] rfl) hF
  · have hF := ite_n hF c1
    refine lv_iload_n hx hb dX10_bodyAt_4 rfl (lv_at hl 1 rfl) ?_
    refine lv_aload_n hx hb dX10_bodyAt_5 rfl (lv_at hl 0 rfl) ?_
    obtain ⟨h2, hF⟩ := ite_s hF
    refine gf_X10_15 hE hD h2 dX10_bodyAt_6 ?_
    refine lv_icmp_ge (tgt := 30) hx hb dX10_bodyAt_9 (by decide) (fun c3 => ?_) (fun c3 => ?_)
    · have hF := ite_p hF c3
      exact B_X10_bodyAt_j30 hE hD (lv_sub hl [0] rfl) hF
    · have hF := ite_n hF c3
      refine lv_iload_n hx hb dX10_bodyAt_12 rfl (lv_at hl 1 rfl) ?_
      refine lv_aload_n hx hb dX10_bodyAt_13 rfl (lv_at hl 0 rfl) ?_
      obtain ⟨q4, h5, hF⟩ := xb_s hF
      refine gr_X10_9 hE hD h2 h5 dX10_bodyAt_14 ?_
      obtain ⟨h6, hF⟩ := ite_s hF
      refine t_alen hE hD h6 dX10_bodyAt_17 ?_
      refine lv_icmp_ge (tgt := 30) hx hb dX10_bodyAt_18 (by decide) (fun c7 => ?_) (fun c7 => ?_)
      · have hF := ite_p hF c7
        exact B_X10_bodyAt_j30 hE hD (lv_sub hl [0] rfl) hF
      · have hF := ite_n hF c7
        refine lv_aload_n hx hb dX10_bodyAt_21 rfl (lv_at hl 0 rfl) ?_
        obtain ⟨q8, h9, hF⟩ := xb_s hF
        refine gr_X10_9 hE hD h2 h9 dX10_bodyAt_22 ?_
        refine lv_iload_n hx hb dX10_bodyAt_25 rfl (lv_at hl 1 rfl) ?_
        obtain ⟨h10, hF⟩ := ite_s hF
        obtain ⟨h11, hF⟩ := ite_s hF
        refine t_iald hE hD h10 h11 dX10_bodyAt_26 ?_
        refine lv_goto (tgt := 32) hx hb dX10_bodyAt_27 (by decide) ?_
        exact B_X10_bodyAt_j32 hE hD (lv_sub hl [0] rfl) hF
theorem ki_X11_9 : xLI RX11 9 yX7_init cX7_init 1 0 := ⟨⟨kw1_32, kw1_2, kw1_33⟩, Or.inr (by decide), rfl, by decide, by decide, by decide +kernel⟩
theorem ki_X11_51 : xLI RX11 51 yX10_init cX10_init 1 0 := ⟨⟨kw1_125, kw1_4, kw1_126⟩, Or.inr (by decide), rfl, by decide, by decide, by decide +kernel⟩
def F_X11_init (u : xT) (a0 : Nat) : Option (xT) := xlet (tNew u 7 0) (fun t1 => (F_X7_init t1 u.1).bind (fun r3 => if tK r3 a0 = 11 then xlet (tSP r3 a0 0 (some u.1)) (fun t6 => xlet (tNew t6 7 0) (fun t8 => (F_X7_init t8 t6.1).bind (fun r10 => if tK r10 a0 = 11 then xlet (tSP r10 a0 1 (some t6.1)) (fun t13 => xlet (tSI t13 a0 2 (0 : Int32)) (fun t15 => xlet (tNew t15 20 200) (fun t17 => if tK t17 a0 = 11 then xlet (tSP t17 a0 3 (some t15.1)) (fun t20 => xlet (tSI t20 a0 4 (0 : Int32)) (fun t23 => xlet (tNew t23 20 60) (fun t26 => if tK t26 a0 = 11 then xlet (tSP t26 a0 5 (some t23.1)) (fun t29 => xlet (tSI t29 a0 6 (0 : Int32)) (fun t32 => xlet (tNew t32 23 4) (fun t35 => if tK t35 a0 = 11 then xlet (tSP t35 a0 7 (some t32.1)) (fun t38 => xlet (tNew t38 20 4) (fun t41 => if xIn (0 : Int32) (tN t41 t38.1) then xlet (tSI t41 t38.1 (0 : Int32).toNatClampNeg (-1 : Int32)) (fun t44 => if xIn (1 : Int32) (tN t44 t38.1) then xlet (tSI t44 t38.1 (1 : Int32).toNatClampNeg (-1 : Int32)) (fun t47 => if xIn (2 : Int32) (tN t47 t38.1) then xlet (tSI t47 t38.1 (2 : Int32).toNatClampNeg (-1 : Int32)) (fun t50 => if xIn (3 : Int32) (tN t50 t38.1) then xlet (tSI t50 t38.1 (3 : Int32).toNatClampNeg (-1 : Int32)) (fun t53 => if tK t53 a0 = 11 then xlet (tSP t53 a0 8 (some t38.1)) (fun t56 => xlet (tNew t56 23 4) (fun t59 => if tK t59 a0 = 11 then xlet (tSP t59 a0 9 (some t56.1)) (fun t62 => xlet (tNew t62 10 0) (fun t65 => (F_X10_init t65 t62.1).bind (fun r67 => if tK r67 a0 = 11 then xlet (tSP r67 a0 10 (some t62.1)) (fun t70 => xlet (tNew t70 20 512) (fun t72 => if tK t72 a0 = 11 then xlet (tSP t72 a0 11 (some t70.1)) (fun t75 => xlet (tNew t75 20 512) (fun t78 => if tK t78 a0 = 11 then xlet (tSP t78 a0 12 (some t75.1)) (fun t81 => xlet (tNew t81 20 61) (fun t84 => if tK t84 a0 = 11 then xlet (tSP t84 a0 13 (some t81.1)) (fun t87 => some t87) else none)) else none)) else none)) else none))) else none)) else none) else none) else none) else none) else none)) else none))) else none))) else none))) else none))) else none))
theorem c_X11_init {l : Launch} {G : xG} {rr : (xT)} {u : xT} {a0 : Nat} (hF : F_X11_init u a0 = some rr) : xMv l G yX11_init cX11_init 1 (Option.none : Option Jvm.ClassFile.FieldType) 4 42 2190 [.ref a0] (tE G u) u.1 (fun z => z = ((tE G rr), rr.1)) := by
  unfold F_X11_init at hF
  refine x_startV rfl (Nat.le_of_ble_eq_true rfl) (fun p e s m args below meth cd ls hE hnm hl hD => ?_)
  have hx := hE.1; have hb := hE.2.1
  have hl : lv_has ls 1 [(0, .ref a0)] := hl
  have hD : tD G (xA (tE G u) s.heap.size) s.heap u s.heap [] := hD
  refine lv_aload_n hx hb dX11_init_0 rfl (lv_at hl 0 rfl) ?_
  refine x_objI (rest := []) hE hl kw1_26 (Nat.le_of_ble_eq_true rfl) (Nat.le_of_ble_eq_true rfl) dX11_init_1 ?_
  refine lv_aload_n hx hb dX11_init_4 rfl (lv_at hl 0 rfl) ?_
  refine tn_X11_7 hE hD (by show 0 + 1 ≤ 42; omega) (by show 0 + 11 ≤ 2190; omega) dX11_init_5 (fun t1 H et1 hD => ?_)
  have hF := xlet_e hF et1
  have h2 : tK t1 u.1 = 7 := by rw [et1]; exact tK_N _ _ _
  refine lv_dup hx hb dX11_init_8 rfl ?_
  obtain ⟨r3, k4, hF⟩ := xb_s hF
  refine kIvA (As := []) (rest := [.ref u.1, .ref a0]) hE hl hD (c_X7_init k4) ki_X11_9 rfl rfl (Nat.le_of_ble_eq_true rfl) dX11_init_9 ⟨Nat.le_of_ble_eq_true rfl, Nat.le_of_ble_eq_true rfl⟩ ⟨(by show 0 + 1 + 15 ≤ 42; omega), (by show 0 + 11 + 389 ≤ 2190; omega)⟩ (fun H locs (hD : tD G _ _ r3 H locs) => ?_)
  obtain ⟨h5, hF⟩ := ite_s hF
  refine pf_X11_10 (v := (some u.1)) hE hnm hD h5 dX11_init_12 (fun t6 H locs et6 hD => ?_)
  have hF := xlet_e hF et6
  have h7 : tK t6 a0 = 11 := by rw [et6]; exact h5
  refine lv_aload_n hx hb dX11_init_15 rfl (lv_at hl 0 rfl) ?_
  refine tn_X11_7 hE hD (by show 0 + 1 + 15 + 1 ≤ 42; omega) (by show 0 + 11 + 389 + 11 ≤ 2190; omega) dX11_init_16 (fun t8 H et8 hD => ?_)
  have hF := xlet_e hF et8
  have h9 : tK t8 t6.1 = 7 := by rw [et8]; exact tK_N _ _ _
  refine lv_dup hx hb dX11_init_19 rfl ?_
  obtain ⟨r10, k11, hF⟩ := xb_s hF
  refine kIvA (As := []) (rest := [.ref t6.1, .ref a0]) hE hl hD (c_X7_init k11) ki_X11_9 rfl rfl (Nat.le_of_ble_eq_true rfl) dX11_init_20 ⟨Nat.le_of_ble_eq_true rfl, Nat.le_of_ble_eq_true rfl⟩ ⟨(by show 0 + 1 + 15 + 1 + 15 ≤ 42; omega), (by show 0 + 11 + 389 + 11 + 389 ≤ 2190; omega)⟩ (fun H locs (hD : tD G _ _ r10 H locs) => ?_)
  obtain ⟨h12, hF⟩ := ite_s hF
  refine pf_X11_16 (v := (some t6.1)) hE hnm hD h12 dX11_init_23 (fun t13 H locs et13 hD => ?_)
  have hF := xlet_e hF et13
  have h14 : tK t13 a0 = 11 := by rw [et13]; exact h12
  refine lv_aload_n hx hb dX11_init_26 rfl (lv_at hl 0 rfl) ?_
  refine lv_iconst (v := (0 : Int32)) hx hb dX11_init_27 (by decide) ?_
  refine pf_X11_19 hE hD h14 (by decide) dX11_init_28 (fun t15 H locs et15 hD => ?_)
  have hF := xlet_e hF et15
  have h16 : tK t15 a0 = 11 := by rw [et15]; exact h14
  refine lv_aload_n hx hb dX11_init_31 rfl (lv_at hl 0 rfl) ?_
  refine lv_sipush (v := (200 : Int32)) hx hb dX11_init_32 (by decide) ?_
  refine t_newI (N := 200) hE hD (by decide) (by decide) (Nat.le_of_ble_eq_true rfl) (by show 0 + 1 + 15 + 1 + 15 + 1 ≤ 42; omega) (by show 0 + 11 + 389 + 11 + 389 + 200 ≤ 2190; omega) dX11_init_35 (fun t17 H et17 hD => ?_)
  have hF := xlet_e hF et17
  have h18 : tK t17 t15.1 = 20 := by rw [et17]; exact tK_N _ _ _
  obtain ⟨h19, hF⟩ := ite_s hF
  refine pf_X11_23 (v := (some t15.1)) hE hnm hD h19 dX11_init_37 (fun t20 H locs et20 hD => ?_)
  have hF := xlet_e hF et20
  have h21 : tK t20 t15.1 = 20 := by rw [et20]; exact h18
  have h22 : tK t20 a0 = 11 := by rw [et20]; exact h19
  refine lv_aload_n hx hb dX11_init_40 rfl (lv_at hl 0 rfl) ?_
  refine lv_iconst (v := (0 : Int32)) hx hb dX11_init_41 (by decide) ?_
  refine pf_X11_27 hE hD h22 dX11_init_42 (fun t23 H locs et23 hD => ?_)
  have hF := xlet_e hF et23
  have h24 : tK t23 t15.1 = 20 := by rw [et23]; exact h21
  have h25 : tK t23 a0 = 11 := by rw [et23]; exact h22
  refine lv_aload_n hx hb dX11_init_45 rfl (lv_at hl 0 rfl) ?_
  refine lv_bipush (v := (60 : Int32)) hx hb dX11_init_46 (by decide) ?_
  refine t_newI (N := 60) hE hD (by decide) (by decide) (Nat.le_of_ble_eq_true rfl) (by show 0 + 1 + 15 + 1 + 15 + 1 + 1 ≤ 42; omega) (by show 0 + 11 + 389 + 11 + 389 + 200 + 60 ≤ 2190; omega) dX11_init_48 (fun t26 H et26 hD => ?_)
  have hF := xlet_e hF et26
  have h27 : tK t26 t23.1 = 20 := by rw [et26]; exact tK_N _ _ _
  obtain ⟨h28, hF⟩ := ite_s hF
  refine pf_X11_31 (v := (some t23.1)) hE hnm hD h28 dX11_init_50 (fun t29 H locs et29 hD => ?_)
  have hF := xlet_e hF et29
  have h30 : tK t29 t23.1 = 20 := by rw [et29]; exact h27
  have h31 : tK t29 a0 = 11 := by rw [et29]; exact h28
  refine lv_aload_n hx hb dX11_init_53 rfl (lv_at hl 0 rfl) ?_
  refine lv_iconst (v := (0 : Int32)) hx hb dX11_init_54 (by decide) ?_
  refine pf_X11_34 hE hD h31 dX11_init_55 (fun t32 H locs et32 hD => ?_)
  have hF := xlet_e hF et32
  have h33 : tK t32 t23.1 = 20 := by rw [et32]; exact h30
  have h34 : tK t32 a0 = 11 := by rw [et32]; exact h31
  refine lv_aload_n hx hb dX11_init_58 rfl (lv_at hl 0 rfl) ?_
  refine lv_iconst (v := (4 : Int32)) hx hb dX11_init_59 (by decide) ?_
  refine t_newQR (N := 4) hE hD kw1_120 (by decide) (by decide) (Nat.le_of_ble_eq_true rfl) (by show 0 + 1 + 15 + 1 + 15 + 1 + 1 + 1 ≤ 42; omega) (by show 0 + 11 + 389 + 11 + 389 + 200 + 60 + 4 ≤ 2190; omega) dX11_init_60 (fun t35 H et35 hD => ?_)
  have hF := xlet_e hF et35
  have h36 : tK t35 t32.1 = 23 := by rw [et35]; exact tK_N _ _ _
  obtain ⟨h37, hF⟩ := ite_s hF
  refine pf_X11_39 (v := (some t32.1)) hE hnm hD h37 dX11_init_63 (fun t38 H locs et38 hD => ?_)
  have hF := xlet_e hF et38
  have h39 : tK t38 t32.1 = 23 := by rw [et38]; exact h36
  have h40 : tK t38 a0 = 11 := by rw [et38]; exact h37
  refine lv_aload_n hx hb dX11_init_66 rfl (lv_at hl 0 rfl) ?_
  refine lv_iconst (v := (4 : Int32)) hx hb dX11_init_67 (by decide) ?_
  refine t_newI (N := 4) hE hD (by decide) (by decide) (Nat.le_of_ble_eq_true rfl) (by show 0 + 1 + 15 + 1 + 15 + 1 + 1 + 1 + 1 ≤ 42; omega) (by show 0 + 11 + 389 + 11 + 389 + 200 + 60 + 4 + 4 ≤ 2190; omega) dX11_init_68 (fun t41 H et41 hD => ?_)
  have hF := xlet_e hF et41
  have h42 : tK t41 t38.1 = 20 := by rw [et41]; exact tK_N _ _ _
  refine lv_dup hx hb dX11_init_70 rfl ?_
  refine lv_iconst (v := (0 : Int32)) hx hb dX11_init_71 (by decide) ?_
  refine lv_iconst (v := (-1 : Int32)) hx hb dX11_init_72 (by decide) ?_
  obtain ⟨h43, hF⟩ := ite_s hF
  refine t_iast hE hD h42 h43 dX11_init_73 (fun t44 H locs et44 hD => ?_)
  have hF := xlet_e hF et44
  have h45 : tK t44 t38.1 = 20 := by rw [et44]; exact h42
  refine lv_dup hx hb dX11_init_74 rfl ?_
  refine lv_iconst (v := (1 : Int32)) hx hb dX11_init_75 (by decide) ?_
  refine lv_iconst (v := (-1 : Int32)) hx hb dX11_init_76 (by decide) ?_
  obtain ⟨h46, hF⟩ := ite_s hF
  refine t_iast hE hD h45 h46 dX11_init_77 (fun t47 H locs et47 hD => ?_)
  have hF := xlet_e hF et47
  have h48 : tK t47 t38.1 = 20 := by rw [et47]; exact h45
  refine lv_dup hx hb dX11_init_78 rfl ?_
  refine lv_iconst (v := (2 : Int32)) hx hb dX11_init_79 (by decide) ?_
  refine lv_iconst (v := (-1 : Int32)) hx hb dX11_init_80 (by decide) ?_
  obtain ⟨h49, hF⟩ := ite_s hF
  refine t_iast hE hD h48 h49 dX11_init_81 (fun t50 H locs et50 hD => ?_)
  have hF := xlet_e hF et50
  have h51 : tK t50 t38.1 = 20 := by rw [et50]; exact h48
  refine lv_dup hx hb dX11_init_82 rfl ?_
  refine lv_iconst (v := (3 : Int32)) hx hb dX11_init_83 (by decide) ?_
  refine lv_iconst (v := (-1 : Int32)) hx hb dX11_init_84 (by decide) ?_
  obtain ⟨h52, hF⟩ := ite_s hF
  refine t_iast hE hD h51 h52 dX11_init_85 (fun t53 H locs et53 hD => ?_)
  have hF := xlet_e hF et53
  have h54 : tK t53 t38.1 = 20 := by rw [et53]; exact h51
  obtain ⟨h55, hF⟩ := ite_s hF
  refine pf_X11_43 (v := (some t38.1)) hE hnm hD h55 dX11_init_86 (fun t56 H locs et56 hD => ?_)
  have hF := xlet_e hF et56
  have h57 : tK t56 t38.1 = 20 := by rw [et56]; exact h54
  have h58 : tK t56 a0 = 11 := by rw [et56]; exact h55
  refine lv_aload_n hx hb dX11_init_89 rfl (lv_at hl 0 rfl) ?_
  refine lv_iconst (v := (4 : Int32)) hx hb dX11_init_90 (by decide) ?_
  refine t_newQR (N := 4) hE hD kw1_120 (by decide) (by decide) (Nat.le_of_ble_eq_true rfl) (by show 0 + 1 + 15 + 1 + 15 + 1 + 1 + 1 + 1 + 1 ≤ 42; omega) (by show 0 + 11 + 389 + 11 + 389 + 200 + 60 + 4 + 4 + 4 ≤ 2190; omega) dX11_init_91 (fun t59 H et59 hD => ?_)
  have hF := xlet_e hF et59
  have h60 : tK t59 t56.1 = 23 := by rw [et59]; exact tK_N _ _ _
  obtain ⟨h61, hF⟩ := ite_s hF
  refine pf_X11_46 (v := (some t56.1)) hE hnm hD h61 dX11_init_94 (fun t62 H locs et62 hD => ?_)
  have hF := xlet_e hF et62
  have h63 : tK t62 t56.1 = 23 := by rw [et62]; exact h60
  have h64 : tK t62 a0 = 11 := by rw [et62]; exact h61
  refine lv_aload_n hx hb dX11_init_97 rfl (lv_at hl 0 rfl) ?_
  refine tn_X11_49 hE hD (by show 0 + 1 + 15 + 1 + 15 + 1 + 1 + 1 + 1 + 1 + 1 ≤ 42; omega) (by show 0 + 11 + 389 + 11 + 389 + 200 + 60 + 4 + 4 + 4 + 3 ≤ 2190; omega) dX11_init_98 (fun t65 H et65 hD => ?_)
  have hF := xlet_e hF et65
  have h66 : tK t65 t62.1 = 10 := by rw [et65]; exact tK_N _ _ _
  refine lv_dup hx hb dX11_init_101 rfl ?_
  obtain ⟨r67, k68, hF⟩ := xb_s hF
  refine kIvA (As := []) (rest := [.ref t62.1, .ref a0]) hE hl hD (c_X10_init k68) ki_X11_51 rfl rfl (Nat.le_of_ble_eq_true rfl) dX11_init_102 ⟨Nat.le_of_ble_eq_true rfl, Nat.le_of_ble_eq_true rfl⟩ ⟨(by show 0 + 1 + 15 + 1 + 15 + 1 + 1 + 1 + 1 + 1 + 1 + 1 ≤ 42; omega), (by show 0 + 11 + 389 + 11 + 389 + 200 + 60 + 4 + 4 + 4 + 3 + 30 ≤ 2190; omega)⟩ (fun H locs (hD : tD G _ _ r67 H locs) => ?_)
  obtain ⟨h69, hF⟩ := ite_s hF
  refine pf_X11_52 (v := (some t62.1)) hE hnm hD h69 dX11_init_105 (fun t70 H locs et70 hD => ?_)
  have hF := xlet_e hF et70
  have h71 : tK t70 a0 = 11 := by rw [et70]; exact h69
  refine lv_aload_n hx hb dX11_init_108 rfl (lv_at hl 0 rfl) ?_
  refine lv_sipush (v := (512 : Int32)) hx hb dX11_init_109 (by decide) ?_
  refine t_newI (N := 512) hE hD (by decide) (by decide) (Nat.le_of_ble_eq_true rfl) (by show 0 + 1 + 15 + 1 + 15 + 1 + 1 + 1 + 1 + 1 + 1 + 1 + 1 ≤ 42; omega) (by show 0 + 11 + 389 + 11 + 389 + 200 + 60 + 4 + 4 + 4 + 3 + 30 + 512 ≤ 2190; omega) dX11_init_112 (fun t72 H et72 hD => ?_)
  have hF := xlet_e hF et72
  have h73 : tK t72 t70.1 = 20 := by rw [et72]; exact tK_N _ _ _
  obtain ⟨h74, hF⟩ := ite_s hF
  refine pf_X11_56 (v := (some t70.1)) hE hnm hD h74 dX11_init_114 (fun t75 H locs et75 hD => ?_)
  have hF := xlet_e hF et75
  have h76 : tK t75 t70.1 = 20 := by rw [et75]; exact h73
  have h77 : tK t75 a0 = 11 := by rw [et75]; exact h74
  refine lv_aload_n hx hb dX11_init_117 rfl (lv_at hl 0 rfl) ?_
  refine lv_sipush (v := (512 : Int32)) hx hb dX11_init_118 (by decide) ?_
  refine t_newI (N := 512) hE hD (by decide) (by decide) (Nat.le_of_ble_eq_true rfl) (by show 0 + 1 + 15 + 1 + 15 + 1 + 1 + 1 + 1 + 1 + 1 + 1 + 1 + 1 ≤ 42; omega) (by show 0 + 11 + 389 + 11 + 389 + 200 + 60 + 4 + 4 + 4 + 3 + 30 + 512 + 512 ≤ 2190; omega) dX11_init_121 (fun t78 H et78 hD => ?_)
  have hF := xlet_e hF et78
  have h79 : tK t78 t75.1 = 20 := by rw [et78]; exact tK_N _ _ _
  obtain ⟨h80, hF⟩ := ite_s hF
  refine pf_X11_59 (v := (some t75.1)) hE hnm hD h80 dX11_init_123 (fun t81 H locs et81 hD => ?_)
  have hF := xlet_e hF et81
  have h82 : tK t81 t75.1 = 20 := by rw [et81]; exact h79
  have h83 : tK t81 a0 = 11 := by rw [et81]; exact h80
  refine lv_aload_n hx hb dX11_init_126 rfl (lv_at hl 0 rfl) ?_
  refine lv_bipush (v := (61 : Int32)) hx hb dX11_init_127 (by decide) ?_
  refine t_newI (N := 61) hE hD (by decide) (by decide) (Nat.le_of_ble_eq_true rfl) (by show 0 + 1 + 15 + 1 + 15 + 1 + 1 + 1 + 1 + 1 + 1 + 1 + 1 + 1 + 1 ≤ 42; omega) (by show 0 + 11 + 389 + 11 + 389 + 200 + 60 + 4 + 4 + 4 + 3 + 30 + 512 + 512 + 61 ≤ 2190; omega) dX11_init_129 (fun t84 H et84 hD => ?_)
  have hF := xlet_e hF et84
  have h85 : tK t84 t81.1 = 20 := by rw [et84]; exact tK_N _ _ _
  obtain ⟨h86, hF⟩ := ite_s hF
  refine pf_X11_62 (v := (some t81.1)) hE hnm hD h86 dX11_init_131 (fun t87 H locs et87 hD => ?_)
  have hF := xlet_e hF et87
  have h88 : tK t87 t81.1 = 20 := by rw [et87]; exact h85
  have h89 : tK t87 a0 = 11 := by rw [et87]; exact h86
  obtain rfl := Option.some.inj hF
  exact x_vret hE hD rfl (by omega) (by omega) dX11_init_134
def F_X11_isIn_j15 (s0 : Int32) : Option Int32 := if s0 = 0 ∨ s0 = 1 then some s0 else none
theorem B_X11_isIn_j15 {p : Program} {l : Launch} {e : Env} {s : State} {m : MethodId} {args : Array Value} {below : List Frame} {meth : Method} {cd : Code} {G : xG} {w0 : xW} {w : xW} {sz : Nat} {rr : Int32} (hE : xE p s m args meth cd cX11_isIn RX11 G 3 (Option.some Jvm.ClassFile.FieldType.boolean)) {s0 : Int32} {H : Heap} {locs : List Loc} {ls : Array Slot} (hD : xD G (xA w0 s.heap.size) s.heap w sz H locs) (hl : lv_has ls 3 []) (hF : F_X11_isIn_j15 s0 = some rr) : W p l e (xR 2 0 0) s m args below meth cd H locs 0 0 (xQi G w0 (fun r z => r = rr ∧ (rr = 0 ∨ rr = 1) ∧ z = (w, sz)) below args s 0 0) (F0 m 15 ls [.int s0]) := by
  have hx := hE.1; have hb := hE.2.1
  unfold F_X11_isIn_j15 at hF
  obtain ⟨h1, hF⟩ := ite_s hF
  obtain rfl := Option.some.inj hF
  exact x_zret hE hD h1 ⟨rfl, h1, rfl⟩ (by omega) (by omega) dX11_isIn_15
def F_X11_isIn_j14  : Option Int32 := F_X11_isIn_j15 (0 : Int32)
theorem B_X11_isIn_j14 {p : Program} {l : Launch} {e : Env} {s : State} {m : MethodId} {args : Array Value} {below : List Frame} {meth : Method} {cd : Code} {G : xG} {w0 : xW} {w : xW} {sz : Nat} {rr : Int32} (hE : xE p s m args meth cd cX11_isIn RX11 G 3 (Option.some Jvm.ClassFile.FieldType.boolean))  {H : Heap} {locs : List Loc} {ls : Array Slot} (hD : xD G (xA w0 s.heap.size) s.heap w sz H locs) (hl : lv_has ls 3 []) (hF : F_X11_isIn_j14  = some rr) : W p l e (xR 2 0 0) s m args below meth cd H locs 0 0 (xQi G w0 (fun r z => r = rr ∧ (rr = 0 ∨ rr = 1) ∧ z = (w, sz)) below args s 0 0) (F0 m 14 ls []) := by
  have hx := hE.1; have hb := hE.2.1
  unfold F_X11_isIn_j14 at hF
  refine lv_iconst (v := (0 : Int32)) hx hb dX11_isIn_14 (by decide) ?_
  exact B_X11_isIn_j15 hE hD (lv_sub hl [] rfl) hF
def F_X11_isIn (xa : Int32) (xb : Int32) (xc : Int32) : Option Int32 := if xa < xb then F_X11_isIn_j14 else if xc < xa then F_X11_isIn_j14 else F_X11_isIn_j15 (1 : Int32)
theorem c_X11_isIn {l : Launch} {G : xG} {w : xW} {sz : Nat} {rr : Int32} {xa : Int32} {xb : Int32} {xc : Int32} (hF : F_X11_isIn xa xb xc = some rr) : xMi l G yX11_isIn cX11_isIn 3 (Option.some Jvm.ClassFile.FieldType.boolean) 2 0 0 [.int xa, .int xb, .int xc] w sz (fun r z => r = rr ∧ (rr = 0 ∨ rr = 1) ∧ z = (w, sz)) := by
  unfold F_X11_isIn at hF
  refine x_startI rfl (Nat.le_of_ble_eq_true rfl) (fun p e s m args below meth cd ls hE hnm hl hD => ?_)
  have hx := hE.1; have hb := hE.2.1
  have hl : lv_has ls 3 [(0, .int xa), (1, .int xb), (2, .int xc)] := hl
  refine lv_iload_n hx hb dX11_isIn_0 rfl (lv_at hl 0 rfl) ?_
  refine lv_iload_n hx hb dX11_isIn_1 rfl (lv_at hl 1 rfl) ?_
  refine lv_icmp_lt (tgt := 14) hx hb dX11_isIn_2 (by decide) (fun c2 => ?_) (fun c2 => ?_)
  · have hF := ite_p hF c2
    exact B_X11_isIn_j14 hE hD (lv_sub hl [] rfl) hF
  · have hF := ite_n hF c2
    refine lv_iload_n hx hb dX11_isIn_5 rfl (lv_at hl 0 rfl) ?_
    refine lv_iload_n hx hb dX11_isIn_6 rfl (lv_at hl 2 rfl) ?_
    refine lv_icmp_gt (tgt := 14) hx hb dX11_isIn_7 (by decide) (fun c3 => ?_) (fun c3 => ?_)
    · have hF := ite_p hF c3
      exact B_X11_isIn_j14 hE hD (lv_sub hl [] rfl) hF
    · have hF := ite_n hF c3
      refine lv_iconst (v := (1 : Int32)) hx hb dX11_isIn_10 (by decide) ?_
      refine lv_goto (tgt := 15) hx hb dX11_isIn_11 (by decide) ?_
      exact B_X11_isIn_j15 hE hD (lv_sub hl [] rfl) hF
def F_X11_isBuilt (xa : Int32) : Option Int32 := (F_X11_isIn xa (1 : Int32) (5 : Int32)).bind (fun r1 => some r1)
theorem c_X11_isBuilt {l : Launch} {G : xG} {w : xW} {sz : Nat} {rr : Int32} {xa : Int32} (hF : F_X11_isBuilt xa = some rr) : xMi l G yX11_isBuilt cX11_isBuilt 1 (Option.some Jvm.ClassFile.FieldType.boolean) 3 0 0 [.int xa] w sz (fun r z => r = rr ∧ (rr = 0 ∨ rr = 1) ∧ z = (w, sz)) := by
  unfold F_X11_isBuilt at hF
  refine x_startI rfl (Nat.le_of_ble_eq_true rfl) (fun p e s m args below meth cd ls hE hnm hl hD => ?_)
  have hx := hE.1; have hb := hE.2.1
  have hl : lv_has ls 1 [(0, .int xa)] := hl
  refine lv_iload_n hx hb dX11_isBuilt_0 rfl (lv_at hl 0 rfl) ?_
  refine lv_iconst (v := (1 : Int32)) hx hb dX11_isBuilt_1 (by decide) ?_
  refine lv_iconst (v := (5 : Int32)) hx hb dX11_isBuilt_2 (by decide) ?_
  obtain ⟨r1, k2, hF⟩ := xb_s hF
  refine kSz (As := [.int xa, .int (1 : Int32), .int (5 : Int32)]) (rest := []) hE hl hD (c_X11_isIn k2) kl_X11_183 rfl rfl (Nat.le_of_ble_eq_true rfl) dX11_isBuilt_3 ⟨Nat.le_of_ble_eq_true rfl, Nat.le_of_ble_eq_true rfl⟩ ⟨Nat.le_of_ble_eq_true rfl, Nat.le_of_ble_eq_true rfl⟩ (fun H locs z3 (hD : xD G _ _ w sz H locs) => ?_)
  obtain rfl := Option.some.inj hF
  exact x_zret hE hD z3 ⟨rfl, z3, rfl⟩ (by omega) (by omega) dX11_isBuilt_6
def F_X11_isDay (xa : Int32) : Option Int32 := (F_X11_isIn xa (0 : Int32) (6 : Int32)).bind (fun r1 => some r1)
theorem c_X11_isDay {l : Launch} {G : xG} {w : xW} {sz : Nat} {rr : Int32} {xa : Int32} (hF : F_X11_isDay xa = some rr) : xMi l G yX11_isDay cX11_isDay 1 (Option.some Jvm.ClassFile.FieldType.boolean) 3 0 0 [.int xa] w sz (fun r z => r = rr ∧ (rr = 0 ∨ rr = 1) ∧ z = (w, sz)) := by
  unfold F_X11_isDay at hF
  refine x_startI rfl (Nat.le_of_ble_eq_true rfl) (fun p e s m args below meth cd ls hE hnm hl hD => ?_)
  have hx := hE.1; have hb := hE.2.1
  have hl : lv_has ls 1 [(0, .int xa)] := hl
  refine lv_iload_n hx hb dX11_isDay_0 rfl (lv_at hl 0 rfl) ?_
  refine lv_iconst (v := (0 : Int32)) hx hb dX11_isDay_1 (by decide) ?_
  refine lv_bipush (v := (6 : Int32)) hx hb dX11_isDay_2 (by decide) ?_
  obtain ⟨r1, k2, hF⟩ := xb_s hF
  refine kSz (As := [.int xa, .int (0 : Int32), .int (6 : Int32)]) (rest := []) hE hl hD (c_X11_isIn k2) kl_X11_183 rfl rfl (Nat.le_of_ble_eq_true rfl) dX11_isDay_4 ⟨Nat.le_of_ble_eq_true rfl, Nat.le_of_ble_eq_true rfl⟩ ⟨Nat.le_of_ble_eq_true rfl, Nat.le_of_ble_eq_true rfl⟩ (fun H locs z3 (hD : xD G _ _ w sz H locs) => ?_)
  obtain rfl := Option.some.inj hF
  exact x_zret hE hD z3 ⟨rfl, z3, rfl⟩ (by omega) (by omega) dX11_isDay_7
def F_X11_isTimes (xa : Int32) : Option Int32 := (F_X11_isIn xa (1 : Int32) (9 : Int32)).bind (fun r1 => some r1)
theorem c_X11_isTimes {l : Launch} {G : xG} {w : xW} {sz : Nat} {rr : Int32} {xa : Int32} (hF : F_X11_isTimes xa = some rr) : xMi l G yX11_isTimes cX11_isTimes 1 (Option.some Jvm.ClassFile.FieldType.boolean) 3 0 0 [.int xa] w sz (fun r z => r = rr ∧ (rr = 0 ∨ rr = 1) ∧ z = (w, sz)) := by
  unfold F_X11_isTimes at hF
  refine x_startI rfl (Nat.le_of_ble_eq_true rfl) (fun p e s m args below meth cd ls hE hnm hl hD => ?_)
  have hx := hE.1; have hb := hE.2.1
  have hl : lv_has ls 1 [(0, .int xa)] := hl
  refine lv_iload_n hx hb dX11_isTimes_0 rfl (lv_at hl 0 rfl) ?_
  refine lv_iconst (v := (1 : Int32)) hx hb dX11_isTimes_1 (by decide) ?_
  refine lv_bipush (v := (9 : Int32)) hx hb dX11_isTimes_2 (by decide) ?_
  obtain ⟨r1, k2, hF⟩ := xb_s hF
  refine kSz (As := [.int xa, .int (1 : Int32), .int (9 : Int32)]) (rest := []) hE hl hD (c_X11_isIn k2) kl_X11_183 rfl rfl (Nat.le_of_ble_eq_true rfl) dX11_isTimes_4 ⟨Nat.le_of_ble_eq_true rfl, Nat.le_of_ble_eq_true rfl⟩ ⟨Nat.le_of_ble_eq_true rfl, Nat.le_of_ble_eq_true rfl⟩ (fun H locs z3 (hD : xD G _ _ w sz H locs) => ?_)
  obtain rfl := Option.some.inj hF
  exact x_zret hE hD z3 ⟨rfl, z3, rfl⟩ (by omega) (by omega) dX11_isTimes_7
def F_X11_isToll (xa : Int32) : Option Int32 := (F_X11_isIn xa (0 : Int32) (999 : Int32)).bind (fun r1 => some r1)
theorem c_X11_isToll {l : Launch} {G : xG} {w : xW} {sz : Nat} {rr : Int32} {xa : Int32} (hF : F_X11_isToll xa = some rr) : xMi l G yX11_isToll cX11_isToll 1 (Option.some Jvm.ClassFile.FieldType.boolean) 3 0 0 [.int xa] w sz (fun r z => r = rr ∧ (rr = 0 ∨ rr = 1) ∧ z = (w, sz)) := by
  unfold F_X11_isToll at hF
  refine x_startI rfl (Nat.le_of_ble_eq_true rfl) (fun p e s m args below meth cd ls hE hnm hl hD => ?_)
  have hx := hE.1; have hb := hE.2.1
  have hl : lv_has ls 1 [(0, .int xa)] := hl
  refine lv_iload_n hx hb dX11_isToll_0 rfl (lv_at hl 0 rfl) ?_
  refine lv_iconst (v := (0 : Int32)) hx hb dX11_isToll_1 (by decide) ?_
  refine lv_sipush (v := (999 : Int32)) hx hb dX11_isToll_2 (by decide) ?_
  obtain ⟨r1, k2, hF⟩ := xb_s hF
  refine kSz (As := [.int xa, .int (0 : Int32), .int (999 : Int32)]) (rest := []) hE hl hD (c_X11_isIn k2) kl_X11_183 rfl rfl (Nat.le_of_ble_eq_true rfl) dX11_isToll_5 ⟨Nat.le_of_ble_eq_true rfl, Nat.le_of_ble_eq_true rfl⟩ ⟨Nat.le_of_ble_eq_true rfl, Nat.le_of_ble_eq_true rfl⟩ (fun H locs z3 (hD : xD G _ _ w sz H locs) => ?_)
  obtain rfl := Option.some.inj hF
  exact x_zret hE hD z3 ⟨rfl, z3, rfl⟩ (by omega) (by omega) dX11_isToll_8
