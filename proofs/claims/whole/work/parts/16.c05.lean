/-! ===== the class: walks 5 (printed by wip/whole/gen) ===== -/
def F_X11_bridge_j29 (u : xT) (a0 : Nat) : Option (Int32 × xT) := some ((-1 : Int32), u)
theorem B_X11_bridge_j29 {p : Program} {l : Launch} {e : Env} {s : State} {m : MethodId} {args : Array Value} {below : List Frame} {meth : Method} {cd : Code} {G : xG} {w0 : xW} {rr : (Int32 × xT)} (hE : xE p s m args meth cd cX11_bridge RX11 G 5 (Option.some Jvm.ClassFile.FieldType.int)) {u : xT} {a0 : Nat} {H : Heap} {locs : List Loc} {ls : Array Slot} {cells slots : Nat} (hcc : cells + 0 ≤ 1) (hkk : slots + 0 ≤ 8) (hD : tD G (xA w0 s.heap.size) s.heap u H locs) (hl : lv_has ls 5 [(0, .ref a0)]) (hF : F_X11_bridge_j29 u a0 = some rr) : W p l e (xR 8 1 8) s m args below meth cd H locs cells slots (xQi G w0 (fun r z => r = rr.1 ∧ z = ((tE G rr.2), rr.2.1)) below args s 1 8) (F0 m 29 ls []) := by
  have hx := hE.1; have hb := hE.2.1
  unfold F_X11_bridge_j29 at hF
  refine lv_iconst (v := (-1 : Int32)) hx hb dX11_bridge_29 (by decide) ?_
  obtain rfl := Option.some.inj hF
  exact x_iret hE hD ⟨rfl, rfl⟩ (by omega) (by omega) dX11_bridge_30
def F_X11_bridge (u : xT) (a0 : Nat) (xa : Int32) (xb : Int32) (xc : Int32) (xd : Int32) : Option (Int32 × xT) := (F_X11_isBuilt xa).bind (fun r1 => if r1 = 0 then F_X11_bridge_j29 u a0 else (F_X11_isTimes xb).bind (fun r5 => if r5 = 0 then F_X11_bridge_j29 u a0 else (F_X11_isToll xc).bind (fun r9 => if r9 = 0 then F_X11_bridge_j29 u a0 else (F_X11_isDay xd).bind (fun r13 => if r13 = 0 then F_X11_bridge_j29 u a0 else if tK u a0 = 11 then (tP u a0 0).bind (fun q18 => if tK u q18 = 7 then (F_X7_build u q18 xa xb xc xd).bind (fun r21 => some (r21.1, r21.2)) else none) else none))))
theorem c_X11_bridge {l : Launch} {G : xG} {rr : (Int32 × xT)} {u : xT} {a0 : Nat} {xa : Int32} {xb : Int32} {xc : Int32} {xd : Int32} (hF : F_X11_bridge u a0 xa xb xc xd = some rr) : xMi l G yX11_bridge cX11_bridge 5 (Option.some Jvm.ClassFile.FieldType.int) 8 1 8 [.ref a0, .int xa, .int xb, .int xc, .int xd] (tE G u) u.1 (fun r z => r = rr.1 ∧ z = ((tE G rr.2), rr.2.1)) := by
  unfold F_X11_bridge at hF
  refine x_startI rfl (Nat.le_of_ble_eq_true rfl) (fun p e s m args below meth cd ls hE hnm hl hD => ?_)
  have hx := hE.1; have hb := hE.2.1
  have hl : lv_has ls 5 [(0, .ref a0), (1, .int xa), (2, .int xb), (3, .int xc), (4, .int xd)] := hl
  have hD : tD G (xA (tE G u) s.heap.size) s.heap u s.heap [] := hD
  refine lv_iload_n hx hb dX11_bridge_0 rfl (lv_at hl 1 rfl) ?_
  obtain ⟨r1, k2, hF⟩ := xb_s hF
  refine kSz (As := [.int xa]) (rest := []) hE hl hD (c_X11_isBuilt k2) kl_X11_65 rfl rfl (Nat.le_of_ble_eq_true rfl) dX11_bridge_1 ⟨Nat.le_of_ble_eq_true rfl, Nat.le_of_ble_eq_true rfl⟩ ⟨(by show 0 ≤ 1; omega), (by show 0 ≤ 8; omega)⟩ (fun H locs z3 (hD : tD G _ _ u H locs) => ?_)
  refine lv_if_eq (tgt := 29) hx hb dX11_bridge_4 (by decide) (fun c4 => ?_) (fun c4 => ?_)
  · have hF := ite_p hF c4
    exact B_X11_bridge_j29 hE (by omega) (by omega) hD (lv_sub hl [0] rfl) hF
  · have hF := ite_n hF c4
    refine lv_iload_n hx hb dX11_bridge_7 rfl (lv_at hl 2 rfl) ?_
    obtain ⟨r5, k6, hF⟩ := xb_s hF
    refine kSz (As := [.int xb]) (rest := []) hE hl hD (c_X11_isTimes k6) kl_X11_69 rfl rfl (Nat.le_of_ble_eq_true rfl) dX11_bridge_8 ⟨Nat.le_of_ble_eq_true rfl, Nat.le_of_ble_eq_true rfl⟩ ⟨(by show 0 ≤ 1; omega), (by show 0 ≤ 8; omega)⟩ (fun H locs z7 (hD : tD G _ _ u H locs) => ?_)
    refine lv_if_eq (tgt := 29) hx hb dX11_bridge_11 (by decide) (fun c8 => ?_) (fun c8 => ?_)
    · have hF := ite_p hF c8
      exact B_X11_bridge_j29 hE (by omega) (by omega) hD (lv_sub hl [0] rfl) hF
    · have hF := ite_n hF c8
      refine lv_iload_n hx hb dX11_bridge_14 rfl (lv_at hl 3 rfl) ?_
      obtain ⟨r9, k10, hF⟩ := xb_s hF
      refine kSz (As := [.int xc]) (rest := []) hE hl hD (c_X11_isToll k10) kl_X11_72 rfl rfl (Nat.le_of_ble_eq_true rfl) dX11_bridge_15 ⟨Nat.le_of_ble_eq_true rfl, Nat.le_of_ble_eq_true rfl⟩ ⟨(by show 0 ≤ 1; omega), (by show 0 ≤ 8; omega)⟩ (fun H locs z11 (hD : tD G _ _ u H locs) => ?_)
      refine lv_if_eq (tgt := 29) hx hb dX11_bridge_18 (by decide) (fun c12 => ?_) (fun c12 => ?_)
      · have hF := ite_p hF c12
        exact B_X11_bridge_j29 hE (by omega) (by omega) hD (lv_sub hl [0] rfl) hF
      · have hF := ite_n hF c12
        refine lv_iload hx hb dX11_bridge_21 (lv_at hl 4 rfl) ?_
        obtain ⟨r13, k14, hF⟩ := xb_s hF
        refine kSz (As := [.int xd]) (rest := []) hE hl hD (c_X11_isDay k14) kl_X11_75 rfl rfl (Nat.le_of_ble_eq_true rfl) dX11_bridge_23 ⟨Nat.le_of_ble_eq_true rfl, Nat.le_of_ble_eq_true rfl⟩ ⟨(by show 0 ≤ 1; omega), (by show 0 ≤ 8; omega)⟩ (fun H locs z15 (hD : tD G _ _ u H locs) => ?_)
        refine lv_if_ne (tgt := 31) hx hb dX11_bridge_26 (by decide) (fun c16 => ?_) (fun c16 => ?_)
        · have hF := ite_n hF c16
          refine lv_aload_n hx hb dX11_bridge_31 rfl (lv_at hl 0 rfl) ?_
          obtain ⟨h17, hF⟩ := ite_s hF
          obtain ⟨q18, h19, hF⟩ := xb_s hF
          refine gr_X11_10 hE hD h17 h19 dX11_bridge_32 ?_
          refine lv_iload_n hx hb dX11_bridge_35 rfl (lv_at hl 1 rfl) ?_
          refine lv_iload_n hx hb dX11_bridge_36 rfl (lv_at hl 2 rfl) ?_
          refine lv_iload_n hx hb dX11_bridge_37 rfl (lv_at hl 3 rfl) ?_
          refine lv_iload hx hb dX11_bridge_38 (lv_at hl 4 rfl) ?_
          obtain ⟨h20, hF⟩ := ite_s hF
          obtain ⟨r21, k22, hF⟩ := xb_s hF
          refine kViA (As := [.int xa, .int xb, .int xc, .int xd]) (rest := []) hE hl hD (c_X7_build k22) kl_X11_78 (tE_7 h20) rfl rfl rfl rfl (Nat.le_of_ble_eq_true rfl) dX11_bridge_40 ⟨Nat.le_of_ble_eq_true rfl, Nat.le_of_ble_eq_true rfl⟩ ⟨(by show 0 + 1 ≤ 1; omega), (by show 0 + 8 ≤ 8; omega)⟩ (fun H locs (hD : tD G _ _ r21.2 H locs) => ?_)
          obtain rfl := Option.some.inj hF
          exact x_iret hE hD ⟨rfl, rfl⟩ (by omega) (by omega) dX11_bridge_43
        · have hF := ite_p hF c16
          exact B_X11_bridge_j29 hE (by omega) (by omega) hD (lv_sub hl [0] rfl) hF
def F_X11_bridgeOf_j102 (u : xT) (a0 : Nat) (s0 : Int32) : Option Int32 := some s0
theorem B_X11_bridgeOf_j102 {p : Program} {l : Launch} {e : Env} {s : State} {m : MethodId} {args : Array Value} {below : List Frame} {meth : Method} {cd : Code} {G : xG} {w0 : xW} {rr : Int32} (hE : xE p s m args meth cd cX11_bridgeOf RX11 G 4 (Option.some Jvm.ClassFile.FieldType.int)) {u : xT} {a0 : Nat} {s0 : Int32} {H : Heap} {locs : List Loc} {ls : Array Slot} (hD : tD G (xA w0 s.heap.size) s.heap u H locs) (hl : lv_has ls 4 [(0, .ref a0)]) (hF : F_X11_bridgeOf_j102 u a0 s0 = some rr) : W p l e (xR 3 0 0) s m args below meth cd H locs 0 0 (xQi G w0 (fun r z => r = rr ∧ z = ((tE G u), u.1)) below args s 0 0) (F0 m 102 ls [.int s0]) := by
  have hx := hE.1; have hb := hE.2.1
  unfold F_X11_bridgeOf_j102 at hF
  obtain rfl := Option.some.inj hF
  exact x_iret hE hD ⟨rfl, rfl⟩ (by omega) (by omega) dX11_bridgeOf_102
def F_X11_bridgeOf (u : xT) (a0 : Nat) (xa : Int32) (xb : Int32) : Option Int32 := if tK u a0 = 11 then (tP u a0 0).bind (fun q2 => if tK u q2 = 7 then (F_X7_bridgeAt u q2 xa).bind (fun r5 => xopt (r5) (some (-1 : Int32)) (fun q7 => (if xb = (0 : Int32) then if isBk (tK u q7) then some (tI u q7 0) else none else (if xb = (1 : Int32) then if isBk (tK u q7) then some (tI u q7 2) else none else (if xb = (2 : Int32) then if isBk (tK u q7) then some (tI u q7 3) else none else (if xb = (3 : Int32) then if isBk (tK u q7) then some (tI u q7 4) else none else (if xb = (4 : Int32) then if isBk (tK u q7) then some (tI u q7 5) else none else (if xb = (5 : Int32) then if isBk (tK u q7) then some (tI u q7 6) else none else (if xb = (6 : Int32) then if isBk (tK u q7) then if (tI u q7 7) = 0 then F_X11_bridgeOf_j102 u a0 (0 : Int32) else F_X11_bridgeOf_j102 u a0 (1 : Int32) else none else some (-1 : Int32)))))))))) else none) else none
theorem c_X11_bridgeOf {l : Launch} {G : xG} {rr : Int32} {u : xT} {a0 : Nat} {xa : Int32} {xb : Int32} (hF : F_X11_bridgeOf u a0 xa xb = some rr) : xMi l G yX11_bridgeOf cX11_bridgeOf 4 (Option.some Jvm.ClassFile.FieldType.int) 3 0 0 [.ref a0, .int xa, .int xb] (tE G u) u.1 (fun r z => r = rr ∧ z = ((tE G u), u.1)) := by
  unfold F_X11_bridgeOf at hF
  refine x_startI rfl (Nat.le_of_ble_eq_true rfl) (fun p e s m args below meth cd ls hE hnm hl hD => ?_)
  have hx := hE.1; have hb := hE.2.1
  have hl : lv_has ls 4 [(0, .ref a0), (1, .int xa), (2, .int xb)] := hl
  have hD : tD G (xA (tE G u) s.heap.size) s.heap u s.heap [] := hD
  refine lv_aload_n hx hb dX11_bridgeOf_0 rfl (lv_at hl 0 rfl) ?_
  obtain ⟨h1, hF⟩ := ite_s hF
  obtain ⟨q2, h3, hF⟩ := xb_s hF
  refine gr_X11_10 hE hD h1 h3 dX11_bridgeOf_1 ?_
  refine lv_iload_n hx hb dX11_bridgeOf_4 rfl (lv_at hl 1 rfl) ?_
  obtain ⟨h4, hF⟩ := ite_s hF
  obtain ⟨r5, k6, hF⟩ := xb_s hF
  refine kVq (As := [.int xa]) (rest := []) hE hl hD (c_X7_bridgeAt k6) kl_X11_82 (tE_7 h4) rfl rfl rfl rfl (Nat.le_of_ble_eq_true rfl) dX11_bridgeOf_5 ⟨Nat.le_of_ble_eq_true rfl, Nat.le_of_ble_eq_true rfl⟩ ⟨Nat.le_of_ble_eq_true rfl, Nat.le_of_ble_eq_true rfl⟩ (fun H locs (hD : tD G _ _ u H locs) => ?_)
  refine t_split hF (fun h8 hF => ?_) (fun q7 h8 hF => ?_)
  · refine lv_astore_nN (lv' := [(3, .null), (0, .ref a0), (1, .int xa), (2, .int xb)]) hx hb dX11_bridgeOf_8 rfl hl (by decide) rfl (fun ls hl => ?_)
    refine lv_aload_nN hx hb dX11_bridgeOf_9 rfl (lv_at hl 0 rfl) ?_
    refine lv_ifnonnullN hx hb dX11_bridgeOf_10 ?_
    refine lv_iconst (v := (-1 : Int32)) hx hb dX11_bridgeOf_13 (by decide) ?_
    obtain rfl := Option.some.inj hF
    exact x_iret hE hD ⟨rfl, rfl⟩ (by omega) (by omega) dX11_bridgeOf_14
  · refine lv_astore_n (lv' := [(3, .ref q7), (0, .ref a0), (1, .int xa), (2, .int xb)]) hx hb dX11_bridgeOf_8 rfl hl (by decide) rfl (fun ls hl => ?_)
    refine lv_aload_n hx hb dX11_bridgeOf_9 rfl (lv_at hl 0 rfl) ?_
    refine lv_ifnonnull (tgt := 15) hx hb dX11_bridgeOf_10 (by decide) ?_
    refine lv_iload_n hx hb dX11_bridgeOf_15 rfl (lv_at hl 3 rfl) ?_
    by_cases c9 : xb = (0 : Int32)
    · have hF := ite_p hF c9
      refine lv_tableIn (off := 44) (tgt := 60) hx hb dX11_bridgeOf_16 (by rw [c9]; decide) (by rw [c9]; decide) (by rw [c9]; rfl) (by decide) ?_
      refine lv_aload_n hx hb dX11_bridgeOf_60 rfl (lv_at hl 0 rfl) ?_
      obtain ⟨h10, hF⟩ := ite_s hF
      refine gf_X11_86 hE hD h10 dX11_bridgeOf_61 ?_
      obtain rfl := Option.some.inj hF
      exact x_iret hE hD ⟨rfl, rfl⟩ (by omega) (by omega) dX11_bridgeOf_64
    · have hF := ite_n hF c9
      by_cases c11 : xb = (1 : Int32)
      · have hF := ite_p hF c11
        refine lv_tableIn (off := 49) (tgt := 65) hx hb dX11_bridgeOf_16 (by rw [c11]; decide) (by rw [c11]; decide) (by rw [c11]; rfl) (by decide) ?_
        refine lv_aload_n hx hb dX11_bridgeOf_65 rfl (lv_at hl 0 rfl) ?_
        obtain ⟨h12, hF⟩ := ite_s hF
        refine gf_X11_91 hE hD h12 dX11_bridgeOf_66 ?_
        obtain rfl := Option.some.inj hF
        exact x_iret hE hD ⟨rfl, rfl⟩ (by omega) (by omega) dX11_bridgeOf_69
      · have hF := ite_n hF c11
        by_cases c13 : xb = (2 : Int32)
        · have hF := ite_p hF c13
          refine lv_tableIn (off := 54) (tgt := 70) hx hb dX11_bridgeOf_16 (by rw [c13]; decide) (by rw [c13]; decide) (by rw [c13]; rfl) (by decide) ?_
          refine lv_aload_n hx hb dX11_bridgeOf_70 rfl (lv_at hl 0 rfl) ?_
          obtain ⟨h14, hF⟩ := ite_s hF
          refine gf_X11_94 hE hD h14 dX11_bridgeOf_71 ?_
          obtain rfl := Option.some.inj hF
          exact x_iret hE hD ⟨rfl, rfl⟩ (by omega) (by omega) dX11_bridgeOf_74
        · have hF := ite_n hF c13
          by_cases c15 : xb = (3 : Int32)
          · have hF := ite_p hF c15
            refine lv_tableIn (off := 59) (tgt := 75) hx hb dX11_bridgeOf_16 (by rw [c15]; decide) (by rw [c15]; decide) (by rw [c15]; rfl) (by decide) ?_
            refine lv_aload_n hx hb dX11_bridgeOf_75 rfl (lv_at hl 0 rfl) ?_
            obtain ⟨h16, hF⟩ := ite_s hF
            refine gf_X11_97 hE hD h16 dX11_bridgeOf_76 ?_
            obtain rfl := Option.some.inj hF
            exact x_iret hE hD ⟨rfl, rfl⟩ (by omega) (by omega) dX11_bridgeOf_79
          · have hF := ite_n hF c15
            by_cases c17 : xb = (4 : Int32)
            · have hF := ite_p hF c17
              refine lv_tableIn (off := 64) (tgt := 80) hx hb dX11_bridgeOf_16 (by rw [c17]; decide) (by rw [c17]; decide) (by rw [c17]; rfl) (by decide) ?_
              refine lv_aload_n hx hb dX11_bridgeOf_80 rfl (lv_at hl 0 rfl) ?_
              obtain ⟨h18, hF⟩ := ite_s hF
              refine gf_X11_100 hE hD h18 dX11_bridgeOf_81 ?_
              obtain rfl := Option.some.inj hF
              exact x_iret hE hD ⟨rfl, rfl⟩ (by omega) (by omega) dX11_bridgeOf_84
            · have hF := ite_n hF c17
              by_cases c19 : xb = (5 : Int32)
              · have hF := ite_p hF c19
                refine lv_tableIn (off := 69) (tgt := 85) hx hb dX11_bridgeOf_16 (by rw [c19]; decide) (by rw [c19]; decide) (by rw [c19]; rfl) (by decide) ?_
                refine lv_aload_n hx hb dX11_bridgeOf_85 rfl (lv_at hl 0 rfl) ?_
                obtain ⟨h20, hF⟩ := ite_s hF
                refine gf_X11_103 hE hD h20 dX11_bridgeOf_86 ?_
                obtain rfl := Option.some.inj hF
                exact x_iret hE hD ⟨rfl, rfl⟩ (by omega) (by omega) dX11_bridgeOf_89
              · have hF := ite_n hF c19
                by_cases c21 : xb = (6 : Int32)
                · have hF := ite_p hF c21
                  refine lv_tableIn (off := 74) (tgt := 90) hx hb dX11_bridgeOf_16 (by rw [c21]; decide) (by rw [c21]; decide) (by rw [c21]; rfl) (by decide) ?_
                  refine lv_aload_n hx hb dX11_bridgeOf_90 rfl (lv_at hl 0 rfl) ?_
                  obtain ⟨h22, hF⟩ := ite_s hF
                  refine gf_X11_106 hE hD h22 dX11_bridgeOf_91 ?_
                  refine lv_if_eq (tgt := 101) hx hb dX11_bridgeOf_94 (by decide) (fun c23 => ?_) (fun c23 => ?_)
                  · have hF := ite_p hF c23
                    refine lv_iconst (v := (0 : Int32)) hx hb dX11_bridgeOf_101 (by decide) ?_
                    exact B_X11_bridgeOf_j102 hE hD (lv_sub hl [1] rfl) hF
                  · have hF := ite_n hF c23
                    refine lv_iconst (v := (1 : Int32)) hx hb dX11_bridgeOf_97 (by decide) ?_
                    refine lv_goto (tgt := 102) hx hb dX11_bridgeOf_98 (by decide) ?_
                    exact B_X11_bridgeOf_j102 hE hD (lv_sub hl [1] rfl) hF
                · have hF := ite_n hF c21
                  refine lv_tableOut (tgt := 103) hx hb dX11_bridgeOf_16 (by have hc9 := lv_neT (a := 0) c9 rfl; have hc11 := lv_neT (a := 1) c11 rfl; have hc13 := lv_neT (a := 2) c13 rfl; have hc15 := lv_neT (a := 3) c15 rfl; have hc17 := lv_neT (a := 4) c17 rfl; have hc19 := lv_neT (a := 5) c19 rfl; have hc21 := lv_neT (a := 6) c21 rfl; omega) (by decide) ?_
                  refine lv_iconst (v := (-1 : Int32)) hx hb dX11_bridgeOf_103 (by decide) ?_
                  obtain rfl := Option.some.inj hF
                  exact x_iret hE hD ⟨rfl, rfl⟩ (by omega) (by omega) dX11_bridgeOf_104
theorem ku_X11_116_1 : xLU RX11 RX1 "DoubledBridge$Bridge" 116 ⟨"DoubledBridge$Bridge", "settle", "(LDoubledBridge$Law;I)V"⟩ yX0_settle cX0_settle 5 (Option.none : Option Jvm.ClassFile.FieldType) 2 := ⟨List.forall_mem_cons.mpr ⟨kw2_159, List.forall_mem_cons.mpr ⟨kw2_98, List.forall_mem_cons.mpr ⟨kw2_99, List.forall_mem_cons.mpr ⟨kw2_97, List.forall_mem_cons.mpr ⟨kw1_6, List.forall_mem_cons.mpr ⟨kw2_104, fun _ h => absurd h List.not_mem_nil⟩⟩⟩⟩⟩⟩, Or.inl rfl, by decide, by decide, by decide +kernel⟩
theorem ku_X11_116_4 : xLU RX11 RX4 "DoubledBridge$Bridge" 116 ⟨"DoubledBridge$Bridge", "settle", "(LDoubledBridge$Law;I)V"⟩ yX0_settle cX0_settle 5 (Option.none : Option Jvm.ClassFile.FieldType) 2 := ⟨List.forall_mem_cons.mpr ⟨kw2_159, List.forall_mem_cons.mpr ⟨kw2_98, List.forall_mem_cons.mpr ⟨kw2_100, List.forall_mem_cons.mpr ⟨kw2_97, List.forall_mem_cons.mpr ⟨kw1_6, List.forall_mem_cons.mpr ⟨kw2_104, fun _ h => absurd h List.not_mem_nil⟩⟩⟩⟩⟩⟩, Or.inl rfl, by decide, by decide, by decide +kernel⟩
theorem ku_X11_116_5 : xLU RX11 RX5 "DoubledBridge$Bridge" 116 ⟨"DoubledBridge$Bridge", "settle", "(LDoubledBridge$Law;I)V"⟩ yX0_settle cX0_settle 5 (Option.none : Option Jvm.ClassFile.FieldType) 2 := ⟨List.forall_mem_cons.mpr ⟨kw2_159, List.forall_mem_cons.mpr ⟨kw2_98, List.forall_mem_cons.mpr ⟨kw2_101, List.forall_mem_cons.mpr ⟨kw2_97, List.forall_mem_cons.mpr ⟨kw1_6, List.forall_mem_cons.mpr ⟨kw2_104, fun _ h => absurd h List.not_mem_nil⟩⟩⟩⟩⟩⟩, Or.inl rfl, by decide, by decide, by decide +kernel⟩
theorem ku_X11_116_6 : xLU RX11 RX6 "DoubledBridge$Bridge" 116 ⟨"DoubledBridge$Bridge", "settle", "(LDoubledBridge$Law;I)V"⟩ yX0_settle cX0_settle 5 (Option.none : Option Jvm.ClassFile.FieldType) 2 := ⟨List.forall_mem_cons.mpr ⟨kw2_159, List.forall_mem_cons.mpr ⟨kw2_98, List.forall_mem_cons.mpr ⟨kw2_102, List.forall_mem_cons.mpr ⟨kw2_97, List.forall_mem_cons.mpr ⟨kw1_6, List.forall_mem_cons.mpr ⟨kw2_104, fun _ h => absurd h List.not_mem_nil⟩⟩⟩⟩⟩⟩, Or.inl rfl, by decide, by decide, by decide +kernel⟩
theorem ku_X11_116_9 : xLU RX11 RX9 "DoubledBridge$Bridge" 116 ⟨"DoubledBridge$Bridge", "settle", "(LDoubledBridge$Law;I)V"⟩ yX0_settle cX0_settle 5 (Option.none : Option Jvm.ClassFile.FieldType) 2 := ⟨List.forall_mem_cons.mpr ⟨kw2_159, List.forall_mem_cons.mpr ⟨kw2_98, List.forall_mem_cons.mpr ⟨kw2_103, List.forall_mem_cons.mpr ⟨kw2_97, List.forall_mem_cons.mpr ⟨kw1_6, List.forall_mem_cons.mpr ⟨kw2_104, fun _ h => absurd h List.not_mem_nil⟩⟩⟩⟩⟩⟩, Or.inl rfl, by decide, by decide, by decide +kernel⟩
theorem kB_X11_116 {p : Program} {l : Launch} {e : Env} {R : Room} {s : State} {m : MethodId} {args : Array Value} {below : List Frame} {meth : Method} {c : Code} {H : Heap} {locs : List Loc} {cells slots : Nat} {Q : State → Prop} {cc : ByteArray} {pc : Nat} {ls : Array Slot} {rest : List Value} {G : xG} {A : Nat → Prop} {a nL : Nat} {H0 : Heap} {ret : Option FieldType} {t : xT} {lv : List (Nat × Value)} (hE : xE p s m args meth c cc RX11 G nL ret) (hl : lv_has ls nL lv) (hD : tD G A H0 t H locs) (hk : isBk (tK t a)) {xa : Nat} {xb : Int32} {v : xT} (hF : F_X0_settle t a xa xb = some v) (hr : (rest.map fun v => v.category).sum ≤ 8) (hdg : decode cc pc = .ok (.invokevirtual 116, 3)) (hR : 5 + 1 ≤ R.frames ∧ 8 + (5 + 11) + 40 * 5 ≤ R.locals) (hR2 : cells ≤ R.cells ∧ slots ≤ R.slots) (kk : ∀ (H1 : Heap) (locs1 : List Loc), tD G A H0 v H1 locs1 → W p l e R s m args below meth c H1 locs1 cells slots Q (F0 m (pc + 3) ls (rest))) : W p l e R s m args below meth c H locs cells slots Q (F0 m pc ls (.int xb :: .ref xa :: .ref a :: rest)) := by
  rcases hk with h | h | h | h | h
  · exact kUv (As := [.ref xa, .int xb]) (rest := rest) hE hl hD (c_X0_settle hF) ku_X11_116_1 (tE_1 h) rfl rfl rfl rfl hr hdg ⟨by have := hR.1; omega, by have := hR.2; omega⟩ hR2 kk
  · exact kUv (As := [.ref xa, .int xb]) (rest := rest) hE hl hD (c_X0_settle hF) ku_X11_116_4 (tE_4 h) rfl rfl rfl rfl hr hdg ⟨by have := hR.1; omega, by have := hR.2; omega⟩ hR2 kk
  · exact kUv (As := [.ref xa, .int xb]) (rest := rest) hE hl hD (c_X0_settle hF) ku_X11_116_5 (tE_5 h) rfl rfl rfl rfl hr hdg ⟨by have := hR.1; omega, by have := hR.2; omega⟩ hR2 kk
  · exact kUv (As := [.ref xa, .int xb]) (rest := rest) hE hl hD (c_X0_settle hF) ku_X11_116_6 (tE_6 h) rfl rfl rfl rfl hr hdg ⟨by have := hR.1; omega, by have := hR.2; omega⟩ hR2 kk
  · exact kUv (As := [.ref xa, .int xb]) (rest := rest) hE hl hD (c_X0_settle hF) ku_X11_116_9 (tE_9 h) rfl rfl rfl rfl hr hdg ⟨by have := hR.1; omega, by have := hR.2; omega⟩ hR2 kk
def F_X11_change_j101 (u : xT) (a0 : Nat) (y4 : Nat) (y5 : Int32) : Option (Int32 × xT) := if tK u a0 = 11 then (tP u a0 0).bind (fun q2 => if tK u q2 = 7 then (tP u q2 3).bind (fun q5 => (tP u a0 0).bind (fun q7 => if tK u q7 = 7 then if isBk (tK u y4) then (F_X0_settle u y4 q5 (tI u q7 2)).bind (fun r11 => some (y5, r11)) else none else none)) else none) else none
theorem B_X11_change_j101 {p : Program} {l : Launch} {e : Env} {s : State} {m : MethodId} {args : Array Value} {below : List Frame} {meth : Method} {cd : Code} {G : xG} {w0 : xW} {rr : (Int32 × xT)} (hE : xE p s m args meth cd cX11_change RX11 G 6 (Option.some Jvm.ClassFile.FieldType.int)) {u : xT} {a0 : Nat} {y4 : Nat} {y5 : Int32} {H : Heap} {locs : List Loc} {ls : Array Slot} (hD : tD G (xA w0 s.heap.size) s.heap u H locs) (hl : lv_has ls 6 [(0, .ref a0), (4, .ref y4), (5, .int y5)]) (hF : F_X11_change_j101 u a0 y4 y5 = some rr) : W p l e (xR 6 0 0) s m args below meth cd H locs 0 0 (xQi G w0 (fun r z => r = rr.1 ∧ z = ((tE G rr.2), rr.2.1)) below args s 0 0) (F0 m 101 ls []) := by
  have hx := hE.1; have hb := hE.2.1
  unfold F_X11_change_j101 at hF
  refine lv_aload hx hb dX11_change_101 (lv_at hl 1 rfl) ?_
  refine lv_aload_n hx hb dX11_change_103 rfl (lv_at hl 0 rfl) ?_
  obtain ⟨h1, hF⟩ := ite_s hF
  obtain ⟨q2, h3, hF⟩ := xb_s hF
  refine gr_X11_10 hE hD h1 h3 dX11_change_104 ?_
  obtain ⟨h4, hF⟩ := ite_s hF
  obtain ⟨q5, h6, hF⟩ := xb_s hF
  refine gr_X11_109 hE hD h4 h6 dX11_change_107 ?_
  refine lv_aload_n hx hb dX11_change_110 rfl (lv_at hl 0 rfl) ?_
  obtain ⟨q7, h8, hF⟩ := xb_s hF
  refine gr_X11_10 hE hD h1 h8 dX11_change_111 ?_
  obtain ⟨h9, hF⟩ := ite_s hF
  refine gf_X11_113 hE hD h9 dX11_change_114 ?_
  obtain ⟨h10, hF⟩ := ite_s hF
  obtain ⟨r11, k12, hF⟩ := xb_s hF
  refine kB_X11_116 (rest := []) hE hl hD h10 k12 (Nat.le_of_ble_eq_true rfl) dX11_change_117 ⟨Nat.le_of_ble_eq_true rfl, Nat.le_of_ble_eq_true rfl⟩ ⟨Nat.le_of_ble_eq_true rfl, Nat.le_of_ble_eq_true rfl⟩ (fun H locs (hD : tD G _ _ r11 H locs) => ?_)
  refine lv_iload hx hb dX11_change_120 (lv_at hl 2 rfl) ?_
  obtain rfl := Option.some.inj hF
  exact x_iret hE hD ⟨rfl, rfl⟩ (by omega) (by omega) dX11_change_122
def F_X11_change_j76 (u : xT) (a0 : Nat) (y2 : Int32) (y3 : Int32) (y4 : Nat) (y5 : Int32) : Option (Int32 × xT) := if y2 = (3 : Int32) then (F_X11_isDay y3).bind (fun r14 => if r14 = 0 then F_X11_change_j101 u a0 y4 y5 else if isBk (tK u y4) then xlet (tI u y4 4) (fun x19 => xlet (tSI u y4 4 y3) (fun t20 => F_X11_change_j101 t20 a0 y4 x19)) else none) else F_X11_change_j101 u a0 y4 y5
theorem B_X11_change_j76 {p : Program} {l : Launch} {e : Env} {s : State} {m : MethodId} {args : Array Value} {below : List Frame} {meth : Method} {cd : Code} {G : xG} {w0 : xW} {rr : (Int32 × xT)} (hE : xE p s m args meth cd cX11_change RX11 G 6 (Option.some Jvm.ClassFile.FieldType.int)) {u : xT} {a0 : Nat} {y2 : Int32} {y3 : Int32} {y4 : Nat} {y5 : Int32} {H : Heap} {locs : List Loc} {ls : Array Slot} (hD : tD G (xA w0 s.heap.size) s.heap u H locs) (hl : lv_has ls 6 [(0, .ref a0), (2, .int y2), (3, .int y3), (4, .ref y4), (5, .int y5)]) (hF : F_X11_change_j76 u a0 y2 y3 y4 y5 = some rr) : W p l e (xR 6 0 0) s m args below meth cd H locs 0 0 (xQi G w0 (fun r z => r = rr.1 ∧ z = ((tE G rr.2), rr.2.1)) below args s 0 0) (F0 m 76 ls []) := by
  have hx := hE.1; have hb := hE.2.1
  unfold F_X11_change_j76 at hF
  refine lv_iload_n hx hb dX11_change_76 rfl (lv_at hl 1 rfl) ?_
  refine lv_iconst (v := (3 : Int32)) hx hb dX11_change_77 (by decide) ?_
  refine lv_icmp_ne (tgt := 101) hx hb dX11_change_78 (by decide) (fun c13 => ?_) (fun c13 => ?_)
  · have hF := ite_n hF c13
    exact B_X11_change_j101 hE hD (lv_sub hl [0, 3, 4] rfl) hF
  · have hF := ite_p hF c13
    refine lv_iload_n hx hb dX11_change_81 rfl (lv_at hl 2 rfl) ?_
    obtain ⟨r14, k15, hF⟩ := xb_s hF
    refine kSz (As := [.int y3]) (rest := []) hE hl hD (c_X11_isDay k15) kl_X11_75 rfl rfl (Nat.le_of_ble_eq_true rfl) dX11_change_82 ⟨Nat.le_of_ble_eq_true rfl, Nat.le_of_ble_eq_true rfl⟩ ⟨Nat.le_of_ble_eq_true rfl, Nat.le_of_ble_eq_true rfl⟩ (fun H locs z16 (hD : tD G _ _ u H locs) => ?_)
    refine lv_if_eq (tgt := 101) hx hb dX11_change_85 (by decide) (fun c17 => ?_) (fun c17 => ?_)
    · have hF := ite_p hF c17
      exact B_X11_change_j101 hE hD (lv_sub hl [0, 3, 4] rfl) hF
    · have hF := ite_n hF c17
      refine lv_aload hx hb dX11_change_88 (lv_at hl 3 rfl) ?_
      obtain ⟨h18, hF⟩ := ite_s hF
      refine gf_X11_97 hE hD h18 dX11_change_90 ?_
      refine lv_topi (fun x19 ex19 => ?_)
      have hF := xlet_e hF ex19
      refine lv_istore (lv' := [(5, .int x19), (0, .ref a0), (2, .int y2), (3, .int y3), (4, .ref y4)]) hx hb dX11_change_93 hl (by decide) rfl (fun ls hl => ?_)
      refine lv_aload hx hb dX11_change_95 (lv_at hl 4 rfl) ?_
      refine lv_iload_n hx hb dX11_change_97 rfl (lv_at hl 3 rfl) ?_
      refine pf_X11_97 hE hD h18 dX11_change_98 (fun t20 H locs et20 hD => ?_)
      have hF := xlet_e hF et20
      have h21 : isBk (tK t20 y4) := by rw [et20]; exact h18
      exact B_X11_change_j101 hE hD (lv_sub hl [1, 4, 0] rfl) hF
def F_X11_change_j48 (u : xT) (a0 : Nat) (y2 : Int32) (y3 : Int32) (y4 : Nat) (y5 : Int32) : Option (Int32 × xT) := if y2 = (2 : Int32) then (F_X11_isToll y3).bind (fun r23 => if r23 = 0 then F_X11_change_j76 u a0 y2 y3 y4 y5 else if isBk (tK u y4) then xlet (tI u y4 3) (fun x28 => xlet (tSI u y4 3 y3) (fun t29 => F_X11_change_j101 t29 a0 y4 x28)) else none) else F_X11_change_j76 u a0 y2 y3 y4 y5
theorem B_X11_change_j48 {p : Program} {l : Launch} {e : Env} {s : State} {m : MethodId} {args : Array Value} {below : List Frame} {meth : Method} {cd : Code} {G : xG} {w0 : xW} {rr : (Int32 × xT)} (hE : xE p s m args meth cd cX11_change RX11 G 6 (Option.some Jvm.ClassFile.FieldType.int)) {u : xT} {a0 : Nat} {y2 : Int32} {y3 : Int32} {y4 : Nat} {y5 : Int32} {H : Heap} {locs : List Loc} {ls : Array Slot} (hD : tD G (xA w0 s.heap.size) s.heap u H locs) (hl : lv_has ls 6 [(0, .ref a0), (2, .int y2), (3, .int y3), (4, .ref y4), (5, .int y5)]) (hF : F_X11_change_j48 u a0 y2 y3 y4 y5 = some rr) : W p l e (xR 6 0 0) s m args below meth cd H locs 0 0 (xQi G w0 (fun r z => r = rr.1 ∧ z = ((tE G rr.2), rr.2.1)) below args s 0 0) (F0 m 48 ls []) := by
  have hx := hE.1; have hb := hE.2.1
  unfold F_X11_change_j48 at hF
  refine lv_iload_n hx hb dX11_change_48 rfl (lv_at hl 1 rfl) ?_
  refine lv_iconst (v := (2 : Int32)) hx hb dX11_change_49 (by decide) ?_
  refine lv_icmp_ne (tgt := 76) hx hb dX11_change_50 (by decide) (fun c22 => ?_) (fun c22 => ?_)
  · have hF := ite_n hF c22
    exact B_X11_change_j76 hE hD (lv_sub hl [0, 1, 2, 3, 4] rfl) hF
  · have hF := ite_p hF c22
    refine lv_iload_n hx hb dX11_change_53 rfl (lv_at hl 2 rfl) ?_
    obtain ⟨r23, k24, hF⟩ := xb_s hF
    refine kSz (As := [.int y3]) (rest := []) hE hl hD (c_X11_isToll k24) kl_X11_72 rfl rfl (Nat.le_of_ble_eq_true rfl) dX11_change_54 ⟨Nat.le_of_ble_eq_true rfl, Nat.le_of_ble_eq_true rfl⟩ ⟨Nat.le_of_ble_eq_true rfl, Nat.le_of_ble_eq_true rfl⟩ (fun H locs z25 (hD : tD G _ _ u H locs) => ?_)
    refine lv_if_eq (tgt := 76) hx hb dX11_change_57 (by decide) (fun c26 => ?_) (fun c26 => ?_)
    · have hF := ite_p hF c26
      exact B_X11_change_j76 hE hD (lv_sub hl [0, 1, 2, 3, 4] rfl) hF
    · have hF := ite_n hF c26
      refine lv_aload hx hb dX11_change_60 (lv_at hl 3 rfl) ?_
      obtain ⟨h27, hF⟩ := ite_s hF
      refine gf_X11_94 hE hD h27 dX11_change_62 ?_
      refine lv_topi (fun x28 ex28 => ?_)
      have hF := xlet_e hF ex28
      refine lv_istore (lv' := [(5, .int x28), (0, .ref a0), (2, .int y2), (3, .int y3), (4, .ref y4)]) hx hb dX11_change_65 hl (by decide) rfl (fun ls hl => ?_)
      refine lv_aload hx hb dX11_change_67 (lv_at hl 4 rfl) ?_
      refine lv_iload_n hx hb dX11_change_69 rfl (lv_at hl 3 rfl) ?_
      refine pf_X11_94 hE hD h27 dX11_change_70 (fun t29 H locs et29 hD => ?_)
      have hF := xlet_e hF et29
      have h30 : isBk (tK t29 y4) := by rw [et29]; exact h27
      refine lv_goto (tgt := 101) hx hb dX11_change_73 (by decide) ?_
      exact B_X11_change_j101 hE hD (lv_sub hl [1, 4, 0] rfl) hF
def F_X11_change (u : xT) (a0 : Nat) (xa : Int32) (xb : Int32) (xc : Int32) : Option (Int32 × xT) := if tK u a0 = 11 then (tP u a0 0).bind (fun q32 => if tK u q32 = 7 then (F_X7_bridgeAt u q32 xa).bind (fun r35 => xopt (r35) (some ((-1 : Int32), u)) (fun q37 => if xb = (1 : Int32) then (F_X11_isTimes xc).bind (fun r40 => if r40 = 0 then F_X11_change_j48 u a0 xb xc q37 (-1 : Int32) else if isBk (tK u q37) then xlet (tI u q37 2) (fun x45 => xlet (tSI u q37 2 xc) (fun t46 => F_X11_change_j101 t46 a0 q37 x45)) else none) else F_X11_change_j48 u a0 xb xc q37 (-1 : Int32))) else none) else none
theorem c_X11_change {l : Launch} {G : xG} {rr : (Int32 × xT)} {u : xT} {a0 : Nat} {xa : Int32} {xb : Int32} {xc : Int32} (hF : F_X11_change u a0 xa xb xc = some rr) : xMi l G yX11_change cX11_change 6 (Option.some Jvm.ClassFile.FieldType.int) 6 0 0 [.ref a0, .int xa, .int xb, .int xc] (tE G u) u.1 (fun r z => r = rr.1 ∧ z = ((tE G rr.2), rr.2.1)) := by
  unfold F_X11_change at hF
  refine x_startI rfl (Nat.le_of_ble_eq_true rfl) (fun p e s m args below meth cd ls hE hnm hl hD => ?_)
  have hx := hE.1; have hb := hE.2.1
  have hl : lv_has ls 6 [(0, .ref a0), (1, .int xa), (2, .int xb), (3, .int xc)] := hl
  have hD : tD G (xA (tE G u) s.heap.size) s.heap u s.heap [] := hD
  refine lv_aload_n hx hb dX11_change_0 rfl (lv_at hl 0 rfl) ?_
  obtain ⟨h31, hF⟩ := ite_s hF
  obtain ⟨q32, h33, hF⟩ := xb_s hF
  refine gr_X11_10 hE hD h31 h33 dX11_change_1 ?_
  refine lv_iload_n hx hb dX11_change_4 rfl (lv_at hl 1 rfl) ?_
  obtain ⟨h34, hF⟩ := ite_s hF
  obtain ⟨r35, k36, hF⟩ := xb_s hF
  refine kVq (As := [.int xa]) (rest := []) hE hl hD (c_X7_bridgeAt k36) kl_X11_82 (tE_7 h34) rfl rfl rfl rfl (Nat.le_of_ble_eq_true rfl) dX11_change_5 ⟨Nat.le_of_ble_eq_true rfl, Nat.le_of_ble_eq_true rfl⟩ ⟨Nat.le_of_ble_eq_true rfl, Nat.le_of_ble_eq_true rfl⟩ (fun H locs (hD : tD G _ _ u H locs) => ?_)
  refine t_split hF (fun h38 hF => ?_) (fun q37 h38 hF => ?_)
  · refine lv_astoreN (lv' := [(4, .null), (0, .ref a0), (1, .int xa), (2, .int xb), (3, .int xc)]) hx hb dX11_change_8 hl (by decide) rfl (fun ls hl => ?_)
    refine lv_aloadN hx hb dX11_change_10 (lv_at hl 0 rfl) ?_
    refine lv_ifnonnullN hx hb dX11_change_12 ?_
    refine lv_iconst (v := (-1 : Int32)) hx hb dX11_change_15 (by decide) ?_
    obtain rfl := Option.some.inj hF
    exact x_iret hE hD ⟨rfl, rfl⟩ (by omega) (by omega) dX11_change_16
  · refine lv_astore (lv' := [(4, .ref q37), (0, .ref a0), (1, .int xa), (2, .int xb), (3, .int xc)]) hx hb dX11_change_8 hl (by decide) rfl (fun ls hl => ?_)
    refine lv_aload hx hb dX11_change_10 (lv_at hl 0 rfl) ?_
    refine lv_ifnonnull (tgt := 17) hx hb dX11_change_12 (by decide) ?_
    refine lv_iconst (v := (-1 : Int32)) hx hb dX11_change_17 (by decide) ?_
    refine lv_istore (lv' := [(5, .int (-1 : Int32)), (4, .ref q37), (0, .ref a0), (1, .int xa), (2, .int xb), (3, .int xc)]) hx hb dX11_change_18 hl (by decide) rfl (fun ls hl => ?_)
    refine lv_iload_n hx hb dX11_change_20 rfl (lv_at hl 4 rfl) ?_
    refine lv_iconst (v := (1 : Int32)) hx hb dX11_change_21 (by decide) ?_
    refine lv_icmp_ne (tgt := 48) hx hb dX11_change_22 (by decide) (fun c39 => ?_) (fun c39 => ?_)
    · have hF := ite_n hF c39
      exact B_X11_change_j48 hE hD (lv_sub hl [2, 4, 5, 1, 0] rfl) hF
    · have hF := ite_p hF c39
      refine lv_iload_n hx hb dX11_change_25 rfl (lv_at hl 5 rfl) ?_
      obtain ⟨r40, k41, hF⟩ := xb_s hF
      refine kSz (As := [.int xc]) (rest := []) hE hl hD (c_X11_isTimes k41) kl_X11_69 rfl rfl (Nat.le_of_ble_eq_true rfl) dX11_change_26 ⟨Nat.le_of_ble_eq_true rfl, Nat.le_of_ble_eq_true rfl⟩ ⟨Nat.le_of_ble_eq_true rfl, Nat.le_of_ble_eq_true rfl⟩ (fun H locs z42 (hD : tD G _ _ u H locs) => ?_)
      refine lv_if_eq (tgt := 48) hx hb dX11_change_29 (by decide) (fun c43 => ?_) (fun c43 => ?_)
      · have hF := ite_p hF c43
        exact B_X11_change_j48 hE hD (lv_sub hl [2, 4, 5, 1, 0] rfl) hF
      · have hF := ite_n hF c43
        refine lv_aload hx hb dX11_change_32 (lv_at hl 1 rfl) ?_
        obtain ⟨h44, hF⟩ := ite_s hF
        refine gf_X11_91 hE hD h44 dX11_change_34 ?_
        refine lv_topi (fun x45 ex45 => ?_)
        have hF := xlet_e hF ex45
        refine lv_istore (lv' := [(5, .int x45), (4, .ref q37), (0, .ref a0), (1, .int xa), (2, .int xb), (3, .int xc)]) hx hb dX11_change_37 hl (by decide) rfl (fun ls hl => ?_)
        refine lv_aload hx hb dX11_change_39 (lv_at hl 1 rfl) ?_
        refine lv_iload_n hx hb dX11_change_41 rfl (lv_at hl 5 rfl) ?_
        refine pf_X11_91 hE hD h44 dX11_change_42 (fun t46 H locs et46 hD => ?_)
        have hF := xlet_e hF et46
        have h47 : tK t46 a0 = 11 := by rw [et46]; exact h31
        have h48 : tK t46 q32 = 7 := by rw [et46]; exact h34
        have h49 : isBk (tK t46 q37) := by rw [et46]; exact h44
        refine lv_goto (tgt := 101) hx hb dX11_change_45 (by decide) ?_
        exact B_X11_change_j101 hE hD (lv_sub hl [2, 1, 0] rfl) hF
def F_X11_mend_j20 (u : xT) (a0 : Nat) : Option (Int32 × xT) := some ((-1 : Int32), u)
theorem B_X11_mend_j20 {p : Program} {l : Launch} {e : Env} {s : State} {m : MethodId} {args : Array Value} {below : List Frame} {meth : Method} {cd : Code} {G : xG} {w0 : xW} {rr : (Int32 × xT)} (hE : xE p s m args meth cd cX11_mend RX11 G 4 (Option.some Jvm.ClassFile.FieldType.int)) {u : xT} {a0 : Nat} {H : Heap} {locs : List Loc} {ls : Array Slot} {cells slots : Nat} (hcc : cells + 0 ≤ 1) (hkk : slots + 0 ≤ 8) (hD : tD G (xA w0 s.heap.size) s.heap u H locs) (hl : lv_has ls 4 [(0, .ref a0)]) (hF : F_X11_mend_j20 u a0 = some rr) : W p l e (xR 7 1 8) s m args below meth cd H locs cells slots (xQi G w0 (fun r z => r = rr.1 ∧ z = ((tE G rr.2), rr.2.1)) below args s 1 8) (F0 m 20 ls []) := by
  have hx := hE.1; have hb := hE.2.1
  unfold F_X11_mend_j20 at hF
  refine lv_iconst (v := (-1 : Int32)) hx hb dX11_mend_20 (by decide) ?_
  obtain rfl := Option.some.inj hF
  exact x_iret hE hD ⟨rfl, rfl⟩ (by omega) (by omega) dX11_mend_21
def F_X11_mend (u : xT) (a0 : Nat) (xa : Int32) (xb : Int32) : Option (Int32 × xT) := if tK u a0 = 11 then (tP u a0 0).bind (fun q2 => if tK u q2 = 7 then (F_X7_bridgeAt u q2 xa).bind (fun r5 => xopt (r5) (F_X11_mend_j20 u a0) (fun q7 => (F_X11_isBuilt xb).bind (fun r9 => if r9 = 0 then F_X11_mend_j20 u a0 else (tP u a0 0).bind (fun q13 => if isBk (tK u q7) then (F_X11_made u xb xa (tI u q7 2) (tI u q7 3) (tI u q7 4)).bind (fun r16 => xopt (r16.1) (none) (fun q18 => if tK r16.2 q13 = 7 then (F_X7_replace r16.2 q13 xa q18).bind (fun r21 => if isBk (tK r21 q7) then some (tI r21 q7 0, r21) else none) else none)) else none)))) else none) else none
theorem c_X11_mend {l : Launch} {G : xG} {rr : (Int32 × xT)} {u : xT} {a0 : Nat} {xa : Int32} {xb : Int32} (hF : F_X11_mend u a0 xa xb = some rr) : xMi l G yX11_mend cX11_mend 4 (Option.some Jvm.ClassFile.FieldType.int) 7 1 8 [.ref a0, .int xa, .int xb] (tE G u) u.1 (fun r z => r = rr.1 ∧ z = ((tE G rr.2), rr.2.1)) := by
  unfold F_X11_mend at hF
  refine x_startI rfl (Nat.le_of_ble_eq_true rfl) (fun p e s m args below meth cd ls hE hnm hl hD => ?_)
  have hx := hE.1; have hb := hE.2.1
  have hl : lv_has ls 4 [(0, .ref a0), (1, .int xa), (2, .int xb)] := hl
  have hD : tD G (xA (tE G u) s.heap.size) s.heap u s.heap [] := hD
  refine lv_aload_n hx hb dX11_mend_0 rfl (lv_at hl 0 rfl) ?_
  obtain ⟨h1, hF⟩ := ite_s hF
  obtain ⟨q2, h3, hF⟩ := xb_s hF
  refine gr_X11_10 hE hD h1 h3 dX11_mend_1 ?_
  refine lv_iload_n hx hb dX11_mend_4 rfl (lv_at hl 1 rfl) ?_
  obtain ⟨h4, hF⟩ := ite_s hF
  obtain ⟨r5, k6, hF⟩ := xb_s hF
  refine kVq (As := [.int xa]) (rest := []) hE hl hD (c_X7_bridgeAt k6) kl_X11_82 (tE_7 h4) rfl rfl rfl rfl (Nat.le_of_ble_eq_true rfl) dX11_mend_5 ⟨Nat.le_of_ble_eq_true rfl, Nat.le_of_ble_eq_true rfl⟩ ⟨(by show 0 ≤ 1; omega), (by show 0 ≤ 8; omega)⟩ (fun H locs (hD : tD G _ _ u H locs) => ?_)
  refine t_split hF (fun h8 hF => ?_) (fun q7 h8 hF => ?_)
  · refine lv_astore_nN (lv' := [(3, .null), (0, .ref a0), (1, .int xa), (2, .int xb)]) hx hb dX11_mend_8 rfl hl (by decide) rfl (fun ls hl => ?_)
    refine lv_aload_nN hx hb dX11_mend_9 rfl (lv_at hl 0 rfl) ?_
    refine lv_ifnullN (tgt := 20) hx hb dX11_mend_10 (by decide) ?_
    exact B_X11_mend_j20 hE (by omega) (by omega) hD (lv_sub hl [1] rfl) hF
  · refine lv_astore_n (lv' := [(3, .ref q7), (0, .ref a0), (1, .int xa), (2, .int xb)]) hx hb dX11_mend_8 rfl hl (by decide) rfl (fun ls hl => ?_)
    refine lv_aload_n hx hb dX11_mend_9 rfl (lv_at hl 0 rfl) ?_
    refine lv_ifnull hx hb dX11_mend_10 ?_
    refine lv_iload_n hx hb dX11_mend_13 rfl (lv_at hl 3 rfl) ?_
    obtain ⟨r9, k10, hF⟩ := xb_s hF
    refine kSz (As := [.int xb]) (rest := []) hE hl hD (c_X11_isBuilt k10) kl_X11_65 rfl rfl (Nat.le_of_ble_eq_true rfl) dX11_mend_14 ⟨Nat.le_of_ble_eq_true rfl, Nat.le_of_ble_eq_true rfl⟩ ⟨(by show 0 ≤ 1; omega), (by show 0 ≤ 8; omega)⟩ (fun H locs z11 (hD : tD G _ _ u H locs) => ?_)
    refine lv_if_ne (tgt := 22) hx hb dX11_mend_17 (by decide) (fun c12 => ?_) (fun c12 => ?_)
    · have hF := ite_n hF c12
      refine lv_aload_n hx hb dX11_mend_22 rfl (lv_at hl 1 rfl) ?_
      obtain ⟨q13, h14, hF⟩ := xb_s hF
      refine gr_X11_10 hE hD h1 h14 dX11_mend_23 ?_
      refine lv_iload_n hx hb dX11_mend_26 rfl (lv_at hl 2 rfl) ?_
      refine lv_iload_n hx hb dX11_mend_27 rfl (lv_at hl 3 rfl) ?_
      refine lv_iload_n hx hb dX11_mend_28 rfl (lv_at hl 2 rfl) ?_
      refine lv_aload_n hx hb dX11_mend_29 rfl (lv_at hl 0 rfl) ?_
      obtain ⟨h15, hF⟩ := ite_s hF
      refine gf_X11_91 hE hD h15 dX11_mend_30 ?_
      refine lv_aload_n hx hb dX11_mend_33 rfl (lv_at hl 0 rfl) ?_
      refine gf_X11_94 hE hD h15 dX11_mend_34 ?_
      refine lv_aload_n hx hb dX11_mend_37 rfl (lv_at hl 0 rfl) ?_
      refine gf_X11_97 hE hD h15 dX11_mend_38 ?_
      obtain ⟨r16, k17, hF⟩ := xb_s hF
      refine kSqA (As := [.int xb, .int xa, .int (tI u q7 2), .int (tI u q7 3), .int (tI u q7 4)]) (rest := [.int xa, .ref q13]) hE hl hD (c_X11_made k17) kl_X11_120 rfl rfl (Nat.le_of_ble_eq_true rfl) dX11_mend_41 ⟨Nat.le_of_ble_eq_true rfl, Nat.le_of_ble_eq_true rfl⟩ ⟨(by show 0 + 1 ≤ 1; omega), (by show 0 + 8 ≤ 8; omega)⟩ (fun H locs (hD : tD G _ _ r16.2 H locs) => ?_)
      refine t_split hF (fun h19 hF => ?_) (fun q18 h19 hF => ?_)
      · cases hF
      · obtain ⟨h20, hF⟩ := ite_s hF
        obtain ⟨r21, k22, hF⟩ := xb_s hF
        refine kVv (As := [.int xa, .ref q18]) (rest := []) hE hl hD (c_X7_replace k22) kl_X11_124 (tE_7 h20) rfl rfl rfl rfl (Nat.le_of_ble_eq_true rfl) dX11_mend_44 ⟨Nat.le_of_ble_eq_true rfl, Nat.le_of_ble_eq_true rfl⟩ ⟨(by show 0 + 1 ≤ 1; omega), (by show 0 + 8 ≤ 8; omega)⟩ (fun H locs (hD : tD G _ _ r21 H locs) => ?_)
        refine lv_aload_n hx hb dX11_mend_47 rfl (lv_at hl 0 rfl) ?_
        obtain ⟨h23, hF⟩ := ite_s hF
        refine gf_X11_86 hE hD h23 dX11_mend_48 ?_
        obtain rfl := Option.some.inj hF
        exact x_iret hE hD ⟨rfl, rfl⟩ (by omega) (by omega) dX11_mend_51
    · have hF := ite_p hF c12
      exact B_X11_mend_j20 hE (by omega) (by omega) hD (lv_sub hl [1] rfl) hF
def F_X11_day (u : xT) (a0 : Nat) (xa : Int32) : Option (Int32 × xT) := (F_X11_isDay xa).bind (fun r1 => if r1 = 0 then some ((-1 : Int32), u) else if tK u a0 = 11 then (tP u a0 0).bind (fun q6 => if tK u q6 = 7 then xlet (tI u q6 2) (fun x9 => (tP u a0 0).bind (fun q10 => if tK u q10 = 7 then xlet (tSI u q10 2 xa) (fun t13 => (tP t13 a0 0).bind (fun q17 => if tK t13 q17 = 7 then (F_X7_settle t13 q17).bind (fun r20 => some (x9, r20)) else none)) else none)) else none) else none)
theorem c_X11_day {l : Launch} {G : xG} {rr : (Int32 × xT)} {u : xT} {a0 : Nat} {xa : Int32} (hF : F_X11_day u a0 xa = some rr) : xMi l G yX11_day cX11_day 3 (Option.some Jvm.ClassFile.FieldType.int) 7 0 0 [.ref a0, .int xa] (tE G u) u.1 (fun r z => r = rr.1 ∧ z = ((tE G rr.2), rr.2.1)) := by
  unfold F_X11_day at hF
  refine x_startI rfl (Nat.le_of_ble_eq_true rfl) (fun p e s m args below meth cd ls hE hnm hl hD => ?_)
  have hx := hE.1; have hb := hE.2.1
  have hl : lv_has ls 3 [(0, .ref a0), (1, .int xa)] := hl
  have hD : tD G (xA (tE G u) s.heap.size) s.heap u s.heap [] := hD
  refine lv_iload_n hx hb dX11_day_0 rfl (lv_at hl 1 rfl) ?_
  obtain ⟨r1, k2, hF⟩ := xb_s hF
  refine kSz (As := [.int xa]) (rest := []) hE hl hD (c_X11_isDay k2) kl_X11_75 rfl rfl (Nat.le_of_ble_eq_true rfl) dX11_day_1 ⟨Nat.le_of_ble_eq_true rfl, Nat.le_of_ble_eq_true rfl⟩ ⟨Nat.le_of_ble_eq_true rfl, Nat.le_of_ble_eq_true rfl⟩ (fun H locs z3 (hD : tD G _ _ u H locs) => ?_)
  refine lv_if_ne (tgt := 9) hx hb dX11_day_4 (by decide) (fun c4 => ?_) (fun c4 => ?_)
  · have hF := ite_n hF c4
    refine lv_aload_n hx hb dX11_day_9 rfl (lv_at hl 0 rfl) ?_
    obtain ⟨h5, hF⟩ := ite_s hF
    obtain ⟨q6, h7, hF⟩ := xb_s hF
    refine gr_X11_10 hE hD h5 h7 dX11_day_10 ?_
    obtain ⟨h8, hF⟩ := ite_s hF
    refine gf_X11_113 hE hD h8 dX11_day_13 ?_
    refine lv_topi (fun x9 ex9 => ?_)
    have hF := xlet_e hF ex9
    refine lv_istore_n (lv' := [(2, .int x9), (0, .ref a0), (1, .int xa)]) hx hb dX11_day_16 rfl hl (by decide) rfl (fun ls hl => ?_)
    refine lv_aload_n hx hb dX11_day_17 rfl (lv_at hl 1 rfl) ?_
    obtain ⟨q10, h11, hF⟩ := xb_s hF
    refine gr_X11_10 hE hD h5 h11 dX11_day_18 ?_
    refine lv_iload_n hx hb dX11_day_21 rfl (lv_at hl 2 rfl) ?_
    obtain ⟨h12, hF⟩ := ite_s hF
    refine pf_X11_113 hE hD h12 dX11_day_22 (fun t13 H locs et13 hD => ?_)
    have hF := xlet_e hF et13
    have h14 : tK t13 a0 = 11 := by rw [et13]; exact h5
    have h15 : tK t13 q6 = 7 := by rw [et13]; exact h8
    have h16 : tK t13 q10 = 7 := by rw [et13]; exact h12
    refine lv_aload_n hx hb dX11_day_25 rfl (lv_at hl 1 rfl) ?_
    obtain ⟨q17, h18, hF⟩ := xb_s hF
    refine gr_X11_10 hE hD h14 h18 dX11_day_26 ?_
    obtain ⟨h19, hF⟩ := ite_s hF
    obtain ⟨r20, k21, hF⟩ := xb_s hF
    refine kVv (As := []) (rest := []) hE hl hD (c_X7_settle k21) kl_X11_128 (tE_7 h19) rfl rfl rfl rfl (Nat.le_of_ble_eq_true rfl) dX11_day_29 ⟨Nat.le_of_ble_eq_true rfl, Nat.le_of_ble_eq_true rfl⟩ ⟨Nat.le_of_ble_eq_true rfl, Nat.le_of_ble_eq_true rfl⟩ (fun H locs (hD : tD G _ _ r20 H locs) => ?_)
    refine lv_iload_n hx hb dX11_day_32 rfl (lv_at hl 0 rfl) ?_
    obtain rfl := Option.some.inj hF
    exact x_iret hE hD ⟨rfl, rfl⟩ (by omega) (by omega) dX11_day_33
  · have hF := ite_p hF c4
    refine lv_iconst (v := (-1 : Int32)) hx hb dX11_day_7 (by decide) ?_
    obtain rfl := Option.some.inj hF
    exact x_iret hE hD ⟨rfl, rfl⟩ (by omega) (by omega) dX11_day_8
def F_X11_feed_j86 (u : xT) (a0 : Nat) : Option (Int32 × xT) := if tK u a0 = 11 then some (tI u a0 4, u) else none
theorem B_X11_feed_j86 {p : Program} {l : Launch} {e : Env} {s : State} {m : MethodId} {args : Array Value} {below : List Frame} {meth : Method} {cd : Code} {G : xG} {w0 : xW} {rr : (Int32 × xT)} (hE : xE p s m args meth cd cX11_feed RX11 G 5 (Option.some Jvm.ClassFile.FieldType.int)) {u : xT} {a0 : Nat} {H : Heap} {locs : List Loc} {ls : Array Slot} (hD : tD G (xA w0 s.heap.size) s.heap u H locs) (hl : lv_has ls 5 [(0, .ref a0)]) (hF : F_X11_feed_j86 u a0 = some rr) : W p l e (xR 2 0 0) s m args below meth cd H locs 0 0 (xQi G w0 (fun r z => r = rr.1 ∧ z = ((tE G rr.2), rr.2.1)) below args s 0 0) (F0 m 86 ls []) := by
  have hx := hE.1; have hb := hE.2.1
  unfold F_X11_feed_j86 at hF
  refine lv_aload_n hx hb dX11_feed_86 rfl (lv_at hl 0 rfl) ?_
  obtain ⟨h1, hF⟩ := ite_s hF
  refine gf_X11_27 hE hD h1 dX11_feed_87 ?_
  obtain rfl := Option.some.inj hF
  exact x_iret hE hD ⟨rfl, rfl⟩ (by omega) (by omega) dX11_feed_90
def F_X11_feed_l31 : Nat → xT → Nat → Int64 → Int32 → Int32 → Option (Int32 × xT)
  | 0, _, _, _, _, _ => none
  | nn + 1, u, a0, y1, y3, y4 => if y3 ≤ y4 then F_X11_feed_j86 u a0 else if tK u a0 = 11 then (tP u a0 3).bind (fun q4 => if tK u q4 = 20 then if (nI (tN u q4)) ≤ (tI u a0 4) then F_X11_feed_j86 u a0 else (tP u a0 3).bind (fun q8 => if tK u q8 = 20 then if xIn (tI u a0 4) (tN u q8) then xlet (tSI u q8 (tI u a0 4).toNatClampNeg ((((y1.toUInt64 >>> (((8 : Int32) * y4).toInt64.toUInt64 &&& Int64.toUInt64 63)).toInt64).toInt32) &&& (255 : Int32))) (fun t12 => xlet (tSI t12 a0 4 ((tI t12 a0 4) + (1 : Int32))) (fun t16 => xlet (y4 + (1 : Int32)) (fun x20 => F_X11_feed_l31 nn t16 a0 y1 y3 x20))) else none else none) else none) else none
theorem L_X11_feed_l31 {p : Program} {l : Launch} {e : Env} {s : State} {m : MethodId} {args : Array Value} {below : List Frame} {meth : Method} {cd : Code} {G : xG} {w0 : xW} {rr : (Int32 × xT)} (hE : xE p s m args meth cd cX11_feed RX11 G 5 (Option.some Jvm.ClassFile.FieldType.int)) : ∀ (nn : Nat) {u : xT} {a0 : Nat} {y1 : Int64} {y3 : Int32} {y4 : Int32} {H : Heap} {locs : List Loc} {ls : Array Slot} , tD G (xA w0 s.heap.size) s.heap u H locs → lv_has ls 5 [(0, .ref a0), (1, .long y1), (3, .int y3), (4, .int y4)] → F_X11_feed_l31 nn u a0 y1 y3 y4 = some rr → W p l e (xR 2 0 0) s m args below meth cd H locs 0 0 (xQi G w0 (fun r z => r = rr.1 ∧ z = ((tE G rr.2), rr.2.1)) below args s 0 0) (F0 m 31 ls []) := by
  have hx := hE.1; have hb := hE.2.1
  intro nn
  induction nn with
  | zero => intro u a0 y1 y3 y4 H locs ls hD hl hF; rw [F_X11_feed_l31] at hF; cases hF
  | succ nn ih =>
    intro u a0 y1 y3 y4 H locs ls hD hl hF
    rw [F_X11_feed_l31] at hF
    refine lv_iload hx hb dX11_feed_31 (lv_at hl 3 rfl) ?_
    refine lv_iload_n hx hb dX11_feed_33 rfl (lv_at hl 2 rfl) ?_
    refine lv_icmp_ge (tgt := 86) hx hb dX11_feed_34 (by decide) (fun c2 => ?_) (fun c2 => ?_)
    · have hF := ite_p hF c2
      exact B_X11_feed_j86 hE hD (lv_sub hl [0] rfl) hF
    · have hF := ite_n hF c2
      refine lv_aload_n hx hb dX11_feed_37 rfl (lv_at hl 0 rfl) ?_
      obtain ⟨h3, hF⟩ := ite_s hF
      refine gf_X11_27 hE hD h3 dX11_feed_38 ?_
      refine lv_aload_n hx hb dX11_feed_41 rfl (lv_at hl 0 rfl) ?_
      obtain ⟨q4, h5, hF⟩ := xb_s hF
      refine gr_X11_23 hE hD h3 h5 dX11_feed_42 ?_
      obtain ⟨h6, hF⟩ := ite_s hF
      refine t_alen hE hD h6 dX11_feed_45 ?_
      refine lv_icmp_ge (tgt := 86) hx hb dX11_feed_46 (by decide) (fun c7 => ?_) (fun c7 => ?_)
      · have hF := ite_p hF c7
        exact B_X11_feed_j86 hE hD (lv_sub hl [0] rfl) hF
      · have hF := ite_n hF c7
        refine lv_aload_n hx hb dX11_feed_49 rfl (lv_at hl 0 rfl) ?_
        obtain ⟨q8, h9, hF⟩ := xb_s hF
        refine gr_X11_23 hE hD h3 h9 dX11_feed_50 ?_
        refine lv_aload_n hx hb dX11_feed_53 rfl (lv_at hl 0 rfl) ?_
        refine gf_X11_27 hE hD h3 dX11_feed_54 ?_
        refine lv_lload_n hx hb dX11_feed_57 rfl (lv_at hl 1 rfl) ?_
        refine lv_bipush (v := (8 : Int32)) hx hb dX11_feed_58 (by decide) ?_
        refine lv_iload hx hb dX11_feed_60 (lv_at hl 3 rfl) ?_
        refine lv_imul hx hb dX11_feed_62 ?_
        refine lv_lushr (v := (y1.toUInt64 >>> (((8 : Int32) * y4).toInt64.toUInt64 &&& Int64.toUInt64 63)).toInt64) hx hb dX11_feed_63 rfl ?_
        refine lv_l2i (v := ((y1.toUInt64 >>> (((8 : Int32) * y4).toInt64.toUInt64 &&& Int64.toUInt64 63)).toInt64).toInt32) hx hb dX11_feed_64 rfl ?_
        refine lv_sipush (v := (255 : Int32)) hx hb dX11_feed_65 (by decide) ?_
        refine lv_iand hx hb dX11_feed_68 ?_
        obtain ⟨h10, hF⟩ := ite_s hF
        obtain ⟨h11, hF⟩ := ite_s hF
        refine t_iast hE hD h10 h11 dX11_feed_69 (fun t12 H locs et12 hD => ?_)
        have hF := xlet_e hF et12
        have h13 : tK t12 a0 = 11 := by rw [et12]; exact h3
        have h14 : tK t12 q4 = 20 := by rw [et12]; exact h6
        have h15 : tK t12 q8 = 20 := by rw [et12]; exact h10
        refine lv_aload_n hx hb dX11_feed_70 rfl (lv_at hl 0 rfl) ?_
        refine lv_dup hx hb dX11_feed_71 rfl ?_
        refine gf_X11_27 hE hD h13 dX11_feed_72 ?_
        refine lv_iconst (v := (1 : Int32)) hx hb dX11_feed_75 (by decide) ?_
        refine lv_iadd hx hb dX11_feed_76 ?_
        refine pf_X11_27 hE hD h13 dX11_feed_77 (fun t16 H locs et16 hD => ?_)
        have hF := xlet_e hF et16
        have h17 : tK t16 a0 = 11 := by rw [et16]; exact h13
        have h18 : tK t16 q4 = 20 := by rw [et16]; exact h14
        have h19 : tK t16 q8 = 20 := by rw [et16]; exact h15
        obtain ⟨x20, ex20⟩ : ∃ y : Int32, y = y4 + (1 : Int32) := ⟨_, rfl⟩
        have hF := xlet_e hF ex20
        refine lv_iinc (v := x20) (lv' := [(4, .int x20), (0, .ref a0), (1, .long y1), (3, .int y3)]) hx hb dX11_feed_80 hl (k := 3) rfl (by rw [ex20]; rfl) (by decide) rfl (fun ls hl => ?_)
        refine lv_goto (tgt := 31) hx hb dX11_feed_83 (by decide) ?_
        exact ih hD (lv_sub hl [1, 2, 3, 0] rfl) hF
def F_X11_feed_j11 (u : xT) (a0 : Nat) : Option (Int32 × xT) := some ((-1 : Int32), u)
theorem B_X11_feed_j11 {p : Program} {l : Launch} {e : Env} {s : State} {m : MethodId} {args : Array Value} {below : List Frame} {meth : Method} {cd : Code} {G : xG} {w0 : xW} {rr : (Int32 × xT)} (hE : xE p s m args meth cd cX11_feed RX11 G 5 (Option.some Jvm.ClassFile.FieldType.int)) {u : xT} {a0 : Nat} {H : Heap} {locs : List Loc} {ls : Array Slot} (hD : tD G (xA w0 s.heap.size) s.heap u H locs) (hl : lv_has ls 5 [(0, .ref a0)]) (hF : F_X11_feed_j11 u a0 = some rr) : W p l e (xR 2 0 0) s m args below meth cd H locs 0 0 (xQi G w0 (fun r z => r = rr.1 ∧ z = ((tE G rr.2), rr.2.1)) below args s 0 0) (F0 m 11 ls []) := by
  have hx := hE.1; have hb := hE.2.1
  unfold F_X11_feed_j11 at hF
  refine lv_iconst (v := (-1 : Int32)) hx hb dX11_feed_11 (by decide) ?_
  obtain rfl := Option.some.inj hF
  exact x_iret hE hD ⟨rfl, rfl⟩ (by omega) (by omega) dX11_feed_12
def F_X11_feed (u : xT) (a0 : Nat) (xa : Int64) (xb : Int32) : Option (Int32 × xT) := if xb < (1 : Int32) then F_X11_feed_j11 u a0 else if xb ≤ (8 : Int32) then if tK u a0 = 11 then if ((tI u a0 4) + xb) ≤ (200 : Int32) then F_X11_feed_l31 xFuel u a0 xa xb (0 : Int32) else some ((-2 : Int32), u) else none else F_X11_feed_j11 u a0
theorem c_X11_feed {l : Launch} {G : xG} {rr : (Int32 × xT)} {u : xT} {a0 : Nat} {xa : Int64} {xb : Int32} (hF : F_X11_feed u a0 xa xb = some rr) : xMi l G yX11_feed cX11_feed 5 (Option.some Jvm.ClassFile.FieldType.int) 2 0 0 [.ref a0, .long xa, .int xb] (tE G u) u.1 (fun r z => r = rr.1 ∧ z = ((tE G rr.2), rr.2.1)) := by
  unfold F_X11_feed at hF
  refine x_startI rfl (Nat.le_of_ble_eq_true rfl) (fun p e s m args below meth cd ls hE hnm hl hD => ?_)
  have hx := hE.1; have hb := hE.2.1
  have hl : lv_has ls 5 [(0, .ref a0), (1, .long xa), (3, .int xb)] := hl
  have hD : tD G (xA (tE G u) s.heap.size) s.heap u s.heap [] := hD
  refine lv_iload_n hx hb dX11_feed_0 rfl (lv_at hl 2 rfl) ?_
  refine lv_iconst (v := (1 : Int32)) hx hb dX11_feed_1 (by decide) ?_
  refine lv_icmp_lt (tgt := 11) hx hb dX11_feed_2 (by decide) (fun c21 => ?_) (fun c21 => ?_)
  · have hF := ite_p hF c21
    exact B_X11_feed_j11 hE hD (lv_sub hl [0] rfl) hF
  · have hF := ite_n hF c21
    refine lv_iload_n hx hb dX11_feed_5 rfl (lv_at hl 2 rfl) ?_
    refine lv_bipush (v := (8 : Int32)) hx hb dX11_feed_6 (by decide) ?_
    refine lv_icmp_le (tgt := 13) hx hb dX11_feed_8 (by decide) (fun c22 => ?_) (fun c22 => ?_)
    · have hF := ite_p hF c22
      refine lv_aload_n hx hb dX11_feed_13 rfl (lv_at hl 0 rfl) ?_
      obtain ⟨h23, hF⟩ := ite_s hF
      refine gf_X11_27 hE hD h23 dX11_feed_14 ?_
      refine lv_iload_n hx hb dX11_feed_17 rfl (lv_at hl 2 rfl) ?_
      refine lv_iadd hx hb dX11_feed_18 ?_
      refine lv_sipush (v := (200 : Int32)) hx hb dX11_feed_19 (by decide) ?_
      refine lv_icmp_le (tgt := 28) hx hb dX11_feed_22 (by decide) (fun c24 => ?_) (fun c24 => ?_)
      · have hF := ite_p hF c24
        refine lv_iconst (v := (0 : Int32)) hx hb dX11_feed_28 (by decide) ?_
        refine lv_istore (lv' := [(4, .int (0 : Int32)), (0, .ref a0), (1, .long xa), (3, .int xb)]) hx hb dX11_feed_29 hl (by decide) rfl (fun ls hl => ?_)
        exact L_X11_feed_l31 hE _ hD (lv_sub hl [1, 2, 3, 0] rfl) hF
      · have hF := ite_n hF c24
        refine lv_bipush (v := (-2 : Int32)) hx hb dX11_feed_25 (by decide) ?_
        obtain rfl := Option.some.inj hF
        exact x_iret hE hD ⟨rfl, rfl⟩ (by omega) (by omega) dX11_feed_27
    · have hF := ite_n hF c22
      exact B_X11_feed_j11 hE hD (lv_sub hl [0] rfl) hF
def F_X11_isPurse (xa : Int32) : Option Int32 := (F_X11_isIn xa (0 : Int32) (1000000000 : Int32)).bind (fun r1 => some r1)
theorem c_X11_isPurse {l : Launch} {G : xG} {w : xW} {sz : Nat} {rr : Int32} {xa : Int32} (hF : F_X11_isPurse xa = some rr) : xMi l G yX11_isPurse cX11_isPurse 1 (Option.some Jvm.ClassFile.FieldType.boolean) 3 0 0 [.int xa] w sz (fun r z => r = rr ∧ (rr = 0 ∨ rr = 1) ∧ z = (w, sz)) := by
  unfold F_X11_isPurse at hF
  refine x_startI rfl (Nat.le_of_ble_eq_true rfl) (fun p e s m args below meth cd ls hE hnm hl hD => ?_)
  have hx := hE.1; have hb := hE.2.1
  have hl : lv_has ls 1 [(0, .int xa)] := hl
  refine lv_iload_n hx hb dX11_isPurse_0 rfl (lv_at hl 0 rfl) ?_
  refine lv_iconst (v := (0 : Int32)) hx hb dX11_isPurse_1 (by decide) ?_
  refine lv_ldc (v := (1000000000 : Int32)) hx hb hE.2.2.1 (hE.2.2.2.1 _ kw3_121) dX11_isPurse_2 ?_
  obtain ⟨r1, k2, hF⟩ := xb_s hF
  refine kSz (As := [.int xa, .int (0 : Int32), .int (1000000000 : Int32)]) (rest := []) hE hl hD (c_X11_isIn k2) kl_X11_183 rfl rfl (Nat.le_of_ble_eq_true rfl) dX11_isPurse_4 ⟨Nat.le_of_ble_eq_true rfl, Nat.le_of_ble_eq_true rfl⟩ ⟨Nat.le_of_ble_eq_true rfl, Nat.le_of_ble_eq_true rfl⟩ (fun H locs z3 (hD : xD G _ _ w sz H locs) => ?_)
  obtain rfl := Option.some.inj hF
  exact x_zret hE hD z3 ⟨rfl, z3, rfl⟩ (by omega) (by omega) dX11_isPurse_7
def F_X11_person (u : xT) (a0 : Nat) (xa : Int32) : Option (Int32 × xT) := (F_X11_isPurse xa).bind (fun r1 => if r1 = 0 then some ((-1 : Int32), u) else if tK u a0 = 11 then (tP u a0 0).bind (fun q6 => if tK u q6 = 7 then (F_X7_welcome u q6 xa).bind (fun r9 => some (r9.1, r9.2)) else none) else none)
theorem c_X11_person {l : Launch} {G : xG} {rr : (Int32 × xT)} {u : xT} {a0 : Nat} {xa : Int32} (hF : F_X11_person u a0 xa = some rr) : xMi l G yX11_person cX11_person 2 (Option.some Jvm.ClassFile.FieldType.int) 4 0 0 [.ref a0, .int xa] (tE G u) u.1 (fun r z => r = rr.1 ∧ z = ((tE G rr.2), rr.2.1)) := by
  unfold F_X11_person at hF
  refine x_startI rfl (Nat.le_of_ble_eq_true rfl) (fun p e s m args below meth cd ls hE hnm hl hD => ?_)
  have hx := hE.1; have hb := hE.2.1
  have hl : lv_has ls 2 [(0, .ref a0), (1, .int xa)] := hl
  have hD : tD G (xA (tE G u) s.heap.size) s.heap u s.heap [] := hD
  refine lv_iload_n hx hb dX11_person_0 rfl (lv_at hl 1 rfl) ?_
  obtain ⟨r1, k2, hF⟩ := xb_s hF
  refine kSz (As := [.int xa]) (rest := []) hE hl hD (c_X11_isPurse k2) kl_X11_154 rfl rfl (Nat.le_of_ble_eq_true rfl) dX11_person_1 ⟨Nat.le_of_ble_eq_true rfl, Nat.le_of_ble_eq_true rfl⟩ ⟨Nat.le_of_ble_eq_true rfl, Nat.le_of_ble_eq_true rfl⟩ (fun H locs z3 (hD : tD G _ _ u H locs) => ?_)
  refine lv_if_ne (tgt := 9) hx hb dX11_person_4 (by decide) (fun c4 => ?_) (fun c4 => ?_)
  · have hF := ite_n hF c4
    refine lv_aload_n hx hb dX11_person_9 rfl (lv_at hl 0 rfl) ?_
    obtain ⟨h5, hF⟩ := ite_s hF
    obtain ⟨q6, h7, hF⟩ := xb_s hF
    refine gr_X11_10 hE hD h5 h7 dX11_person_10 ?_
    refine lv_iload_n hx hb dX11_person_13 rfl (lv_at hl 1 rfl) ?_
    obtain ⟨h8, hF⟩ := ite_s hF
    obtain ⟨r9, k10, hF⟩ := xb_s hF
    refine kVi (As := [.int xa]) (rest := []) hE hl hD (c_X7_welcome k10) kl_X11_157 (tE_7 h8) rfl rfl rfl rfl (Nat.le_of_ble_eq_true rfl) dX11_person_14 ⟨Nat.le_of_ble_eq_true rfl, Nat.le_of_ble_eq_true rfl⟩ ⟨Nat.le_of_ble_eq_true rfl, Nat.le_of_ble_eq_true rfl⟩ (fun H locs (hD : tD G _ _ r9.2 H locs) => ?_)
    obtain rfl := Option.some.inj hF
    exact x_iret hE hD ⟨rfl, rfl⟩ (by omega) (by omega) dX11_person_17
  · have hF := ite_p hF c4
    refine lv_iconst (v := (-1 : Int32)) hx hb dX11_person_7 (by decide) ?_
    obtain rfl := Option.some.inj hF
    exact x_iret hE hD ⟨rfl, rfl⟩ (by omega) (by omega) dX11_person_8
def F_X11_personOf (u : xT) (a0 : Nat) (xa : Int32) (xb : Int32) : Option Int32 := if tK u a0 = 11 then (tP u a0 0).bind (fun q2 => if tK u q2 = 7 then (F_X7_isPerson u q2 xa).bind (fun r5 => if r5 = 0 then some (-1 : Int32) else (if xb = (0 : Int32) then (tP u a0 0).bind (fun q10 => if tK u q10 = 7 then (tP u q10 4).bind (fun q13 => if tK u q13 = 20 then if xIn xa (tN u q13) then some (tI u q13 xa.toNatClampNeg) else none else none) else none) else (if xb = (1 : Int32) then (tP u a0 0).bind (fun q18 => if tK u q18 = 7 then (tP u q18 5).bind (fun q21 => if tK u q21 = 20 then if xIn xa (tN u q21) then some (tI u q21 xa.toNatClampNeg) else none else none) else none) else (if xb = (2 : Int32) then (tP u a0 0).bind (fun q26 => if tK u q26 = 7 then (tP u q26 6).bind (fun q29 => if tK u q29 = 20 then if xIn xa (tN u q29) then some (tI u q29 xa.toNatClampNeg) else none else none) else none) else some (-1 : Int32))))) else none) else none
theorem c_X11_personOf {l : Launch} {G : xG} {rr : Int32} {u : xT} {a0 : Nat} {xa : Int32} {xb : Int32} (hF : F_X11_personOf u a0 xa xb = some rr) : xMi l G yX11_personOf cX11_personOf 3 (Option.some Jvm.ClassFile.FieldType.int) 3 0 0 [.ref a0, .int xa, .int xb] (tE G u) u.1 (fun r z => r = rr ∧ z = ((tE G u), u.1)) := by
  unfold F_X11_personOf at hF
  refine x_startI rfl (Nat.le_of_ble_eq_true rfl) (fun p e s m args below meth cd ls hE hnm hl hD => ?_)
  have hx := hE.1; have hb := hE.2.1
  have hl : lv_has ls 3 [(0, .ref a0), (1, .int xa), (2, .int xb)] := hl
  have hD : tD G (xA (tE G u) s.heap.size) s.heap u s.heap [] := hD
  refine lv_aload_n hx hb dX11_personOf_0 rfl (lv_at hl 0 rfl) ?_
  obtain ⟨h1, hF⟩ := ite_s hF
  obtain ⟨q2, h3, hF⟩ := xb_s hF
  refine gr_X11_10 hE hD h1 h3 dX11_personOf_1 ?_
  refine lv_iload_n hx hb dX11_personOf_4 rfl (lv_at hl 1 rfl) ?_
  obtain ⟨h4, hF⟩ := ite_s hF
  obtain ⟨r5, k6, hF⟩ := xb_s hF
  refine kVz (As := [.int xa]) (rest := []) hE hl hD (c_X7_isPerson k6) kl_X11_161 (tE_7 h4) rfl rfl rfl rfl (Nat.le_of_ble_eq_true rfl) dX11_personOf_5 ⟨Nat.le_of_ble_eq_true rfl, Nat.le_of_ble_eq_true rfl⟩ ⟨Nat.le_of_ble_eq_true rfl, Nat.le_of_ble_eq_true rfl⟩ (fun H locs z7 (hD : tD G _ _ u H locs) => ?_)
  refine lv_if_ne (tgt := 13) hx hb dX11_personOf_8 (by decide) (fun c8 => ?_) (fun c8 => ?_)
  · have hF := ite_n hF c8
    refine lv_iload_n hx hb dX11_personOf_13 rfl (lv_at hl 2 rfl) ?_
    by_cases c9 : xb = (0 : Int32)
    · have hF := ite_p hF c9
      refine lv_tableIn (off := 26) (tgt := 40) hx hb dX11_personOf_14 (by rw [c9]; decide) (by rw [c9]; decide) (by rw [c9]; rfl) (by decide) ?_
      refine lv_aload_n hx hb dX11_personOf_40 rfl (lv_at hl 0 rfl) ?_
      obtain ⟨q10, h11, hF⟩ := xb_s hF
      refine gr_X11_10 hE hD h1 h11 dX11_personOf_41 ?_
      obtain ⟨h12, hF⟩ := ite_s hF
      obtain ⟨q13, h14, hF⟩ := xb_s hF
      refine gr_X11_164 hE hD h12 h14 dX11_personOf_44 ?_
      refine lv_iload_n hx hb dX11_personOf_47 rfl (lv_at hl 1 rfl) ?_
      obtain ⟨h15, hF⟩ := ite_s hF
      obtain ⟨h16, hF⟩ := ite_s hF
      refine t_iald hE hD h15 h16 dX11_personOf_48 ?_
      obtain rfl := Option.some.inj hF
      exact x_iret hE hD ⟨rfl, rfl⟩ (by omega) (by omega) dX11_personOf_49
    · have hF := ite_n hF c9
      by_cases c17 : xb = (1 : Int32)
      · have hF := ite_p hF c17
        refine lv_tableIn (off := 36) (tgt := 50) hx hb dX11_personOf_14 (by rw [c17]; decide) (by rw [c17]; decide) (by rw [c17]; rfl) (by decide) ?_
        refine lv_aload_n hx hb dX11_personOf_50 rfl (lv_at hl 0 rfl) ?_
        obtain ⟨q18, h19, hF⟩ := xb_s hF
        refine gr_X11_10 hE hD h1 h19 dX11_personOf_51 ?_
        obtain ⟨h20, hF⟩ := ite_s hF
        obtain ⟨q21, h22, hF⟩ := xb_s hF
        refine gr_X11_167 hE hD h20 h22 dX11_personOf_54 ?_
        refine lv_iload_n hx hb dX11_personOf_57 rfl (lv_at hl 1 rfl) ?_
        obtain ⟨h23, hF⟩ := ite_s hF
        obtain ⟨h24, hF⟩ := ite_s hF
        refine t_iald hE hD h23 h24 dX11_personOf_58 ?_
        obtain rfl := Option.some.inj hF
        exact x_iret hE hD ⟨rfl, rfl⟩ (by omega) (by omega) dX11_personOf_59
      · have hF := ite_n hF c17
        by_cases c25 : xb = (2 : Int32)
        · have hF := ite_p hF c25
          refine lv_tableIn (off := 46) (tgt := 60) hx hb dX11_personOf_14 (by rw [c25]; decide) (by rw [c25]; decide) (by rw [c25]; rfl) (by decide) ?_
          refine lv_aload_n hx hb dX11_personOf_60 rfl (lv_at hl 0 rfl) ?_
          obtain ⟨q26, h27, hF⟩ := xb_s hF
          refine gr_X11_10 hE hD h1 h27 dX11_personOf_61 ?_
          obtain ⟨h28, hF⟩ := ite_s hF
          obtain ⟨q29, h30, hF⟩ := xb_s hF
          refine gr_X11_170 hE hD h28 h30 dX11_personOf_64 ?_
          refine lv_iload_n hx hb dX11_personOf_67 rfl (lv_at hl 1 rfl) ?_
          obtain ⟨h31, hF⟩ := ite_s hF
          obtain ⟨h32, hF⟩ := ite_s hF
          refine t_iald hE hD h31 h32 dX11_personOf_68 ?_
          obtain rfl := Option.some.inj hF
          exact x_iret hE hD ⟨rfl, rfl⟩ (by omega) (by omega) dX11_personOf_69
        · have hF := ite_n hF c25
          refine lv_tableOut (tgt := 70) hx hb dX11_personOf_14 (by have hc9 := lv_neT (a := 0) c9 rfl; have hc17 := lv_neT (a := 1) c17 rfl; have hc25 := lv_neT (a := 2) c25 rfl; omega) (by decide) ?_
          refine lv_iconst (v := (-1 : Int32)) hx hb dX11_personOf_70 (by decide) ?_
          obtain rfl := Option.some.inj hF
          exact x_iret hE hD ⟨rfl, rfl⟩ (by omega) (by omega) dX11_personOf_71
  · have hF := ite_p hF c8
    refine lv_iconst (v := (-1 : Int32)) hx hb dX11_personOf_11 (by decide) ?_
    obtain rfl := Option.some.inj hF
    exact x_iret hE hD ⟨rfl, rfl⟩ (by omega) (by omega) dX11_personOf_12
def F_X11_purse_j18 (u : xT) (a0 : Nat) : Option (Int32 × xT) := some ((-1 : Int32), u)
theorem B_X11_purse_j18 {p : Program} {l : Launch} {e : Env} {s : State} {m : MethodId} {args : Array Value} {below : List Frame} {meth : Method} {cd : Code} {G : xG} {w0 : xW} {rr : (Int32 × xT)} (hE : xE p s m args meth cd cX11_purse RX11 G 4 (Option.some Jvm.ClassFile.FieldType.int)) {u : xT} {a0 : Nat} {H : Heap} {locs : List Loc} {ls : Array Slot} (hD : tD G (xA w0 s.heap.size) s.heap u H locs) (hl : lv_has ls 4 [(0, .ref a0)]) (hF : F_X11_purse_j18 u a0 = some rr) : W p l e (xR 4 0 0) s m args below meth cd H locs 0 0 (xQi G w0 (fun r z => r = rr.1 ∧ z = ((tE G rr.2), rr.2.1)) below args s 0 0) (F0 m 18 ls []) := by
  have hx := hE.1; have hb := hE.2.1
  unfold F_X11_purse_j18 at hF
  refine lv_iconst (v := (-1 : Int32)) hx hb dX11_purse_18 (by decide) ?_
  obtain rfl := Option.some.inj hF
  exact x_iret hE hD ⟨rfl, rfl⟩ (by omega) (by omega) dX11_purse_19
def F_X11_purse (u : xT) (a0 : Nat) (xa : Int32) (xb : Int32) : Option (Int32 × xT) := if tK u a0 = 11 then (tP u a0 0).bind (fun q2 => if tK u q2 = 7 then (F_X7_isPerson u q2 xa).bind (fun r5 => if r5 = 0 then F_X11_purse_j18 u a0 else (F_X11_isPurse xb).bind (fun r9 => if r9 = 0 then F_X11_purse_j18 u a0 else (tP u a0 0).bind (fun q13 => if tK u q13 = 7 then (tP u q13 4).bind (fun q16 => if tK u q16 = 20 then if xIn xa (tN u q16) then xlet (tI u q16 xa.toNatClampNeg) (fun x20 => (tP u a0 0).bind (fun q21 => if tK u q21 = 7 then (tP u q21 4).bind (fun q24 => if tK u q24 = 20 then if xIn xa (tN u q24) then xlet (tSI u q24 xa.toNatClampNeg xb) (fun t28 => some (x20, t28)) else none else none) else none)) else none else none) else none))) else none) else none
theorem c_X11_purse {l : Launch} {G : xG} {rr : (Int32 × xT)} {u : xT} {a0 : Nat} {xa : Int32} {xb : Int32} (hF : F_X11_purse u a0 xa xb = some rr) : xMi l G yX11_purse cX11_purse 4 (Option.some Jvm.ClassFile.FieldType.int) 4 0 0 [.ref a0, .int xa, .int xb] (tE G u) u.1 (fun r z => r = rr.1 ∧ z = ((tE G rr.2), rr.2.1)) := by
  unfold F_X11_purse at hF
  refine x_startI rfl (Nat.le_of_ble_eq_true rfl) (fun p e s m args below meth cd ls hE hnm hl hD => ?_)
  have hx := hE.1; have hb := hE.2.1
  have hl : lv_has ls 4 [(0, .ref a0), (1, .int xa), (2, .int xb)] := hl
  have hD : tD G (xA (tE G u) s.heap.size) s.heap u s.heap [] := hD
  refine lv_aload_n hx hb dX11_purse_0 rfl (lv_at hl 0 rfl) ?_
  obtain ⟨h1, hF⟩ := ite_s hF
  obtain ⟨q2, h3, hF⟩ := xb_s hF
  refine gr_X11_10 hE hD h1 h3 dX11_purse_1 ?_
  refine lv_iload_n hx hb dX11_purse_4 rfl (lv_at hl 1 rfl) ?_
  obtain ⟨h4, hF⟩ := ite_s hF
  obtain ⟨r5, k6, hF⟩ := xb_s hF
  refine kVz (As := [.int xa]) (rest := []) hE hl hD (c_X7_isPerson k6) kl_X11_161 (tE_7 h4) rfl rfl rfl rfl (Nat.le_of_ble_eq_true rfl) dX11_purse_5 ⟨Nat.le_of_ble_eq_true rfl, Nat.le_of_ble_eq_true rfl⟩ ⟨Nat.le_of_ble_eq_true rfl, Nat.le_of_ble_eq_true rfl⟩ (fun H locs z7 (hD : tD G _ _ u H locs) => ?_)
  refine lv_if_eq (tgt := 18) hx hb dX11_purse_8 (by decide) (fun c8 => ?_) (fun c8 => ?_)
  · have hF := ite_p hF c8
    exact B_X11_purse_j18 hE hD (lv_sub hl [0] rfl) hF
  · have hF := ite_n hF c8
    refine lv_iload_n hx hb dX11_purse_11 rfl (lv_at hl 2 rfl) ?_
    obtain ⟨r9, k10, hF⟩ := xb_s hF
    refine kSz (As := [.int xb]) (rest := []) hE hl hD (c_X11_isPurse k10) kl_X11_154 rfl rfl (Nat.le_of_ble_eq_true rfl) dX11_purse_12 ⟨Nat.le_of_ble_eq_true rfl, Nat.le_of_ble_eq_true rfl⟩ ⟨Nat.le_of_ble_eq_true rfl, Nat.le_of_ble_eq_true rfl⟩ (fun H locs z11 (hD : tD G _ _ u H locs) => ?_)
    refine lv_if_ne (tgt := 20) hx hb dX11_purse_15 (by decide) (fun c12 => ?_) (fun c12 => ?_)
    · have hF := ite_n hF c12
      refine lv_aload_n hx hb dX11_purse_20 rfl (lv_at hl 0 rfl) ?_
      obtain ⟨q13, h14, hF⟩ := xb_s hF
      refine gr_X11_10 hE hD h1 h14 dX11_purse_21 ?_
      obtain ⟨h15, hF⟩ := ite_s hF
      obtain ⟨q16, h17, hF⟩ := xb_s hF
      refine gr_X11_164 hE hD h15 h17 dX11_purse_24 ?_
      refine lv_iload_n hx hb dX11_purse_27 rfl (lv_at hl 1 rfl) ?_
      obtain ⟨h18, hF⟩ := ite_s hF
      obtain ⟨h19, hF⟩ := ite_s hF
      refine t_iald hE hD h18 h19 dX11_purse_28 ?_
      refine lv_topi (fun x20 ex20 => ?_)
      have hF := xlet_e hF ex20
      refine lv_istore_n (lv' := [(3, .int x20), (0, .ref a0), (1, .int xa), (2, .int xb)]) hx hb dX11_purse_29 rfl hl (by decide) rfl (fun ls hl => ?_)
      refine lv_aload_n hx hb dX11_purse_30 rfl (lv_at hl 1 rfl) ?_
      obtain ⟨q21, h22, hF⟩ := xb_s hF
      refine gr_X11_10 hE hD h1 h22 dX11_purse_31 ?_
      obtain ⟨h23, hF⟩ := ite_s hF
      obtain ⟨q24, h25, hF⟩ := xb_s hF
      refine gr_X11_164 hE hD h23 h25 dX11_purse_34 ?_
      refine lv_iload_n hx hb dX11_purse_37 rfl (lv_at hl 2 rfl) ?_
      refine lv_iload_n hx hb dX11_purse_38 rfl (lv_at hl 3 rfl) ?_
      obtain ⟨h26, hF⟩ := ite_s hF
      obtain ⟨h27, hF⟩ := ite_s hF
      refine t_iast hE hD h26 h27 dX11_purse_39 (fun t28 H locs et28 hD => ?_)
      have hF := xlet_e hF et28
      have h29 : tK t28 a0 = 11 := by rw [et28]; exact h1
      have h30 : tK t28 q2 = 7 := by rw [et28]; exact h4
      have h31 : tK t28 q13 = 7 := by rw [et28]; exact h15
      have h32 : tK t28 q16 = 20 := by rw [et28]; exact h18
      have h33 : tK t28 q21 = 7 := by rw [et28]; exact h23
      have h34 : tK t28 q24 = 20 := by rw [et28]; exact h26
      refine lv_iload_n hx hb dX11_purse_40 rfl (lv_at hl 0 rfl) ?_
      obtain rfl := Option.some.inj hF
      exact x_iret hE hD ⟨rfl, rfl⟩ (by omega) (by omega) dX11_purse_41
    · have hF := ite_p hF c12
      exact B_X11_purse_j18 hE hD (lv_sub hl [0] rfl) hF
theorem ku_X11_173_1 : xLU RX11 RX1 "DoubledBridge$Bridge" 173 ⟨"DoubledBridge$Bridge", "becomes", "(I)I"⟩ yX0_becomes cX0_becomes 2 (Option.some Jvm.ClassFile.FieldType.int) 1 := ⟨List.forall_mem_cons.mpr ⟨kw3_142, List.forall_mem_cons.mpr ⟨kw3_144, List.forall_mem_cons.mpr ⟨kw3_145, List.forall_mem_cons.mpr ⟨kw3_143, List.forall_mem_cons.mpr ⟨kw1_6, List.forall_mem_cons.mpr ⟨kw3_150, fun _ h => absurd h List.not_mem_nil⟩⟩⟩⟩⟩⟩, Or.inl rfl, by decide, by decide, by decide +kernel⟩
theorem ku_X11_173_4 : xLU RX11 RX4 "DoubledBridge$Bridge" 173 ⟨"DoubledBridge$Bridge", "becomes", "(I)I"⟩ yX0_becomes cX0_becomes 2 (Option.some Jvm.ClassFile.FieldType.int) 1 := ⟨List.forall_mem_cons.mpr ⟨kw3_142, List.forall_mem_cons.mpr ⟨kw3_144, List.forall_mem_cons.mpr ⟨kw3_146, List.forall_mem_cons.mpr ⟨kw3_143, List.forall_mem_cons.mpr ⟨kw1_6, List.forall_mem_cons.mpr ⟨kw3_150, fun _ h => absurd h List.not_mem_nil⟩⟩⟩⟩⟩⟩, Or.inl rfl, by decide, by decide, by decide +kernel⟩
theorem ku_X11_173_5 : xLU RX11 RX5 "DoubledBridge$Bridge" 173 ⟨"DoubledBridge$Bridge", "becomes", "(I)I"⟩ yX0_becomes cX0_becomes 2 (Option.some Jvm.ClassFile.FieldType.int) 1 := ⟨List.forall_mem_cons.mpr ⟨kw3_142, List.forall_mem_cons.mpr ⟨kw3_144, List.forall_mem_cons.mpr ⟨kw3_147, List.forall_mem_cons.mpr ⟨kw3_143, List.forall_mem_cons.mpr ⟨kw1_6, List.forall_mem_cons.mpr ⟨kw3_150, fun _ h => absurd h List.not_mem_nil⟩⟩⟩⟩⟩⟩, Or.inl rfl, by decide, by decide, by decide +kernel⟩
theorem ku_X11_173_6 : xLU RX11 RX6 "DoubledBridge$Bridge" 173 ⟨"DoubledBridge$Bridge", "becomes", "(I)I"⟩ yX0_becomes cX0_becomes 2 (Option.some Jvm.ClassFile.FieldType.int) 1 := ⟨List.forall_mem_cons.mpr ⟨kw3_142, List.forall_mem_cons.mpr ⟨kw3_144, List.forall_mem_cons.mpr ⟨kw3_148, List.forall_mem_cons.mpr ⟨kw3_143, List.forall_mem_cons.mpr ⟨kw1_6, List.forall_mem_cons.mpr ⟨kw3_150, fun _ h => absurd h List.not_mem_nil⟩⟩⟩⟩⟩⟩, Or.inl rfl, by decide, by decide, by decide +kernel⟩
theorem ku_X11_173_9 : xLU RX11 RX9 "DoubledBridge$Bridge" 173 ⟨"DoubledBridge$Bridge", "becomes", "(I)I"⟩ yX0_becomes cX0_becomes 2 (Option.some Jvm.ClassFile.FieldType.int) 1 := ⟨List.forall_mem_cons.mpr ⟨kw3_142, List.forall_mem_cons.mpr ⟨kw3_144, List.forall_mem_cons.mpr ⟨kw3_149, List.forall_mem_cons.mpr ⟨kw3_143, List.forall_mem_cons.mpr ⟨kw1_6, List.forall_mem_cons.mpr ⟨kw3_150, fun _ h => absurd h List.not_mem_nil⟩⟩⟩⟩⟩⟩, Or.inl rfl, by decide, by decide, by decide +kernel⟩
theorem kB_X11_173 {p : Program} {l : Launch} {e : Env} {R : Room} {s : State} {m : MethodId} {args : Array Value} {below : List Frame} {meth : Method} {c : Code} {H : Heap} {locs : List Loc} {cells slots : Nat} {Q : State → Prop} {cc : ByteArray} {pc : Nat} {ls : Array Slot} {rest : List Value} {G : xG} {A : Nat → Prop} {a nL : Nat} {H0 : Heap} {ret : Option FieldType} {t : xT} {lv : List (Nat × Value)} (hE : xE p s m args meth c cc RX11 G nL ret) (hl : lv_has ls nL lv) (hD : tD G A H0 t H locs) (hk : isBk (tK t a)) {xa : Int32} {v : Int32} (hF : F_X0_becomes t a xa = some v) (hr : (rest.map fun v => v.category).sum ≤ 8) (hdg : decode cc pc = .ok (.invokevirtual 173, 3)) (hR : 5 + 1 ≤ R.frames ∧ 8 + (2 + 11) + 40 * 5 ≤ R.locals) (hR2 : cells ≤ R.cells ∧ slots ≤ R.slots) (kk : ∀ (H1 : Heap) (locs1 : List Loc), tD G A H0 t H1 locs1 → W p l e R s m args below meth c H1 locs1 cells slots Q (F0 m (pc + 3) ls (.int v :: rest))) : W p l e R s m args below meth c H locs cells slots Q (F0 m pc ls (.int xa :: .ref a :: rest)) := by
  rcases hk with h | h | h | h | h
  · exact kUi (As := [.int xa]) (rest := rest) hE hl hD (c_X0_becomes hF) ku_X11_173_1 (tE_1 h) rfl rfl rfl rfl hr hdg ⟨by have := hR.1; omega, by have := hR.2; omega⟩ hR2 kk
  · exact kUi (As := [.int xa]) (rest := rest) hE hl hD (c_X0_becomes hF) ku_X11_173_4 (tE_4 h) rfl rfl rfl rfl hr hdg ⟨by have := hR.1; omega, by have := hR.2; omega⟩ hR2 kk
  · exact kUi (As := [.int xa]) (rest := rest) hE hl hD (c_X0_becomes hF) ku_X11_173_5 (tE_5 h) rfl rfl rfl rfl hr hdg ⟨by have := hR.1; omega, by have := hR.2; omega⟩ hR2 kk
  · exact kUi (As := [.int xa]) (rest := rest) hE hl hD (c_X0_becomes hF) ku_X11_173_6 (tE_6 h) rfl rfl rfl rfl hr hdg ⟨by have := hR.1; omega, by have := hR.2; omega⟩ hR2 kk
  · exact kUi (As := [.int xa]) (rest := rest) hE hl hD (c_X0_becomes hF) ku_X11_173_9 (tE_9 h) rfl rfl rfl rfl hr hdg ⟨by have := hR.1; omega, by have := hR.2; omega⟩ hR2 kk
def F_X11_cross_j24 (u : xT) (a0 : Nat) : Option (Int32 × xT) := some ((-1 : Int32), u)
theorem B_X11_cross_j24 {p : Program} {l : Launch} {e : Env} {s : State} {m : MethodId} {args : Array Value} {below : List Frame} {meth : Method} {cd : Code} {G : xG} {w0 : xW} {rr : (Int32 × xT)} (hE : xE p s m args meth cd cX11_cross RX11 G 5 (Option.some Jvm.ClassFile.FieldType.int)) {u : xT} {a0 : Nat} {H : Heap} {locs : List Loc} {ls : Array Slot} (hD : tD G (xA w0 s.heap.size) s.heap u H locs) (hl : lv_has ls 5 [(0, .ref a0)]) (hF : F_X11_cross_j24 u a0 = some rr) : W p l e (xR 6 0 0) s m args below meth cd H locs 0 0 (xQi G w0 (fun r z => r = rr.1 ∧ z = ((tE G rr.2), rr.2.1)) below args s 0 0) (F0 m 24 ls []) := by
  have hx := hE.1; have hb := hE.2.1
  unfold F_X11_cross_j24 at hF
  refine lv_iconst (v := (-1 : Int32)) hx hb dX11_cross_24 (by decide) ?_
  obtain rfl := Option.some.inj hF
  exact x_iret hE hD ⟨rfl, rfl⟩ (by omega) (by omega) dX11_cross_25
def F_X11_cross (u : xT) (a0 : Nat) (xa : Int32) (xb : Int32) : Option (Int32 × xT) := if tK u a0 = 11 then (tP u a0 0).bind (fun q2 => if tK u q2 = 7 then (F_X7_bridgeAt u q2 xb).bind (fun r5 => xopt (r5) ((tP u a0 0).bind (fun q9 => if tK u q9 = 7 then (F_X7_isPerson u q9 xa).bind (fun r12 => if r12 = 0 then F_X11_cross_j24 u a0 else F_X11_cross_j24 u a0) else none)) (fun q7 => (tP u a0 0).bind (fun q16 => if tK u q16 = 7 then (F_X7_isPerson u q16 xa).bind (fun r19 => if r19 = 0 then F_X11_cross_j24 u a0 else (tP u a0 0).bind (fun q23 => if tK u q23 = 7 then (tP u q23 4).bind (fun q26 => if tK u q26 = 20 then if xIn xa (tN u q26) then if isBk (tK u q7) then (F_X0_becomes u q7 (tI u q26 xa.toNatClampNeg)).bind (fun r31 => if 0 ≤ r31 then (tP u a0 0).bind (fun q34 => if tK u q34 = 7 then (F_X7_arrive u q34 xa r31 xb).bind (fun r37 => some (r31, r37)) else none) else some ((-4 : Int32), u)) else none else none else none) else none)) else none))) else none) else none
theorem c_X11_cross {l : Launch} {G : xG} {rr : (Int32 × xT)} {u : xT} {a0 : Nat} {xa : Int32} {xb : Int32} (hF : F_X11_cross u a0 xa xb = some rr) : xMi l G yX11_cross cX11_cross 5 (Option.some Jvm.ClassFile.FieldType.int) 6 0 0 [.ref a0, .int xa, .int xb] (tE G u) u.1 (fun r z => r = rr.1 ∧ z = ((tE G rr.2), rr.2.1)) := by
  unfold F_X11_cross at hF
  refine x_startI rfl (Nat.le_of_ble_eq_true rfl) (fun p e s m args below meth cd ls hE hnm hl hD => ?_)
  have hx := hE.1; have hb := hE.2.1
  have hl : lv_has ls 5 [(0, .ref a0), (1, .int xa), (2, .int xb)] := hl
  have hD : tD G (xA (tE G u) s.heap.size) s.heap u s.heap [] := hD
  refine lv_aload_n hx hb dX11_cross_0 rfl (lv_at hl 0 rfl) ?_
  obtain ⟨h1, hF⟩ := ite_s hF
  obtain ⟨q2, h3, hF⟩ := xb_s hF
  refine gr_X11_10 hE hD h1 h3 dX11_cross_1 ?_
  refine lv_iload_n hx hb dX11_cross_4 rfl (lv_at hl 2 rfl) ?_
  obtain ⟨h4, hF⟩ := ite_s hF
  obtain ⟨r5, k6, hF⟩ := xb_s hF
  refine kVq (As := [.int xb]) (rest := []) hE hl hD (c_X7_bridgeAt k6) kl_X11_82 (tE_7 h4) rfl rfl rfl rfl (Nat.le_of_ble_eq_true rfl) dX11_cross_5 ⟨Nat.le_of_ble_eq_true rfl, Nat.le_of_ble_eq_true rfl⟩ ⟨Nat.le_of_ble_eq_true rfl, Nat.le_of_ble_eq_true rfl⟩ (fun H locs (hD : tD G _ _ u H locs) => ?_)
  refine t_split hF (fun h8 hF => ?_) (fun q7 h8 hF => ?_)
  · refine lv_astore_nN (lv' := [(3, .null), (0, .ref a0), (1, .int xa), (2, .int xb)]) hx hb dX11_cross_8 rfl hl (by decide) rfl (fun ls hl => ?_)
    refine lv_aload_n hx hb dX11_cross_9 rfl (lv_at hl 1 rfl) ?_
    obtain ⟨q9, h10, hF⟩ := xb_s hF
    refine gr_X11_10 hE hD h1 h10 dX11_cross_10 ?_
    refine lv_iload_n hx hb dX11_cross_13 rfl (lv_at hl 2 rfl) ?_
    obtain ⟨h11, hF⟩ := ite_s hF
    obtain ⟨r12, k13, hF⟩ := xb_s hF
    refine kVz (As := [.int xa]) (rest := []) hE hl hD (c_X7_isPerson k13) kl_X11_161 (tE_7 h11) rfl rfl rfl rfl (Nat.le_of_ble_eq_true rfl) dX11_cross_14 ⟨Nat.le_of_ble_eq_true rfl, Nat.le_of_ble_eq_true rfl⟩ ⟨Nat.le_of_ble_eq_true rfl, Nat.le_of_ble_eq_true rfl⟩ (fun H locs z14 (hD : tD G _ _ u H locs) => ?_)
    refine lv_if_eq (tgt := 24) hx hb dX11_cross_17 (by decide) (fun c15 => ?_) (fun c15 => ?_)
    · have hF := ite_p hF c15
      exact B_X11_cross_j24 hE hD (lv_sub hl [1] rfl) hF
    · have hF := ite_n hF c15
      refine lv_aload_nN hx hb dX11_cross_20 rfl (lv_at hl 0 rfl) ?_
      refine lv_ifnonnullN hx hb dX11_cross_21 ?_
      exact B_X11_cross_j24 hE hD (lv_sub hl [1] rfl) hF
  · refine lv_astore_n (lv' := [(3, .ref q7), (0, .ref a0), (1, .int xa), (2, .int xb)]) hx hb dX11_cross_8 rfl hl (by decide) rfl (fun ls hl => ?_)
    refine lv_aload_n hx hb dX11_cross_9 rfl (lv_at hl 1 rfl) ?_
    obtain ⟨q16, h17, hF⟩ := xb_s hF
    refine gr_X11_10 hE hD h1 h17 dX11_cross_10 ?_
    refine lv_iload_n hx hb dX11_cross_13 rfl (lv_at hl 2 rfl) ?_
    obtain ⟨h18, hF⟩ := ite_s hF
    obtain ⟨r19, k20, hF⟩ := xb_s hF
    refine kVz (As := [.int xa]) (rest := []) hE hl hD (c_X7_isPerson k20) kl_X11_161 (tE_7 h18) rfl rfl rfl rfl (Nat.le_of_ble_eq_true rfl) dX11_cross_14 ⟨Nat.le_of_ble_eq_true rfl, Nat.le_of_ble_eq_true rfl⟩ ⟨Nat.le_of_ble_eq_true rfl, Nat.le_of_ble_eq_true rfl⟩ (fun H locs z21 (hD : tD G _ _ u H locs) => ?_)
    refine lv_if_eq (tgt := 24) hx hb dX11_cross_17 (by decide) (fun c22 => ?_) (fun c22 => ?_)
    · have hF := ite_p hF c22
      exact B_X11_cross_j24 hE hD (lv_sub hl [1] rfl) hF
    · have hF := ite_n hF c22
      refine lv_aload_n hx hb dX11_cross_20 rfl (lv_at hl 0 rfl) ?_
      refine lv_ifnonnull (tgt := 26) hx hb dX11_cross_21 (by decide) ?_
      refine lv_aload_n hx hb dX11_cross_26 rfl (lv_at hl 0 rfl) ?_
      refine lv_aload_n hx hb dX11_cross_27 rfl (lv_at hl 1 rfl) ?_
      obtain ⟨q23, h24, hF⟩ := xb_s hF
      refine gr_X11_10 hE hD h1 h24 dX11_cross_28 ?_
      obtain ⟨h25, hF⟩ := ite_s hF
      obtain ⟨q26, h27, hF⟩ := xb_s hF
      refine gr_X11_164 hE hD h25 h27 dX11_cross_31 ?_
      refine lv_iload_n hx hb dX11_cross_34 rfl (lv_at hl 2 rfl) ?_
      obtain ⟨h28, hF⟩ := ite_s hF
      obtain ⟨h29, hF⟩ := ite_s hF
      refine t_iald hE hD h28 h29 dX11_cross_35 ?_
      obtain ⟨h30, hF⟩ := ite_s hF
      obtain ⟨r31, k32, hF⟩ := xb_s hF
      refine kB_X11_173 (rest := []) hE hl hD h30 k32 (Nat.le_of_ble_eq_true rfl) dX11_cross_36 ⟨Nat.le_of_ble_eq_true rfl, Nat.le_of_ble_eq_true rfl⟩ ⟨Nat.le_of_ble_eq_true rfl, Nat.le_of_ble_eq_true rfl⟩ (fun H locs (hD : tD G _ _ u H locs) => ?_)
      refine lv_istore (lv' := [(4, .int r31), (3, .ref q7), (0, .ref a0), (1, .int xa), (2, .int xb)]) hx hb dX11_cross_39 hl (by decide) rfl (fun ls hl => ?_)
      refine lv_iload hx hb dX11_cross_41 (lv_at hl 0 rfl) ?_
      refine lv_if_ge (tgt := 49) hx hb dX11_cross_43 (by decide) (fun c33 => ?_) (fun c33 => ?_)
      · have hF := ite_p hF c33
        refine lv_aload_n hx hb dX11_cross_49 rfl (lv_at hl 2 rfl) ?_
        obtain ⟨q34, h35, hF⟩ := xb_s hF
        refine gr_X11_10 hE hD h1 h35 dX11_cross_50 ?_
        refine lv_iload_n hx hb dX11_cross_53 rfl (lv_at hl 3 rfl) ?_
        refine lv_iload hx hb dX11_cross_54 (lv_at hl 0 rfl) ?_
        refine lv_iload_n hx hb dX11_cross_56 rfl (lv_at hl 4 rfl) ?_
        obtain ⟨h36, hF⟩ := ite_s hF
        obtain ⟨r37, k38, hF⟩ := xb_s hF
        refine kVv (As := [.int xa, .int r31, .int xb]) (rest := []) hE hl hD (c_X7_arrive k38) kl_X11_176 (tE_7 h36) rfl rfl rfl rfl (Nat.le_of_ble_eq_true rfl) dX11_cross_57 ⟨Nat.le_of_ble_eq_true rfl, Nat.le_of_ble_eq_true rfl⟩ ⟨Nat.le_of_ble_eq_true rfl, Nat.le_of_ble_eq_true rfl⟩ (fun H locs (hD : tD G _ _ r37 H locs) => ?_)
        refine lv_iload hx hb dX11_cross_60 (lv_at hl 0 rfl) ?_
        obtain rfl := Option.some.inj hF
        exact x_iret hE hD ⟨rfl, rfl⟩ (by omega) (by omega) dX11_cross_62
      · have hF := ite_n hF c33
        refine lv_bipush (v := (-4 : Int32)) hx hb dX11_cross_46 (by decide) ?_
        obtain rfl := Option.some.inj hF
        exact x_iret hE hD ⟨rfl, rfl⟩ (by omega) (by omega) dX11_cross_48
def F_X11_pool_j87 (u : xT) (a0 : Nat) : Option (Int32 × xT) := some ((-4 : Int32), u)
theorem B_X11_pool_j87 {p : Program} {l : Launch} {e : Env} {s : State} {m : MethodId} {args : Array Value} {below : List Frame} {meth : Method} {cd : Code} {G : xG} {w0 : xW} {rr : (Int32 × xT)} (hE : xE p s m args meth cd cX11_pool RX11 G 10 (Option.some Jvm.ClassFile.FieldType.int)) {u : xT} {a0 : Nat} {H : Heap} {locs : List Loc} {ls : Array Slot} (hD : tD G (xA w0 s.heap.size) s.heap u H locs) (hl : lv_has ls 10 [(0, .ref a0)]) (hF : F_X11_pool_j87 u a0 = some rr) : W p l e (xR 6 0 0) s m args below meth cd H locs 0 0 (xQi G w0 (fun r z => r = rr.1 ∧ z = ((tE G rr.2), rr.2.1)) below args s 0 0) (F0 m 87 ls []) := by
  have hx := hE.1; have hb := hE.2.1
  unfold F_X11_pool_j87 at hF
  refine lv_bipush (v := (-4 : Int32)) hx hb dX11_pool_87 (by decide) ?_
  obtain rfl := Option.some.inj hF
  exact x_iret hE hD ⟨rfl, rfl⟩ (by omega) (by omega) dX11_pool_89
def F_X11_pool_j42 (u : xT) (a0 : Nat) : Option (Int32 × xT) := some ((-1 : Int32), u)
theorem B_X11_pool_j42 {p : Program} {l : Launch} {e : Env} {s : State} {m : MethodId} {args : Array Value} {below : List Frame} {meth : Method} {cd : Code} {G : xG} {w0 : xW} {rr : (Int32 × xT)} (hE : xE p s m args meth cd cX11_pool RX11 G 10 (Option.some Jvm.ClassFile.FieldType.int)) {u : xT} {a0 : Nat} {H : Heap} {locs : List Loc} {ls : Array Slot} (hD : tD G (xA w0 s.heap.size) s.heap u H locs) (hl : lv_has ls 10 [(0, .ref a0)]) (hF : F_X11_pool_j42 u a0 = some rr) : W p l e (xR 6 0 0) s m args below meth cd H locs 0 0 (xQi G w0 (fun r z => r = rr.1 ∧ z = ((tE G rr.2), rr.2.1)) below args s 0 0) (F0 m 42 ls []) := by
  have hx := hE.1; have hb := hE.2.1
  unfold F_X11_pool_j42 at hF
  refine lv_iconst (v := (-1 : Int32)) hx hb dX11_pool_42 (by decide) ?_
  obtain rfl := Option.some.inj hF
  exact x_iret hE hD ⟨rfl, rfl⟩ (by omega) (by omega) dX11_pool_43
def F_X11_pool (u : xT) (a0 : Nat) (xa : Int32) (xb : Int32) (xc : Int32) : Option (Int32 × xT) := if tK u a0 = 11 then (tP u a0 0).bind (fun q2 => if tK u q2 = 7 then (F_X7_bridgeAt u q2 xc).bind (fun r5 => xopt (r5) ((tP u a0 0).bind (fun q9 => if tK u q9 = 7 then (F_X7_isPerson u q9 xa).bind (fun r12 => if r12 = 0 then F_X11_pool_j42 u a0 else (tP u a0 0).bind (fun q16 => if tK u q16 = 7 then (F_X7_isPerson u q16 xb).bind (fun r19 => if r19 = 0 then F_X11_pool_j42 u a0 else if xa = xb then F_X11_pool_j42 u a0 else F_X11_pool_j42 u a0) else none)) else none)) (fun q7 => (tP u a0 0).bind (fun q24 => if tK u q24 = 7 then (F_X7_isPerson u q24 xa).bind (fun r27 => if r27 = 0 then F_X11_pool_j42 u a0 else (tP u a0 0).bind (fun q31 => if tK u q31 = 7 then (F_X7_isPerson u q31 xb).bind (fun r34 => if r34 = 0 then F_X11_pool_j42 u a0 else if xa = xb then F_X11_pool_j42 u a0 else (tP u a0 0).bind (fun q39 => if tK u q39 = 7 then (tP u q39 4).bind (fun q42 => if tK u q42 = 20 then if xIn xa (tN u q42) then xlet (tI u q42 xa.toNatClampNeg) (fun x46 => (tP u a0 0).bind (fun q47 => if tK u q47 = 7 then (tP u q47 4).bind (fun q50 => if tK u q50 = 20 then if xIn xb (tN u q50) then xlet (x46.toInt64 + ((tI u q50 xb.toNatClampNeg).toInt64)) (fun x54 => if 0 < (lg_cmp x54 (1000000000 : Int64)) then F_X11_pool_j87 u a0 else if 0 < (lg_cmp x54 (0 : Int64)) then if isBk (tK u q7) then (F_X0_becomes u q7 x54.toInt32).bind (fun r58 => if 0 ≤ r58 then if ¬ x54 = 0 then xlet (((r58.toInt64 * x46.toInt64) / x54).toInt32) (fun x62 => (tP u a0 0).bind (fun q63 => if tK u q63 = 7 then (F_X7_arrive u q63 xa x62 xc).bind (fun r66 => if tK r66 a0 = 11 then (tP r66 a0 0).bind (fun q69 => if tK r66 q69 = 7 then (F_X7_arrive r66 q69 xb (r58 - x62) xc).bind (fun r72 => some (x62, r72)) else none) else none) else none)) else none else some ((-4 : Int32), u)) else none else F_X11_pool_j87 u a0) else none else none) else none)) else none else none) else none)) else none)) else none))) else none) else none
theorem c_X11_pool {l : Launch} {G : xG} {rr : (Int32 × xT)} {u : xT} {a0 : Nat} {xa : Int32} {xb : Int32} {xc : Int32} (hF : F_X11_pool u a0 xa xb xc = some rr) : xMi l G yX11_pool cX11_pool 10 (Option.some Jvm.ClassFile.FieldType.int) 6 0 0 [.ref a0, .int xa, .int xb, .int xc] (tE G u) u.1 (fun r z => r = rr.1 ∧ z = ((tE G rr.2), rr.2.1)) := by
  unfold F_X11_pool at hF
  refine x_startI rfl (Nat.le_of_ble_eq_true rfl) (fun p e s m args below meth cd ls hE hnm hl hD => ?_)
  have hx := hE.1; have hb := hE.2.1
  have hl : lv_has ls 10 [(0, .ref a0), (1, .int xa), (2, .int xb), (3, .int xc)] := hl
  have hD : tD G (xA (tE G u) s.heap.size) s.heap u s.heap [] := hD
  refine lv_aload_n hx hb dX11_pool_0 rfl (lv_at hl 0 rfl) ?_
  obtain ⟨h1, hF⟩ := ite_s hF
  obtain ⟨q2, h3, hF⟩ := xb_s hF
  refine gr_X11_10 hE hD h1 h3 dX11_pool_1 ?_
  refine lv_iload_n hx hb dX11_pool_4 rfl (lv_at hl 3 rfl) ?_
  obtain ⟨h4, hF⟩ := ite_s hF
  obtain ⟨r5, k6, hF⟩ := xb_s hF
  refine kVq (As := [.int xc]) (rest := []) hE hl hD (c_X7_bridgeAt k6) kl_X11_82 (tE_7 h4) rfl rfl rfl rfl (Nat.le_of_ble_eq_true rfl) dX11_pool_5 ⟨Nat.le_of_ble_eq_true rfl, Nat.le_of_ble_eq_true rfl⟩ ⟨Nat.le_of_ble_eq_true rfl, Nat.le_of_ble_eq_true rfl⟩ (fun H locs (hD : tD G _ _ u H locs) => ?_)
  refine t_split hF (fun h8 hF => ?_) (fun q7 h8 hF => ?_)
  · refine lv_astoreN (lv' := [(4, .null), (0, .ref a0), (1, .int xa), (2, .int xb), (3, .int xc)]) hx hb dX11_pool_8 hl (by decide) rfl (fun ls hl => ?_)
    refine lv_aload_n hx hb dX11_pool_10 rfl (lv_at hl 1 rfl) ?_
    obtain ⟨q9, h10, hF⟩ := xb_s hF
    refine gr_X11_10 hE hD h1 h10 dX11_pool_11 ?_
    refine lv_iload_n hx hb dX11_pool_14 rfl (lv_at hl 2 rfl) ?_
    obtain ⟨h11, hF⟩ := ite_s hF
    obtain ⟨r12, k13, hF⟩ := xb_s hF
    refine kVz (As := [.int xa]) (rest := []) hE hl hD (c_X7_isPerson k13) kl_X11_161 (tE_7 h11) rfl rfl rfl rfl (Nat.le_of_ble_eq_true rfl) dX11_pool_15 ⟨Nat.le_of_ble_eq_true rfl, Nat.le_of_ble_eq_true rfl⟩ ⟨Nat.le_of_ble_eq_true rfl, Nat.le_of_ble_eq_true rfl⟩ (fun H locs z14 (hD : tD G _ _ u H locs) => ?_)
    refine lv_if_eq (tgt := 42) hx hb dX11_pool_18 (by decide) (fun c15 => ?_) (fun c15 => ?_)
    · have hF := ite_p hF c15
      exact B_X11_pool_j42 hE hD (lv_sub hl [1] rfl) hF
    · have hF := ite_n hF c15
      refine lv_aload_n hx hb dX11_pool_21 rfl (lv_at hl 1 rfl) ?_
      obtain ⟨q16, h17, hF⟩ := xb_s hF
      refine gr_X11_10 hE hD h1 h17 dX11_pool_22 ?_
      refine lv_iload_n hx hb dX11_pool_25 rfl (lv_at hl 3 rfl) ?_
      obtain ⟨h18, hF⟩ := ite_s hF
      obtain ⟨r19, k20, hF⟩ := xb_s hF
      refine kVz (As := [.int xb]) (rest := []) hE hl hD (c_X7_isPerson k20) kl_X11_161 (tE_7 h18) rfl rfl rfl rfl (Nat.le_of_ble_eq_true rfl) dX11_pool_26 ⟨Nat.le_of_ble_eq_true rfl, Nat.le_of_ble_eq_true rfl⟩ ⟨Nat.le_of_ble_eq_true rfl, Nat.le_of_ble_eq_true rfl⟩ (fun H locs z21 (hD : tD G _ _ u H locs) => ?_)
      refine lv_if_eq (tgt := 42) hx hb dX11_pool_29 (by decide) (fun c22 => ?_) (fun c22 => ?_)
      · have hF := ite_p hF c22
        exact B_X11_pool_j42 hE hD (lv_sub hl [1] rfl) hF
      · have hF := ite_n hF c22
        refine lv_iload_n hx hb dX11_pool_32 rfl (lv_at hl 2 rfl) ?_
        refine lv_iload_n hx hb dX11_pool_33 rfl (lv_at hl 3 rfl) ?_
        refine lv_icmp_eq (tgt := 42) hx hb dX11_pool_34 (by decide) (fun c23 => ?_) (fun c23 => ?_)
        · have hF := ite_p hF c23
          exact B_X11_pool_j42 hE hD (lv_sub hl [1] rfl) hF
        · have hF := ite_n hF c23
          refine lv_aloadN hx hb dX11_pool_37 (lv_at hl 0 rfl) ?_
          refine lv_ifnonnullN hx hb dX11_pool_39 ?_
          exact B_X11_pool_j42 hE hD (lv_sub hl [1] rfl) hF
  · refine lv_astore (lv' := [(4, .ref q7), (0, .ref a0), (1, .int xa), (2, .int xb), (3, .int xc)]) hx hb dX11_pool_8 hl (by decide) rfl (fun ls hl => ?_)
    refine lv_aload_n hx hb dX11_pool_10 rfl (lv_at hl 1 rfl) ?_
    obtain ⟨q24, h25, hF⟩ := xb_s hF
    refine gr_X11_10 hE hD h1 h25 dX11_pool_11 ?_
    refine lv_iload_n hx hb dX11_pool_14 rfl (lv_at hl 2 rfl) ?_
    obtain ⟨h26, hF⟩ := ite_s hF
    obtain ⟨r27, k28, hF⟩ := xb_s hF
    refine kVz (As := [.int xa]) (rest := []) hE hl hD (c_X7_isPerson k28) kl_X11_161 (tE_7 h26) rfl rfl rfl rfl (Nat.le_of_ble_eq_true rfl) dX11_pool_15 ⟨Nat.le_of_ble_eq_true rfl, Nat.le_of_ble_eq_true rfl⟩ ⟨Nat.le_of_ble_eq_true rfl, Nat.le_of_ble_eq_true rfl⟩ (fun H locs z29 (hD : tD G _ _ u H locs) => ?_)
    refine lv_if_eq (tgt := 42) hx hb dX11_pool_18 (by decide) (fun c30 => ?_) (fun c30 => ?_)
    · have hF := ite_p hF c30
      exact B_X11_pool_j42 hE hD (lv_sub hl [1] rfl) hF
    · have hF := ite_n hF c30
      refine lv_aload_n hx hb dX11_pool_21 rfl (lv_at hl 1 rfl) ?_
      obtain ⟨q31, h32, hF⟩ := xb_s hF
      refine gr_X11_10 hE hD h1 h32 dX11_pool_22 ?_
      refine lv_iload_n hx hb dX11_pool_25 rfl (lv_at hl 3 rfl) ?_
      obtain ⟨h33, hF⟩ := ite_s hF
      obtain ⟨r34, k35, hF⟩ := xb_s hF
      refine kVz (As := [.int xb]) (rest := []) hE hl hD (c_X7_isPerson k35) kl_X11_161 (tE_7 h33) rfl rfl rfl rfl (Nat.le_of_ble_eq_true rfl) dX11_pool_26 ⟨Nat.le_of_ble_eq_true rfl, Nat.le_of_ble_eq_true rfl⟩ ⟨Nat.le_of_ble_eq_true rfl, Nat.le_of_ble_eq_true rfl⟩ (fun H locs z36 (hD : tD G _ _ u H locs) => ?_)
      refine lv_if_eq (tgt := 42) hx hb dX11_pool_29 (by decide) (fun c37 => ?_) (fun c37 => ?_)
      · have hF := ite_p hF c37
        exact B_X11_pool_j42 hE hD (lv_sub hl [1] rfl) hF
      · have hF := ite_n hF c37
        refine lv_iload_n hx hb dX11_pool_32 rfl (lv_at hl 2 rfl) ?_
        refine lv_iload_n hx hb dX11_pool_33 rfl (lv_at hl 3 rfl) ?_
        refine lv_icmp_eq (tgt := 42) hx hb dX11_pool_34 (by decide) (fun c38 => ?_) (fun c38 => ?_)
        · have hF := ite_p hF c38
          exact B_X11_pool_j42 hE hD (lv_sub hl [1] rfl) hF
        · have hF := ite_n hF c38
          refine lv_aload hx hb dX11_pool_37 (lv_at hl 0 rfl) ?_
          refine lv_ifnonnull (tgt := 44) hx hb dX11_pool_39 (by decide) ?_
          refine lv_aload_n hx hb dX11_pool_44 rfl (lv_at hl 1 rfl) ?_
          obtain ⟨q39, h40, hF⟩ := xb_s hF
          refine gr_X11_10 hE hD h1 h40 dX11_pool_45 ?_
          obtain ⟨h41, hF⟩ := ite_s hF
          obtain ⟨q42, h43, hF⟩ := xb_s hF
          refine gr_X11_164 hE hD h41 h43 dX11_pool_48 ?_
          refine lv_iload_n hx hb dX11_pool_51 rfl (lv_at hl 2 rfl) ?_
          obtain ⟨h44, hF⟩ := ite_s hF
          obtain ⟨h45, hF⟩ := ite_s hF
          refine t_iald hE hD h44 h45 dX11_pool_52 ?_
          refine lv_topi (fun x46 ex46 => ?_)
          have hF := xlet_e hF ex46
          refine lv_istore (lv' := [(5, .int x46), (4, .ref q7), (0, .ref a0), (1, .int xa), (2, .int xb), (3, .int xc)]) hx hb dX11_pool_53 hl (by decide) rfl (fun ls hl => ?_)
          refine lv_iload hx hb dX11_pool_55 (lv_at hl 0 rfl) ?_
          refine lv_i2l (v := x46.toInt64) hx hb dX11_pool_57 rfl ?_
          refine lv_aload_n hx hb dX11_pool_58 rfl (lv_at hl 2 rfl) ?_
          obtain ⟨q47, h48, hF⟩ := xb_s hF
          refine gr_X11_10 hE hD h1 h48 dX11_pool_59 ?_
          obtain ⟨h49, hF⟩ := ite_s hF
          obtain ⟨q50, h51, hF⟩ := xb_s hF
          refine gr_X11_164 hE hD h49 h51 dX11_pool_62 ?_
          refine lv_iload_n hx hb dX11_pool_65 rfl (lv_at hl 4 rfl) ?_
          obtain ⟨h52, hF⟩ := ite_s hF
          obtain ⟨h53, hF⟩ := ite_s hF
          refine t_iald hE hD h52 h53 dX11_pool_66 ?_
          refine lv_i2l (v := (tI u q50 xb.toNatClampNeg).toInt64) hx hb dX11_pool_67 rfl ?_
          refine lv_ladd hx hb dX11_pool_68 ?_
          refine lv_topl (fun x54 ex54 => ?_)
          have hF := xlet_e hF ex54
          refine lv_lstore (lv' := [(6, .long x54), (5, .int x46), (4, .ref q7), (0, .ref a0), (1, .int xa), (2, .int xb), (3, .int xc)]) hx hb dX11_pool_69 hl (by decide) rfl (fun ls hl => ?_)
          refine lv_lload hx hb dX11_pool_71 (lv_at hl 0 rfl) ?_
          refine lv_ldc2 (v := (1000000000 : Int64)) hx hb hE.2.2.1 (hE.2.2.2.1 _ kw3_187) dX11_pool_73 ?_
          refine W.lcmp hx hb dX11_pool_76 ?_
          refine lv_if_gt (tgt := 87) hx hb dX11_pool_77 (by decide) (fun c55 => ?_) (fun c55 => ?_)
          · have hF := ite_p hF c55
            exact B_X11_pool_j87 hE hD (lv_sub hl [3] rfl) hF
          · have hF := ite_n hF c55
            refine lv_lload hx hb dX11_pool_80 (lv_at hl 0 rfl) ?_
            refine lv_lconst (v := (0 : Int64)) hx hb dX11_pool_82 (by decide) ?_
            refine W.lcmp hx hb dX11_pool_83 ?_
            refine lv_if_gt (tgt := 90) hx hb dX11_pool_84 (by decide) (fun c56 => ?_) (fun c56 => ?_)
            · have hF := ite_p hF c56
              refine lv_aload hx hb dX11_pool_90 (lv_at hl 2 rfl) ?_
              refine lv_lload hx hb dX11_pool_92 (lv_at hl 0 rfl) ?_
              refine lv_l2i (v := x54.toInt32) hx hb dX11_pool_94 rfl ?_
              obtain ⟨h57, hF⟩ := ite_s hF
              obtain ⟨r58, k59, hF⟩ := xb_s hF
              refine kB_X11_173 (rest := []) hE hl hD h57 k59 (Nat.le_of_ble_eq_true rfl) dX11_pool_95 ⟨Nat.le_of_ble_eq_true rfl, Nat.le_of_ble_eq_true rfl⟩ ⟨Nat.le_of_ble_eq_true rfl, Nat.le_of_ble_eq_true rfl⟩ (fun H locs (hD : tD G _ _ u H locs) => ?_)
              refine lv_istore (lv' := [(8, .int r58), (6, .long x54), (5, .int x46), (4, .ref q7), (0, .ref a0), (1, .int xa), (2, .int xb), (3, .int xc)]) hx hb dX11_pool_98 hl (by decide) rfl (fun ls hl => ?_)
              refine lv_iload hx hb dX11_pool_100 (lv_at hl 0 rfl) ?_
              refine lv_if_ge (tgt := 108) hx hb dX11_pool_102 (by decide) (fun c60 => ?_) (fun c60 => ?_)
              · have hF := ite_p hF c60
                refine lv_iload hx hb dX11_pool_108 (lv_at hl 0 rfl) ?_
                refine lv_i2l (v := r58.toInt64) hx hb dX11_pool_110 rfl ?_
                refine lv_iload hx hb dX11_pool_111 (lv_at hl 2 rfl) ?_
                refine lv_i2l (v := x46.toInt64) hx hb dX11_pool_113 rfl ?_
                refine lv_lmul hx hb dX11_pool_114 ?_
                refine lv_lload hx hb dX11_pool_115 (lv_at hl 1 rfl) ?_
                obtain ⟨h61, hF⟩ := ite_s hF
                refine lv_ldiv hx hb dX11_pool_117 h61 ?_
                refine lv_l2i (v := ((r58.toInt64 * x46.toInt64) / x54).toInt32) hx hb dX11_pool_118 rfl ?_
                refine lv_topi (fun x62 ex62 => ?_)
                have hF := xlet_e hF ex62
                refine lv_istore (lv' := [(9, .int x62), (8, .int r58), (6, .long x54), (5, .int x46), (4, .ref q7), (0, .ref a0), (1, .int xa), (2, .int xb), (3, .int xc)]) hx hb dX11_pool_119 hl (by decide) rfl (fun ls hl => ?_)
                refine lv_aload_n hx hb dX11_pool_121 rfl (lv_at hl 5 rfl) ?_
                obtain ⟨q63, h64, hF⟩ := xb_s hF
                refine gr_X11_10 hE hD h1 h64 dX11_pool_122 ?_
                refine lv_iload_n hx hb dX11_pool_125 rfl (lv_at hl 6 rfl) ?_
                refine lv_iload hx hb dX11_pool_126 (lv_at hl 0 rfl) ?_
                refine lv_iload_n hx hb dX11_pool_128 rfl (lv_at hl 8 rfl) ?_
                obtain ⟨h65, hF⟩ := ite_s hF
                obtain ⟨r66, k67, hF⟩ := xb_s hF
                refine kVv (As := [.int xa, .int x62, .int xc]) (rest := []) hE hl hD (c_X7_arrive k67) kl_X11_176 (tE_7 h65) rfl rfl rfl rfl (Nat.le_of_ble_eq_true rfl) dX11_pool_129 ⟨Nat.le_of_ble_eq_true rfl, Nat.le_of_ble_eq_true rfl⟩ ⟨Nat.le_of_ble_eq_true rfl, Nat.le_of_ble_eq_true rfl⟩ (fun H locs (hD : tD G _ _ r66 H locs) => ?_)
                refine lv_aload_n hx hb dX11_pool_132 rfl (lv_at hl 5 rfl) ?_
                obtain ⟨h68, hF⟩ := ite_s hF
                obtain ⟨q69, h70, hF⟩ := xb_s hF
                refine gr_X11_10 hE hD h68 h70 dX11_pool_133 ?_
                refine lv_iload_n hx hb dX11_pool_136 rfl (lv_at hl 7 rfl) ?_
                refine lv_iload hx hb dX11_pool_137 (lv_at hl 1 rfl) ?_
                refine lv_iload hx hb dX11_pool_139 (lv_at hl 0 rfl) ?_
                refine lv_isub hx hb dX11_pool_141 ?_
                refine lv_iload_n hx hb dX11_pool_142 rfl (lv_at hl 8 rfl) ?_
                obtain ⟨h71, hF⟩ := ite_s hF
                obtain ⟨r72, k73, hF⟩ := xb_s hF
                refine kVv (As := [.int xb, .int (r58 - x62), .int xc]) (rest := []) hE hl hD (c_X7_arrive k73) kl_X11_176 (tE_7 h71) rfl rfl rfl rfl (Nat.le_of_ble_eq_true rfl) dX11_pool_143 ⟨Nat.le_of_ble_eq_true rfl, Nat.le_of_ble_eq_true rfl⟩ ⟨Nat.le_of_ble_eq_true rfl, Nat.le_of_ble_eq_true rfl⟩ (fun H locs (hD : tD G _ _ r72 H locs) => ?_)
                refine lv_iload hx hb dX11_pool_146 (lv_at hl 0 rfl) ?_
                obtain rfl := Option.some.inj hF
                exact x_iret hE hD ⟨rfl, rfl⟩ (by omega) (by omega) dX11_pool_148
              · have hF := ite_n hF c60
                refine lv_bipush (v := (-4 : Int32)) hx hb dX11_pool_105 (by decide) ?_
                obtain rfl := Option.some.inj hF
                exact x_iret hE hD ⟨rfl, rfl⟩ (by omega) (by omega) dX11_pool_107
            · have hF := ite_n hF c56
              exact B_X11_pool_j87 hE hD (lv_sub hl [3] rfl) hF
def F_X11_gives_j77 (u : xT) (a0 : Nat) : Option (Int32 × xT) := some ((-4 : Int32), u)
theorem B_X11_gives_j77 {p : Program} {l : Launch} {e : Env} {s : State} {m : MethodId} {args : Array Value} {below : List Frame} {meth : Method} {cd : Code} {G : xG} {w0 : xW} {rr : (Int32 × xT)} (hE : xE p s m args meth cd cX11_gives RX11 G 6 (Option.some Jvm.ClassFile.FieldType.int)) {u : xT} {a0 : Nat} {H : Heap} {locs : List Loc} {ls : Array Slot} (hD : tD G (xA w0 s.heap.size) s.heap u H locs) (hl : lv_has ls 6 [(0, .ref a0)]) (hF : F_X11_gives_j77 u a0 = some rr) : W p l e (xR 3 0 0) s m args below meth cd H locs 0 0 (xQi G w0 (fun r z => r = rr.1 ∧ z = ((tE G rr.2), rr.2.1)) below args s 0 0) (F0 m 77 ls []) := by
  have hx := hE.1; have hb := hE.2.1
  unfold F_X11_gives_j77 at hF
  refine lv_bipush (v := (-4 : Int32)) hx hb dX11_gives_77 (by decide) ?_
  obtain rfl := Option.some.inj hF
  exact x_iret hE hD ⟨rfl, rfl⟩ (by omega) (by omega) dX11_gives_79
def F_X11_gives_j38 (u : xT) (a0 : Nat) : Option (Int32 × xT) := some ((-1 : Int32), u)
theorem B_X11_gives_j38 {p : Program} {l : Launch} {e : Env} {s : State} {m : MethodId} {args : Array Value} {below : List Frame} {meth : Method} {cd : Code} {G : xG} {w0 : xW} {rr : (Int32 × xT)} (hE : xE p s m args meth cd cX11_gives RX11 G 6 (Option.some Jvm.ClassFile.FieldType.int)) {u : xT} {a0 : Nat} {H : Heap} {locs : List Loc} {ls : Array Slot} (hD : tD G (xA w0 s.heap.size) s.heap u H locs) (hl : lv_has ls 6 [(0, .ref a0)]) (hF : F_X11_gives_j38 u a0 = some rr) : W p l e (xR 3 0 0) s m args below meth cd H locs 0 0 (xQi G w0 (fun r z => r = rr.1 ∧ z = ((tE G rr.2), rr.2.1)) below args s 0 0) (F0 m 38 ls []) := by
  have hx := hE.1; have hb := hE.2.1
  unfold F_X11_gives_j38 at hF
  refine lv_iconst (v := (-1 : Int32)) hx hb dX11_gives_38 (by decide) ?_
  obtain rfl := Option.some.inj hF
  exact x_iret hE hD ⟨rfl, rfl⟩ (by omega) (by omega) dX11_gives_39
def F_X11_gives (u : xT) (a0 : Nat) (xa : Int32) (xb : Int32) (xc : Int32) : Option (Int32 × xT) := if tK u a0 = 11 then (tP u a0 0).bind (fun q2 => if tK u q2 = 7 then (F_X7_isPerson u q2 xa).bind (fun r5 => if r5 = 0 then F_X11_gives_j38 u a0 else (tP u a0 0).bind (fun q9 => if tK u q9 = 7 then (F_X7_isPerson u q9 xb).bind (fun r12 => if r12 = 0 then F_X11_gives_j38 u a0 else if xa = xb then F_X11_gives_j38 u a0 else if xc < (1 : Int32) then F_X11_gives_j38 u a0 else if xc ≤ (1000000000 : Int32) then (tP u a0 0).bind (fun q19 => if tK u q19 = 7 then (tP u q19 4).bind (fun q22 => if tK u q22 = 20 then if xIn xb (tN u q22) then xlet (((tI u q22 xb.toNatClampNeg).toInt64) + xc.toInt64) (fun x26 => (tP u a0 0).bind (fun q27 => if tK u q27 = 7 then (tP u q27 4).bind (fun q30 => if tK u q30 = 20 then if xIn xa (tN u q30) then if (tI u q30 xa.toNatClampNeg) < xc then F_X11_gives_j77 u a0 else if (lg_cmp x26 (1000000000 : Int64)) ≤ 0 then (tP u a0 0).bind (fun q36 => if tK u q36 = 7 then (tP u q36 4).bind (fun q39 => if tK u q39 = 20 then if xIn xa (tN u q39) then if xIn xa (tN u q39) then xlet (tSI u q39 xa.toNatClampNeg ((tI u q39 xa.toNatClampNeg) - xc)) (fun t44 => (tP t44 a0 0).bind (fun q54 => if tK t44 q54 = 7 then (tP t44 q54 4).bind (fun q57 => if tK t44 q57 = 20 then if xIn xb (tN t44 q57) then xlet (tSI t44 q57 xb.toNatClampNeg x26.toInt32) (fun t61 => some (x26.toInt32, t61)) else none else none) else none)) else none else none else none) else none) else F_X11_gives_j77 u a0 else none else none) else none)) else none else none) else none) else F_X11_gives_j38 u a0) else none)) else none) else none
theorem c_X11_gives {l : Launch} {G : xG} {rr : (Int32 × xT)} {u : xT} {a0 : Nat} {xa : Int32} {xb : Int32} {xc : Int32} (hF : F_X11_gives u a0 xa xb xc = some rr) : xMi l G yX11_gives cX11_gives 6 (Option.some Jvm.ClassFile.FieldType.int) 3 0 0 [.ref a0, .int xa, .int xb, .int xc] (tE G u) u.1 (fun r z => r = rr.1 ∧ z = ((tE G rr.2), rr.2.1)) := by
  unfold F_X11_gives at hF
  refine x_startI rfl (Nat.le_of_ble_eq_true rfl) (fun p e s m args below meth cd ls hE hnm hl hD => ?_)
  have hx := hE.1; have hb := hE.2.1
  have hl : lv_has ls 6 [(0, .ref a0), (1, .int xa), (2, .int xb), (3, .int xc)] := hl
  have hD : tD G (xA (tE G u) s.heap.size) s.heap u s.heap [] := hD
  refine lv_aload_n hx hb dX11_gives_0 rfl (lv_at hl 0 rfl) ?_
  obtain ⟨h1, hF⟩ := ite_s hF
  obtain ⟨q2, h3, hF⟩ := xb_s hF
  refine gr_X11_10 hE hD h1 h3 dX11_gives_1 ?_
  refine lv_iload_n hx hb dX11_gives_4 rfl (lv_at hl 1 rfl) ?_
  obtain ⟨h4, hF⟩ := ite_s hF
  obtain ⟨r5, k6, hF⟩ := xb_s hF
  refine kVz (As := [.int xa]) (rest := []) hE hl hD (c_X7_isPerson k6) kl_X11_161 (tE_7 h4) rfl rfl rfl rfl (Nat.le_of_ble_eq_true rfl) dX11_gives_5 ⟨Nat.le_of_ble_eq_true rfl, Nat.le_of_ble_eq_true rfl⟩ ⟨Nat.le_of_ble_eq_true rfl, Nat.le_of_ble_eq_true rfl⟩ (fun H locs z7 (hD : tD G _ _ u H locs) => ?_)
  refine lv_if_eq (tgt := 38) hx hb dX11_gives_8 (by decide) (fun c8 => ?_) (fun c8 => ?_)
  · have hF := ite_p hF c8
    exact B_X11_gives_j38 hE hD (lv_sub hl [0] rfl) hF
  · have hF := ite_n hF c8
    refine lv_aload_n hx hb dX11_gives_11 rfl (lv_at hl 0 rfl) ?_
    obtain ⟨q9, h10, hF⟩ := xb_s hF
    refine gr_X11_10 hE hD h1 h10 dX11_gives_12 ?_
    refine lv_iload_n hx hb dX11_gives_15 rfl (lv_at hl 2 rfl) ?_
    obtain ⟨h11, hF⟩ := ite_s hF
    obtain ⟨r12, k13, hF⟩ := xb_s hF
    refine kVz (As := [.int xb]) (rest := []) hE hl hD (c_X7_isPerson k13) kl_X11_161 (tE_7 h11) rfl rfl rfl rfl (Nat.le_of_ble_eq_true rfl) dX11_gives_16 ⟨Nat.le_of_ble_eq_true rfl, Nat.le_of_ble_eq_true rfl⟩ ⟨Nat.le_of_ble_eq_true rfl, Nat.le_of_ble_eq_true rfl⟩ (fun H locs z14 (hD : tD G _ _ u H locs) => ?_)
    refine lv_if_eq (tgt := 38) hx hb dX11_gives_19 (by decide) (fun c15 => ?_) (fun c15 => ?_)
    · have hF := ite_p hF c15
      exact B_X11_gives_j38 hE hD (lv_sub hl [0] rfl) hF
    · have hF := ite_n hF c15
      refine lv_iload_n hx hb dX11_gives_22 rfl (lv_at hl 1 rfl) ?_
      refine lv_iload_n hx hb dX11_gives_23 rfl (lv_at hl 2 rfl) ?_
      refine lv_icmp_eq (tgt := 38) hx hb dX11_gives_24 (by decide) (fun c16 => ?_) (fun c16 => ?_)
      · have hF := ite_p hF c16
        exact B_X11_gives_j38 hE hD (lv_sub hl [0] rfl) hF
      · have hF := ite_n hF c16
        refine lv_iload_n hx hb dX11_gives_27 rfl (lv_at hl 3 rfl) ?_
        refine lv_iconst (v := (1 : Int32)) hx hb dX11_gives_28 (by decide) ?_
        refine lv_icmp_lt (tgt := 38) hx hb dX11_gives_29 (by decide) (fun c17 => ?_) (fun c17 => ?_)
        · have hF := ite_p hF c17
          exact B_X11_gives_j38 hE hD (lv_sub hl [0] rfl) hF
        · have hF := ite_n hF c17
          refine lv_iload_n hx hb dX11_gives_32 rfl (lv_at hl 3 rfl) ?_
          refine lv_ldc (v := (1000000000 : Int32)) hx hb hE.2.2.1 (hE.2.2.2.1 _ kw3_121) dX11_gives_33 ?_
          refine lv_icmp_le (tgt := 40) hx hb dX11_gives_35 (by decide) (fun c18 => ?_) (fun c18 => ?_)
          · have hF := ite_p hF c18
            refine lv_aload_n hx hb dX11_gives_40 rfl (lv_at hl 0 rfl) ?_
            obtain ⟨q19, h20, hF⟩ := xb_s hF
            refine gr_X11_10 hE hD h1 h20 dX11_gives_41 ?_
            obtain ⟨h21, hF⟩ := ite_s hF
            obtain ⟨q22, h23, hF⟩ := xb_s hF
            refine gr_X11_164 hE hD h21 h23 dX11_gives_44 ?_
            refine lv_iload_n hx hb dX11_gives_47 rfl (lv_at hl 2 rfl) ?_
            obtain ⟨h24, hF⟩ := ite_s hF
            obtain ⟨h25, hF⟩ := ite_s hF
            refine t_iald hE hD h24 h25 dX11_gives_48 ?_
            refine lv_i2l (v := (tI u q22 xb.toNatClampNeg).toInt64) hx hb dX11_gives_49 rfl ?_
            refine lv_iload_n hx hb dX11_gives_50 rfl (lv_at hl 3 rfl) ?_
            refine lv_i2l (v := xc.toInt64) hx hb dX11_gives_51 rfl ?_
            refine lv_ladd hx hb dX11_gives_52 ?_
            refine lv_topl (fun x26 ex26 => ?_)
            have hF := xlet_e hF ex26
            refine lv_lstore (lv' := [(4, .long x26), (0, .ref a0), (1, .int xa), (2, .int xb), (3, .int xc)]) hx hb dX11_gives_53 hl (by decide) rfl (fun ls hl => ?_)
            refine lv_aload_n hx hb dX11_gives_55 rfl (lv_at hl 1 rfl) ?_
            obtain ⟨q27, h28, hF⟩ := xb_s hF
            refine gr_X11_10 hE hD h1 h28 dX11_gives_56 ?_
            obtain ⟨h29, hF⟩ := ite_s hF
            obtain ⟨q30, h31, hF⟩ := xb_s hF
            refine gr_X11_164 hE hD h29 h31 dX11_gives_59 ?_
            refine lv_iload_n hx hb dX11_gives_62 rfl (lv_at hl 2 rfl) ?_
            obtain ⟨h32, hF⟩ := ite_s hF
            obtain ⟨h33, hF⟩ := ite_s hF
            refine t_iald hE hD h32 h33 dX11_gives_63 ?_
            refine lv_iload_n hx hb dX11_gives_64 rfl (lv_at hl 4 rfl) ?_
            refine lv_icmp_lt (tgt := 77) hx hb dX11_gives_65 (by decide) (fun c34 => ?_) (fun c34 => ?_)
            · have hF := ite_p hF c34
              exact B_X11_gives_j77 hE hD (lv_sub hl [1] rfl) hF
            · have hF := ite_n hF c34
              refine lv_lload hx hb dX11_gives_68 (lv_at hl 0 rfl) ?_
              refine lv_ldc2 (v := (1000000000 : Int64)) hx hb hE.2.2.1 (hE.2.2.2.1 _ kw3_187) dX11_gives_70 ?_
              refine W.lcmp hx hb dX11_gives_73 ?_
              refine lv_if_le (tgt := 80) hx hb dX11_gives_74 (by decide) (fun c35 => ?_) (fun c35 => ?_)
              · have hF := ite_p hF c35
                refine lv_aload_n hx hb dX11_gives_80 rfl (lv_at hl 1 rfl) ?_
                obtain ⟨q36, h37, hF⟩ := xb_s hF
                refine gr_X11_10 hE hD h1 h37 dX11_gives_81 ?_
                obtain ⟨h38, hF⟩ := ite_s hF
                obtain ⟨q39, h40, hF⟩ := xb_s hF
                refine gr_X11_164 hE hD h38 h40 dX11_gives_84 ?_
                refine lv_iload_n hx hb dX11_gives_87 rfl (lv_at hl 2 rfl) ?_
                refine lv_dup2_11 hx hb dX11_gives_88 rfl rfl ?_
                obtain ⟨h41, hF⟩ := ite_s hF
                obtain ⟨h42, hF⟩ := ite_s hF
                refine t_iald hE hD h41 h42 dX11_gives_89 ?_
                refine lv_iload_n hx hb dX11_gives_90 rfl (lv_at hl 4 rfl) ?_
                refine lv_isub hx hb dX11_gives_91 ?_
                obtain ⟨h43, hF⟩ := ite_s hF
                refine t_iast hE hD h41 h43 dX11_gives_92 (fun t44 H locs et44 hD => ?_)
                have hF := xlet_e hF et44
                have h45 : tK t44 a0 = 11 := by rw [et44]; exact h1
                have h46 : tK t44 q2 = 7 := by rw [et44]; exact h4
                have h47 : tK t44 q9 = 7 := by rw [et44]; exact h11
                have h48 : tK t44 q19 = 7 := by rw [et44]; exact h21
                have h49 : tK t44 q22 = 20 := by rw [et44]; exact h24
                have h50 : tK t44 q27 = 7 := by rw [et44]; exact h29
                have h51 : tK t44 q30 = 20 := by rw [et44]; exact h32
                have h52 : tK t44 q36 = 7 := by rw [et44]; exact h38
                have h53 : tK t44 q39 = 20 := by rw [et44]; exact h41
                refine lv_aload_n hx hb dX11_gives_93 rfl (lv_at hl 1 rfl) ?_
                obtain ⟨q54, h55, hF⟩ := xb_s hF
                refine gr_X11_10 hE hD h45 h55 dX11_gives_94 ?_
                obtain ⟨h56, hF⟩ := ite_s hF
                obtain ⟨q57, h58, hF⟩ := xb_s hF
                refine gr_X11_164 hE hD h56 h58 dX11_gives_97 ?_
                refine lv_iload_n hx hb dX11_gives_100 rfl (lv_at hl 3 rfl) ?_
                refine lv_lload hx hb dX11_gives_101 (lv_at hl 0 rfl) ?_
                refine lv_l2i (v := x26.toInt32) hx hb dX11_gives_103 rfl ?_
                obtain ⟨h59, hF⟩ := ite_s hF
                obtain ⟨h60, hF⟩ := ite_s hF
                refine t_iast hE hD h59 h60 dX11_gives_104 (fun t61 H locs et61 hD => ?_)
                have hF := xlet_e hF et61
                have h62 : tK t61 a0 = 11 := by rw [et61]; exact h45
                have h63 : tK t61 q2 = 7 := by rw [et61]; exact h46
                have h64 : tK t61 q9 = 7 := by rw [et61]; exact h47
                have h65 : tK t61 q19 = 7 := by rw [et61]; exact h48
                have h66 : tK t61 q22 = 20 := by rw [et61]; exact h49
                have h67 : tK t61 q27 = 7 := by rw [et61]; exact h50
                have h68 : tK t61 q30 = 20 := by rw [et61]; exact h51
                have h69 : tK t61 q36 = 7 := by rw [et61]; exact h52
                have h70 : tK t61 q39 = 20 := by rw [et61]; exact h53
                have h71 : tK t61 q54 = 7 := by rw [et61]; exact h56
                have h72 : tK t61 q57 = 20 := by rw [et61]; exact h59
                refine lv_lload hx hb dX11_gives_105 (lv_at hl 0 rfl) ?_
                refine lv_l2i (v := x26.toInt32) hx hb dX11_gives_107 rfl ?_
                obtain rfl := Option.some.inj hF
                exact x_iret hE hD ⟨rfl, rfl⟩ (by omega) (by omega) dX11_gives_108
              · have hF := ite_n hF c35
                exact B_X11_gives_j77 hE hD (lv_sub hl [1] rfl) hF
          · have hF := ite_n hF c18
            exact B_X11_gives_j38 hE hD (lv_sub hl [0] rfl) hF
def F_X11_behindAll_j27 (u : xT) (y3 : Int32) : Option Int32 := some y3
theorem B_X11_behindAll_j27 {p : Program} {l : Launch} {e : Env} {s : State} {m : MethodId} {args : Array Value} {below : List Frame} {meth : Method} {cd : Code} {G : xG} {w0 : xW} {rr : Int32} (hE : xE p s m args meth cd cX11_behindAll RX11 G 5 (Option.some Jvm.ClassFile.FieldType.int)) {u : xT} {y3 : Int32} {H : Heap} {locs : List Loc} {ls : Array Slot} (hD : tD G (xA w0 s.heap.size) s.heap u H locs) (hl : lv_has ls 5 [(3, .int y3)]) (hF : F_X11_behindAll_j27 u y3 = some rr) : W p l e (xR 6 0 0) s m args below meth cd H locs 0 0 (xQi G w0 (fun r z => r = rr ∧ z = ((tE G u), u.1)) below args s 0 0) (F0 m 27 ls []) := by
  have hx := hE.1; have hb := hE.2.1
  unfold F_X11_behindAll_j27 at hF
  refine lv_iload_n hx hb dX11_behindAll_27 rfl (lv_at hl 0 rfl) ?_
  obtain rfl := Option.some.inj hF
  exact x_iret hE hD ⟨rfl, rfl⟩ (by omega) (by omega) dX11_behindAll_28
def F_X11_behindAll_l5 : Nat → xT → Nat → Int32 → Int32 → Int32 → Option Int32
  | 0, _, _, _, _, _ => none
  | nn + 1, u, y0, y2, y3, y4 => if y2 ≤ y4 then F_X11_behindAll_j27 u y3 else if y3 < 0 then F_X11_behindAll_j27 u y3 else if isBk (tK u y0) then (F_X0_becomes u y0 y3).bind (fun r4 => xlet (y4 + (1 : Int32)) (fun x6 => F_X11_behindAll_l5 nn u y0 y2 r4 x6)) else none
theorem L_X11_behindAll_l5 {p : Program} {l : Launch} {e : Env} {s : State} {m : MethodId} {args : Array Value} {below : List Frame} {meth : Method} {cd : Code} {G : xG} {w0 : xW} {rr : Int32} (hE : xE p s m args meth cd cX11_behindAll RX11 G 5 (Option.some Jvm.ClassFile.FieldType.int)) : ∀ (nn : Nat) {u : xT} {y0 : Nat} {y2 : Int32} {y3 : Int32} {y4 : Int32} {H : Heap} {locs : List Loc} {ls : Array Slot} , tD G (xA w0 s.heap.size) s.heap u H locs → lv_has ls 5 [(0, .ref y0), (2, .int y2), (3, .int y3), (4, .int y4)] → F_X11_behindAll_l5 nn u y0 y2 y3 y4 = some rr → W p l e (xR 6 0 0) s m args below meth cd H locs 0 0 (xQi G w0 (fun r z => r = rr ∧ z = ((tE G u), u.1)) below args s 0 0) (F0 m 5 ls []) := by
  have hx := hE.1; have hb := hE.2.1
  intro nn
  induction nn with
  | zero => intro u y0 y2 y3 y4 H locs ls hD hl hF; rw [F_X11_behindAll_l5] at hF; cases hF
  | succ nn ih =>
    intro u y0 y2 y3 y4 H locs ls hD hl hF
    rw [F_X11_behindAll_l5] at hF
    refine lv_iload hx hb dX11_behindAll_5 (lv_at hl 3 rfl) ?_
    refine lv_iload_n hx hb dX11_behindAll_7 rfl (lv_at hl 1 rfl) ?_
    refine lv_icmp_ge (tgt := 27) hx hb dX11_behindAll_8 (by decide) (fun c1 => ?_) (fun c1 => ?_)
    · have hF := ite_p hF c1
      exact B_X11_behindAll_j27 hE hD (lv_sub hl [2] rfl) hF
    · have hF := ite_n hF c1
      refine lv_iload_n hx hb dX11_behindAll_11 rfl (lv_at hl 2 rfl) ?_
      refine lv_if_lt (tgt := 27) hx hb dX11_behindAll_12 (by decide) (fun c2 => ?_) (fun c2 => ?_)
      · have hF := ite_p hF c2
        exact B_X11_behindAll_j27 hE hD (lv_sub hl [2] rfl) hF
      · have hF := ite_n hF c2
        refine lv_aload_n hx hb dX11_behindAll_15 rfl (lv_at hl 0 rfl) ?_
        refine lv_iload_n hx hb dX11_behindAll_16 rfl (lv_at hl 2 rfl) ?_
        obtain ⟨h3, hF⟩ := ite_s hF
        obtain ⟨r4, k5, hF⟩ := xb_s hF
        refine kB_X11_173 (rest := []) hE hl hD h3 k5 (Nat.le_of_ble_eq_true rfl) dX11_behindAll_17 ⟨Nat.le_of_ble_eq_true rfl, Nat.le_of_ble_eq_true rfl⟩ ⟨Nat.le_of_ble_eq_true rfl, Nat.le_of_ble_eq_true rfl⟩ (fun H locs (hD : tD G _ _ u H locs) => ?_)
        refine lv_istore_n (lv' := [(3, .int r4), (0, .ref y0), (2, .int y2), (4, .int y4)]) hx hb dX11_behindAll_20 rfl hl (by decide) rfl (fun ls hl => ?_)
        obtain ⟨x6, ex6⟩ : ∃ y : Int32, y = y4 + (1 : Int32) := ⟨_, rfl⟩
        have hF := xlet_e hF ex6
        refine lv_iinc (v := x6) (lv' := [(4, .int x6), (3, .int r4), (0, .ref y0), (2, .int y2)]) hx hb dX11_behindAll_21 hl (k := 3) rfl (by rw [ex6]; rfl) (by decide) rfl (fun ls hl => ?_)
        refine lv_goto (tgt := 5) hx hb dX11_behindAll_24 (by decide) ?_
        exact ih hD (lv_sub hl [2, 3, 1, 0] rfl) hF
def F_X11_behindAll (u : xT) (xa : Nat) (xb : Int32) (xc : Int32) : Option Int32 := F_X11_behindAll_l5 xFuel u xa xc xb (0 : Int32)
theorem c_X11_behindAll {l : Launch} {G : xG} {rr : Int32} {u : xT} {xa : Nat} {xb : Int32} {xc : Int32} (hF : F_X11_behindAll u xa xb xc = some rr) : xMi l G yX11_behindAll cX11_behindAll 5 (Option.some Jvm.ClassFile.FieldType.int) 6 0 0 [.ref xa, .int xb, .int xc] (tE G u) u.1 (fun r z => r = rr ∧ z = ((tE G u), u.1)) := by
  unfold F_X11_behindAll at hF
  refine x_startI rfl (Nat.le_of_ble_eq_true rfl) (fun p e s m args below meth cd ls hE hnm hl hD => ?_)
  have hx := hE.1; have hb := hE.2.1
  have hl : lv_has ls 5 [(0, .ref xa), (1, .int xb), (2, .int xc)] := hl
  have hD : tD G (xA (tE G u) s.heap.size) s.heap u s.heap [] := hD
  refine lv_iload_n hx hb dX11_behindAll_0 rfl (lv_at hl 1 rfl) ?_
  refine lv_istore_n (lv' := [(3, .int xb), (0, .ref xa), (1, .int xb), (2, .int xc)]) hx hb dX11_behindAll_1 rfl hl (by decide) rfl (fun ls hl => ?_)
  refine lv_iconst (v := (0 : Int32)) hx hb dX11_behindAll_2 (by decide) ?_
  refine lv_istore (lv' := [(4, .int (0 : Int32)), (3, .int xb), (0, .ref xa), (1, .int xb), (2, .int xc)]) hx hb dX11_behindAll_3 hl (by decide) rfl (fun ls hl => ?_)
  exact L_X11_behindAll_l5 hE _ hD (lv_sub hl [2, 4, 1, 0] rfl) hF
def F_X11_after_j55 (u : xT) (a0 : Nat) (s0 : Int32) : Option Int32 := some s0
theorem B_X11_after_j55 {p : Program} {l : Launch} {e : Env} {s : State} {m : MethodId} {args : Array Value} {below : List Frame} {meth : Method} {cd : Code} {G : xG} {w0 : xW} {rr : Int32} (hE : xE p s m args meth cd cX11_after RX11 G 6 (Option.some Jvm.ClassFile.FieldType.int)) {u : xT} {a0 : Nat} {s0 : Int32} {H : Heap} {locs : List Loc} {ls : Array Slot} (hD : tD G (xA w0 s.heap.size) s.heap u H locs) (hl : lv_has ls 6 [(0, .ref a0)]) (hF : F_X11_after_j55 u a0 s0 = some rr) : W p l e (xR 7 0 0) s m args below meth cd H locs 0 0 (xQi G w0 (fun r z => r = rr ∧ z = ((tE G u), u.1)) below args s 0 0) (F0 m 55 ls [.int s0]) := by
  have hx := hE.1; have hb := hE.2.1
  unfold F_X11_after_j55 at hF
  obtain rfl := Option.some.inj hF
  exact x_iret hE hD ⟨rfl, rfl⟩ (by omega) (by omega) dX11_after_55
def F_X11_after_j32 (u : xT) (a0 : Nat) : Option Int32 := some (-1 : Int32)
theorem B_X11_after_j32 {p : Program} {l : Launch} {e : Env} {s : State} {m : MethodId} {args : Array Value} {below : List Frame} {meth : Method} {cd : Code} {G : xG} {w0 : xW} {rr : Int32} (hE : xE p s m args meth cd cX11_after RX11 G 6 (Option.some Jvm.ClassFile.FieldType.int)) {u : xT} {a0 : Nat} {H : Heap} {locs : List Loc} {ls : Array Slot} (hD : tD G (xA w0 s.heap.size) s.heap u H locs) (hl : lv_has ls 6 [(0, .ref a0)]) (hF : F_X11_after_j32 u a0 = some rr) : W p l e (xR 7 0 0) s m args below meth cd H locs 0 0 (xQi G w0 (fun r z => r = rr ∧ z = ((tE G u), u.1)) below args s 0 0) (F0 m 32 ls []) := by
  have hx := hE.1; have hb := hE.2.1
  unfold F_X11_after_j32 at hF
  refine lv_iconst (v := (-1 : Int32)) hx hb dX11_after_32 (by decide) ?_
  obtain rfl := Option.some.inj hF
  exact x_iret hE hD ⟨rfl, rfl⟩ (by omega) (by omega) dX11_after_33
def F_X11_after (u : xT) (a0 : Nat) (xa : Int32) (xb : Int32) (xc : Int32) : Option Int32 := if tK u a0 = 11 then (tP u a0 0).bind (fun q2 => if tK u q2 = 7 then (F_X7_bridgeAt u q2 xa).bind (fun r5 => xopt (r5) (F_X11_after_j32 u a0) (fun q7 => (F_X11_isPurse xb).bind (fun r9 => if r9 = 0 then F_X11_after_j32 u a0 else (F_X11_isIn xc (0 : Int32) (60 : Int32)).bind (fun r13 => if r13 = 0 then F_X11_after_j32 u a0 else (F_X11_behindAll u q7 xb xc).bind (fun r17 => if 0 ≤ r17 then F_X11_after_j55 u a0 r17 else F_X11_after_j55 u a0 (-3 : Int32)))))) else none) else none
theorem c_X11_after {l : Launch} {G : xG} {rr : Int32} {u : xT} {a0 : Nat} {xa : Int32} {xb : Int32} {xc : Int32} (hF : F_X11_after u a0 xa xb xc = some rr) : xMi l G yX11_after cX11_after 6 (Option.some Jvm.ClassFile.FieldType.int) 7 0 0 [.ref a0, .int xa, .int xb, .int xc] (tE G u) u.1 (fun r z => r = rr ∧ z = ((tE G u), u.1)) := by
  unfold F_X11_after at hF
  refine x_startI rfl (Nat.le_of_ble_eq_true rfl) (fun p e s m args below meth cd ls hE hnm hl hD => ?_)
  have hx := hE.1; have hb := hE.2.1
  have hl : lv_has ls 6 [(0, .ref a0), (1, .int xa), (2, .int xb), (3, .int xc)] := hl
  have hD : tD G (xA (tE G u) s.heap.size) s.heap u s.heap [] := hD
  refine lv_aload_n hx hb dX11_after_0 rfl (lv_at hl 0 rfl) ?_
  obtain ⟨h1, hF⟩ := ite_s hF
  obtain ⟨q2, h3, hF⟩ := xb_s hF
  refine gr_X11_10 hE hD h1 h3 dX11_after_1 ?_
  refine lv_iload_n hx hb dX11_after_4 rfl (lv_at hl 1 rfl) ?_
  obtain ⟨h4, hF⟩ := ite_s hF
  obtain ⟨r5, k6, hF⟩ := xb_s hF
  refine kVq (As := [.int xa]) (rest := []) hE hl hD (c_X7_bridgeAt k6) kl_X11_82 (tE_7 h4) rfl rfl rfl rfl (Nat.le_of_ble_eq_true rfl) dX11_after_5 ⟨Nat.le_of_ble_eq_true rfl, Nat.le_of_ble_eq_true rfl⟩ ⟨Nat.le_of_ble_eq_true rfl, Nat.le_of_ble_eq_true rfl⟩ (fun H locs (hD : tD G _ _ u H locs) => ?_)
  refine t_split hF (fun h8 hF => ?_) (fun q7 h8 hF => ?_)
  · refine lv_astoreN (lv' := [(4, .null), (0, .ref a0), (1, .int xa), (2, .int xb), (3, .int xc)]) hx hb dX11_after_8 hl (by decide) rfl (fun ls hl => ?_)
    refine lv_aloadN hx hb dX11_after_10 (lv_at hl 0 rfl) ?_
    refine lv_ifnullN (tgt := 32) hx hb dX11_after_12 (by decide) ?_
    exact B_X11_after_j32 hE hD (lv_sub hl [1] rfl) hF
  · refine lv_astore (lv' := [(4, .ref q7), (0, .ref a0), (1, .int xa), (2, .int xb), (3, .int xc)]) hx hb dX11_after_8 hl (by decide) rfl (fun ls hl => ?_)
    refine lv_aload hx hb dX11_after_10 (lv_at hl 0 rfl) ?_
    refine lv_ifnull hx hb dX11_after_12 ?_
    refine lv_iload_n hx hb dX11_after_15 rfl (lv_at hl 3 rfl) ?_
    obtain ⟨r9, k10, hF⟩ := xb_s hF
    refine kSz (As := [.int xb]) (rest := []) hE hl hD (c_X11_isPurse k10) kl_X11_154 rfl rfl (Nat.le_of_ble_eq_true rfl) dX11_after_16 ⟨Nat.le_of_ble_eq_true rfl, Nat.le_of_ble_eq_true rfl⟩ ⟨Nat.le_of_ble_eq_true rfl, Nat.le_of_ble_eq_true rfl⟩ (fun H locs z11 (hD : tD G _ _ u H locs) => ?_)
    refine lv_if_eq (tgt := 32) hx hb dX11_after_19 (by decide) (fun c12 => ?_) (fun c12 => ?_)
    · have hF := ite_p hF c12
      exact B_X11_after_j32 hE hD (lv_sub hl [1] rfl) hF
    · have hF := ite_n hF c12
      refine lv_iload_n hx hb dX11_after_22 rfl (lv_at hl 4 rfl) ?_
      refine lv_iconst (v := (0 : Int32)) hx hb dX11_after_23 (by decide) ?_
      refine lv_bipush (v := (60 : Int32)) hx hb dX11_after_24 (by decide) ?_
      obtain ⟨r13, k14, hF⟩ := xb_s hF
      refine kSz (As := [.int xc, .int (0 : Int32), .int (60 : Int32)]) (rest := []) hE hl hD (c_X11_isIn k14) kl_X11_183 rfl rfl (Nat.le_of_ble_eq_true rfl) dX11_after_26 ⟨Nat.le_of_ble_eq_true rfl, Nat.le_of_ble_eq_true rfl⟩ ⟨Nat.le_of_ble_eq_true rfl, Nat.le_of_ble_eq_true rfl⟩ (fun H locs z15 (hD : tD G _ _ u H locs) => ?_)
      refine lv_if_ne (tgt := 34) hx hb dX11_after_29 (by decide) (fun c16 => ?_) (fun c16 => ?_)
      · have hF := ite_n hF c16
        refine lv_aload hx hb dX11_after_34 (lv_at hl 0 rfl) ?_
        refine lv_iload_n hx hb dX11_after_36 rfl (lv_at hl 3 rfl) ?_
        refine lv_iload_n hx hb dX11_after_37 rfl (lv_at hl 4 rfl) ?_
        obtain ⟨r17, k18, hF⟩ := xb_s hF
        refine kSi (As := [.ref q7, .int xb, .int xc]) (rest := []) hE hl hD (c_X11_behindAll k18) kl_X11_187 rfl rfl (Nat.le_of_ble_eq_true rfl) dX11_after_38 ⟨Nat.le_of_ble_eq_true rfl, Nat.le_of_ble_eq_true rfl⟩ ⟨Nat.le_of_ble_eq_true rfl, Nat.le_of_ble_eq_true rfl⟩ (fun H locs (hD : tD G _ _ u H locs) => ?_)
        refine lv_istore (lv' := [(5, .int r17), (4, .ref q7), (0, .ref a0), (1, .int xa), (2, .int xb), (3, .int xc)]) hx hb dX11_after_41 hl (by decide) rfl (fun ls hl => ?_)
        refine lv_iload hx hb dX11_after_43 (lv_at hl 0 rfl) ?_
        refine lv_if_ge (tgt := 53) hx hb dX11_after_45 (by decide) (fun c19 => ?_) (fun c19 => ?_)
        · have hF := ite_p hF c19
          refine lv_iload hx hb dX11_after_53 (lv_at hl 0 rfl) ?_
          exact B_X11_after_j55 hE hD (lv_sub hl [2] rfl) hF
        · have hF := ite_n hF c19
          refine lv_bipush (v := (-3 : Int32)) hx hb dX11_after_48 (by decide) ?_
          refine lv_goto (tgt := 55) hx hb dX11_after_50 (by decide) ?_
          exact B_X11_after_j55 hE hD (lv_sub hl [2] rfl) hF
      · have hF := ite_p hF c16
        exact B_X11_after_j32 hE hD (lv_sub hl [1] rfl) hF
theorem ku_X11_341_1 : xLU RX11 RX1 "DoubledBridge$Bridge" 341 ⟨"DoubledBridge$Bridge", "leastAhead", "(I)I"⟩ yX0_leastAhead cX0_leastAhead 4 (Option.some Jvm.ClassFile.FieldType.int) 1 := ⟨List.forall_mem_cons.mpr ⟨kw3_206, List.forall_mem_cons.mpr ⟨kw3_208, List.forall_mem_cons.mpr ⟨kw3_209, List.forall_mem_cons.mpr ⟨kw3_207, List.forall_mem_cons.mpr ⟨kw1_6, List.forall_mem_cons.mpr ⟨kw3_214, fun _ h => absurd h List.not_mem_nil⟩⟩⟩⟩⟩⟩, Or.inl rfl, by decide, by decide, by decide +kernel⟩
theorem ku_X11_341_4 : xLU RX11 RX4 "DoubledBridge$Bridge" 341 ⟨"DoubledBridge$Bridge", "leastAhead", "(I)I"⟩ yX0_leastAhead cX0_leastAhead 4 (Option.some Jvm.ClassFile.FieldType.int) 1 := ⟨List.forall_mem_cons.mpr ⟨kw3_206, List.forall_mem_cons.mpr ⟨kw3_208, List.forall_mem_cons.mpr ⟨kw3_210, List.forall_mem_cons.mpr ⟨kw3_207, List.forall_mem_cons.mpr ⟨kw1_6, List.forall_mem_cons.mpr ⟨kw3_214, fun _ h => absurd h List.not_mem_nil⟩⟩⟩⟩⟩⟩, Or.inl rfl, by decide, by decide, by decide +kernel⟩
theorem ku_X11_341_5 : xLU RX11 RX5 "DoubledBridge$Bridge" 341 ⟨"DoubledBridge$Bridge", "leastAhead", "(I)I"⟩ yX0_leastAhead cX0_leastAhead 4 (Option.some Jvm.ClassFile.FieldType.int) 1 := ⟨List.forall_mem_cons.mpr ⟨kw3_206, List.forall_mem_cons.mpr ⟨kw3_208, List.forall_mem_cons.mpr ⟨kw3_211, List.forall_mem_cons.mpr ⟨kw3_207, List.forall_mem_cons.mpr ⟨kw1_6, List.forall_mem_cons.mpr ⟨kw3_214, fun _ h => absurd h List.not_mem_nil⟩⟩⟩⟩⟩⟩, Or.inl rfl, by decide, by decide, by decide +kernel⟩
theorem ku_X11_341_6 : xLU RX11 RX6 "DoubledBridge$Bridge" 341 ⟨"DoubledBridge$Bridge", "leastAhead", "(I)I"⟩ yX0_leastAhead cX0_leastAhead 4 (Option.some Jvm.ClassFile.FieldType.int) 1 := ⟨List.forall_mem_cons.mpr ⟨kw3_206, List.forall_mem_cons.mpr ⟨kw3_208, List.forall_mem_cons.mpr ⟨kw3_212, List.forall_mem_cons.mpr ⟨kw3_207, List.forall_mem_cons.mpr ⟨kw1_6, List.forall_mem_cons.mpr ⟨kw3_214, fun _ h => absurd h List.not_mem_nil⟩⟩⟩⟩⟩⟩, Or.inl rfl, by decide, by decide, by decide +kernel⟩
theorem ku_X11_341_9 : xLU RX11 RX9 "DoubledBridge$Bridge" 341 ⟨"DoubledBridge$Bridge", "leastAhead", "(I)I"⟩ yX0_leastAhead cX0_leastAhead 4 (Option.some Jvm.ClassFile.FieldType.int) 1 := ⟨List.forall_mem_cons.mpr ⟨kw3_206, List.forall_mem_cons.mpr ⟨kw3_208, List.forall_mem_cons.mpr ⟨kw3_213, List.forall_mem_cons.mpr ⟨kw3_207, List.forall_mem_cons.mpr ⟨kw1_6, List.forall_mem_cons.mpr ⟨kw3_214, fun _ h => absurd h List.not_mem_nil⟩⟩⟩⟩⟩⟩, Or.inl rfl, by decide, by decide, by decide +kernel⟩
theorem kB_X11_341 {p : Program} {l : Launch} {e : Env} {R : Room} {s : State} {m : MethodId} {args : Array Value} {below : List Frame} {meth : Method} {c : Code} {H : Heap} {locs : List Loc} {cells slots : Nat} {Q : State → Prop} {cc : ByteArray} {pc : Nat} {ls : Array Slot} {rest : List Value} {G : xG} {A : Nat → Prop} {a nL : Nat} {H0 : Heap} {ret : Option FieldType} {t : xT} {lv : List (Nat × Value)} (hE : xE p s m args meth c cc RX11 G nL ret) (hl : lv_has ls nL lv) (hD : tD G A H0 t H locs) (hk : isBk (tK t a)) {xa : Int32} {v : Int32} (hF : F_X0_leastAhead t a xa = some v) (hr : (rest.map fun v => v.category).sum ≤ 8) (hdg : decode cc pc = .ok (.invokevirtual 341, 3)) (hR : 5 + 1 ≤ R.frames ∧ 8 + (4 + 11) + 40 * 5 ≤ R.locals) (hR2 : cells ≤ R.cells ∧ slots ≤ R.slots) (kk : ∀ (H1 : Heap) (locs1 : List Loc), tD G A H0 t H1 locs1 → W p l e R s m args below meth c H1 locs1 cells slots Q (F0 m (pc + 3) ls (.int v :: rest))) : W p l e R s m args below meth c H locs cells slots Q (F0 m pc ls (.int xa :: .ref a :: rest)) := by
  rcases hk with h | h | h | h | h
  · exact kUi (As := [.int xa]) (rest := rest) hE hl hD (c_X0_leastAhead hF) ku_X11_341_1 (tE_1 h) rfl rfl rfl rfl hr hdg ⟨by have := hR.1; omega, by have := hR.2; omega⟩ hR2 kk
  · exact kUi (As := [.int xa]) (rest := rest) hE hl hD (c_X0_leastAhead hF) ku_X11_341_4 (tE_4 h) rfl rfl rfl rfl hr hdg ⟨by have := hR.1; omega, by have := hR.2; omega⟩ hR2 kk
  · exact kUi (As := [.int xa]) (rest := rest) hE hl hD (c_X0_leastAhead hF) ku_X11_341_5 (tE_5 h) rfl rfl rfl rfl hr hdg ⟨by have := hR.1; omega, by have := hR.2; omega⟩ hR2 kk
  · exact kUi (As := [.int xa]) (rest := rest) hE hl hD (c_X0_leastAhead hF) ku_X11_341_6 (tE_6 h) rfl rfl rfl rfl hr hdg ⟨by have := hR.1; omega, by have := hR.2; omega⟩ hR2 kk
  · exact kUi (As := [.int xa]) (rest := rest) hE hl hD (c_X0_leastAhead hF) ku_X11_341_9 (tE_9 h) rfl rfl rfl rfl hr hdg ⟨by have := hR.1; omega, by have := hR.2; omega⟩ hR2 kk
def F_X11_leastAheadAll_j27 (u : xT) (y3 : Int32) : Option Int32 := some y3
theorem B_X11_leastAheadAll_j27 {p : Program} {l : Launch} {e : Env} {s : State} {m : MethodId} {args : Array Value} {below : List Frame} {meth : Method} {cd : Code} {G : xG} {w0 : xW} {rr : Int32} (hE : xE p s m args meth cd cX11_leastAheadAll RX11 G 5 (Option.some Jvm.ClassFile.FieldType.int)) {u : xT} {y3 : Int32} {H : Heap} {locs : List Loc} {ls : Array Slot} (hD : tD G (xA w0 s.heap.size) s.heap u H locs) (hl : lv_has ls 5 [(3, .int y3)]) (hF : F_X11_leastAheadAll_j27 u y3 = some rr) : W p l e (xR 6 0 0) s m args below meth cd H locs 0 0 (xQi G w0 (fun r z => r = rr ∧ z = ((tE G u), u.1)) below args s 0 0) (F0 m 27 ls []) := by
  have hx := hE.1; have hb := hE.2.1
  unfold F_X11_leastAheadAll_j27 at hF
  refine lv_iload_n hx hb dX11_leastAheadAll_27 rfl (lv_at hl 0 rfl) ?_
  obtain rfl := Option.some.inj hF
  exact x_iret hE hD ⟨rfl, rfl⟩ (by omega) (by omega) dX11_leastAheadAll_28
def F_X11_leastAheadAll_l5 : Nat → xT → Nat → Int32 → Int32 → Int32 → Option Int32
  | 0, _, _, _, _, _ => none
  | nn + 1, u, y0, y2, y3, y4 => if y2 ≤ y4 then F_X11_leastAheadAll_j27 u y3 else if y3 < 0 then F_X11_leastAheadAll_j27 u y3 else if isBk (tK u y0) then (F_X0_leastAhead u y0 y3).bind (fun r4 => xlet (y4 + (1 : Int32)) (fun x6 => F_X11_leastAheadAll_l5 nn u y0 y2 r4 x6)) else none
theorem L_X11_leastAheadAll_l5 {p : Program} {l : Launch} {e : Env} {s : State} {m : MethodId} {args : Array Value} {below : List Frame} {meth : Method} {cd : Code} {G : xG} {w0 : xW} {rr : Int32} (hE : xE p s m args meth cd cX11_leastAheadAll RX11 G 5 (Option.some Jvm.ClassFile.FieldType.int)) : ∀ (nn : Nat) {u : xT} {y0 : Nat} {y2 : Int32} {y3 : Int32} {y4 : Int32} {H : Heap} {locs : List Loc} {ls : Array Slot} , tD G (xA w0 s.heap.size) s.heap u H locs → lv_has ls 5 [(0, .ref y0), (2, .int y2), (3, .int y3), (4, .int y4)] → F_X11_leastAheadAll_l5 nn u y0 y2 y3 y4 = some rr → W p l e (xR 6 0 0) s m args below meth cd H locs 0 0 (xQi G w0 (fun r z => r = rr ∧ z = ((tE G u), u.1)) below args s 0 0) (F0 m 5 ls []) := by
  have hx := hE.1; have hb := hE.2.1
  intro nn
  induction nn with
  | zero => intro u y0 y2 y3 y4 H locs ls hD hl hF; rw [F_X11_leastAheadAll_l5] at hF; cases hF
  | succ nn ih =>
    intro u y0 y2 y3 y4 H locs ls hD hl hF
    rw [F_X11_leastAheadAll_l5] at hF
    refine lv_iload hx hb dX11_leastAheadAll_5 (lv_at hl 3 rfl) ?_
    refine lv_iload_n hx hb dX11_leastAheadAll_7 rfl (lv_at hl 1 rfl) ?_
    refine lv_icmp_ge (tgt := 27) hx hb dX11_leastAheadAll_8 (by decide) (fun c1 => ?_) (fun c1 => ?_)
    · have hF := ite_p hF c1
      exact B_X11_leastAheadAll_j27 hE hD (lv_sub hl [2] rfl) hF
    · have hF := ite_n hF c1
      refine lv_iload_n hx hb dX11_leastAheadAll_11 rfl (lv_at hl 2 rfl) ?_
      refine lv_if_lt (tgt := 27) hx hb dX11_leastAheadAll_12 (by decide) (fun c2 => ?_) (fun c2 => ?_)
      · have hF := ite_p hF c2
        exact B_X11_leastAheadAll_j27 hE hD (lv_sub hl [2] rfl) hF
      · have hF := ite_n hF c2
        refine lv_aload_n hx hb dX11_leastAheadAll_15 rfl (lv_at hl 0 rfl) ?_
        refine lv_iload_n hx hb dX11_leastAheadAll_16 rfl (lv_at hl 2 rfl) ?_
        obtain ⟨h3, hF⟩ := ite_s hF
        obtain ⟨r4, k5, hF⟩ := xb_s hF
        refine kB_X11_341 (rest := []) hE hl hD h3 k5 (Nat.le_of_ble_eq_true rfl) dX11_leastAheadAll_17 ⟨Nat.le_of_ble_eq_true rfl, Nat.le_of_ble_eq_true rfl⟩ ⟨Nat.le_of_ble_eq_true rfl, Nat.le_of_ble_eq_true rfl⟩ (fun H locs (hD : tD G _ _ u H locs) => ?_)
        refine lv_istore_n (lv' := [(3, .int r4), (0, .ref y0), (2, .int y2), (4, .int y4)]) hx hb dX11_leastAheadAll_20 rfl hl (by decide) rfl (fun ls hl => ?_)
        obtain ⟨x6, ex6⟩ : ∃ y : Int32, y = y4 + (1 : Int32) := ⟨_, rfl⟩
        have hF := xlet_e hF ex6
        refine lv_iinc (v := x6) (lv' := [(4, .int x6), (3, .int r4), (0, .ref y0), (2, .int y2)]) hx hb dX11_leastAheadAll_21 hl (k := 3) rfl (by rw [ex6]; rfl) (by decide) rfl (fun ls hl => ?_)
        refine lv_goto (tgt := 5) hx hb dX11_leastAheadAll_24 (by decide) ?_
        exact ih hD (lv_sub hl [2, 3, 1, 0] rfl) hF
def F_X11_leastAheadAll (u : xT) (xa : Nat) (xb : Int32) (xc : Int32) : Option Int32 := F_X11_leastAheadAll_l5 xFuel u xa xc xb (0 : Int32)
theorem c_X11_leastAheadAll {l : Launch} {G : xG} {rr : Int32} {u : xT} {xa : Nat} {xb : Int32} {xc : Int32} (hF : F_X11_leastAheadAll u xa xb xc = some rr) : xMi l G yX11_leastAheadAll cX11_leastAheadAll 5 (Option.some Jvm.ClassFile.FieldType.int) 6 0 0 [.ref xa, .int xb, .int xc] (tE G u) u.1 (fun r z => r = rr ∧ z = ((tE G u), u.1)) := by
  unfold F_X11_leastAheadAll at hF
  refine x_startI rfl (Nat.le_of_ble_eq_true rfl) (fun p e s m args below meth cd ls hE hnm hl hD => ?_)
  have hx := hE.1; have hb := hE.2.1
  have hl : lv_has ls 5 [(0, .ref xa), (1, .int xb), (2, .int xc)] := hl
  have hD : tD G (xA (tE G u) s.heap.size) s.heap u s.heap [] := hD
  refine lv_iload_n hx hb dX11_leastAheadAll_0 rfl (lv_at hl 1 rfl) ?_
  refine lv_istore_n (lv' := [(3, .int xb), (0, .ref xa), (1, .int xb), (2, .int xc)]) hx hb dX11_leastAheadAll_1 rfl hl (by decide) rfl (fun ls hl => ?_)
  refine lv_iconst (v := (0 : Int32)) hx hb dX11_leastAheadAll_2 (by decide) ?_
  refine lv_istore (lv' := [(4, .int (0 : Int32)), (3, .int xb), (0, .ref xa), (1, .int xb), (2, .int xc)]) hx hb dX11_leastAheadAll_3 hl (by decide) rfl (fun ls hl => ?_)
  exact L_X11_leastAheadAll_l5 hE _ hD (lv_sub hl [2, 4, 1, 0] rfl) hF
def F_X11_need_j45 (u : xT) (a0 : Nat) (s0 : Int32) : Option Int32 := some s0
theorem B_X11_need_j45 {p : Program} {l : Launch} {e : Env} {s : State} {m : MethodId} {args : Array Value} {below : List Frame} {meth : Method} {cd : Code} {G : xG} {w0 : xW} {rr : Int32} (hE : xE p s m args meth cd cX11_need RX11 G 5 (Option.some Jvm.ClassFile.FieldType.int)) {u : xT} {a0 : Nat} {s0 : Int32} {H : Heap} {locs : List Loc} {ls : Array Slot} (hD : tD G (xA w0 s.heap.size) s.heap u H locs) (hl : lv_has ls 5 [(0, .ref a0)]) (hF : F_X11_need_j45 u a0 s0 = some rr) : W p l e (xR 7 0 0) s m args below meth cd H locs 0 0 (xQi G w0 (fun r z => r = rr ∧ z = ((tE G u), u.1)) below args s 0 0) (F0 m 45 ls [.int s0]) := by
  have hx := hE.1; have hb := hE.2.1
  unfold F_X11_need_j45 at hF
  obtain rfl := Option.some.inj hF
  exact x_iret hE hD ⟨rfl, rfl⟩ (by omega) (by omega) dX11_need_45
def F_X11_need_j23 (u : xT) (a0 : Nat) : Option Int32 := some (-1 : Int32)
theorem B_X11_need_j23 {p : Program} {l : Launch} {e : Env} {s : State} {m : MethodId} {args : Array Value} {below : List Frame} {meth : Method} {cd : Code} {G : xG} {w0 : xW} {rr : Int32} (hE : xE p s m args meth cd cX11_need RX11 G 5 (Option.some Jvm.ClassFile.FieldType.int)) {u : xT} {a0 : Nat} {H : Heap} {locs : List Loc} {ls : Array Slot} (hD : tD G (xA w0 s.heap.size) s.heap u H locs) (hl : lv_has ls 5 [(0, .ref a0)]) (hF : F_X11_need_j23 u a0 = some rr) : W p l e (xR 7 0 0) s m args below meth cd H locs 0 0 (xQi G w0 (fun r z => r = rr ∧ z = ((tE G u), u.1)) below args s 0 0) (F0 m 23 ls []) := by
  have hx := hE.1; have hb := hE.2.1
  unfold F_X11_need_j23 at hF
  refine lv_iconst (v := (-1 : Int32)) hx hb dX11_need_23 (by decide) ?_
  obtain rfl := Option.some.inj hF
  exact x_iret hE hD ⟨rfl, rfl⟩ (by omega) (by omega) dX11_need_24
def F_X11_need (u : xT) (a0 : Nat) (xa : Int32) (xb : Int32) : Option Int32 := if tK u a0 = 11 then (tP u a0 0).bind (fun q2 => if tK u q2 = 7 then (F_X7_bridgeAt u q2 xa).bind (fun r5 => xopt (r5) (F_X11_need_j23 u a0) (fun q7 => (F_X11_isIn xb (0 : Int32) (60 : Int32)).bind (fun r9 => if r9 = 0 then F_X11_need_j23 u a0 else (F_X11_leastAheadAll u q7 (0 : Int32) xb).bind (fun r13 => if 0 ≤ r13 then F_X11_need_j45 u a0 r13 else F_X11_need_j45 u a0 (-3 : Int32))))) else none) else none
theorem c_X11_need {l : Launch} {G : xG} {rr : Int32} {u : xT} {a0 : Nat} {xa : Int32} {xb : Int32} (hF : F_X11_need u a0 xa xb = some rr) : xMi l G yX11_need cX11_need 5 (Option.some Jvm.ClassFile.FieldType.int) 7 0 0 [.ref a0, .int xa, .int xb] (tE G u) u.1 (fun r z => r = rr ∧ z = ((tE G u), u.1)) := by
  unfold F_X11_need at hF
  refine x_startI rfl (Nat.le_of_ble_eq_true rfl) (fun p e s m args below meth cd ls hE hnm hl hD => ?_)
  have hx := hE.1; have hb := hE.2.1
  have hl : lv_has ls 5 [(0, .ref a0), (1, .int xa), (2, .int xb)] := hl
  have hD : tD G (xA (tE G u) s.heap.size) s.heap u s.heap [] := hD
  refine lv_aload_n hx hb dX11_need_0 rfl (lv_at hl 0 rfl) ?_
  obtain ⟨h1, hF⟩ := ite_s hF
  obtain ⟨q2, h3, hF⟩ := xb_s hF
  refine gr_X11_10 hE hD h1 h3 dX11_need_1 ?_
  refine lv_iload_n hx hb dX11_need_4 rfl (lv_at hl 1 rfl) ?_
  obtain ⟨h4, hF⟩ := ite_s hF
  obtain ⟨r5, k6, hF⟩ := xb_s hF
  refine kVq (As := [.int xa]) (rest := []) hE hl hD (c_X7_bridgeAt k6) kl_X11_82 (tE_7 h4) rfl rfl rfl rfl (Nat.le_of_ble_eq_true rfl) dX11_need_5 ⟨Nat.le_of_ble_eq_true rfl, Nat.le_of_ble_eq_true rfl⟩ ⟨Nat.le_of_ble_eq_true rfl, Nat.le_of_ble_eq_true rfl⟩ (fun H locs (hD : tD G _ _ u H locs) => ?_)
  refine t_split hF (fun h8 hF => ?_) (fun q7 h8 hF => ?_)
  · refine lv_astore_nN (lv' := [(3, .null), (0, .ref a0), (1, .int xa), (2, .int xb)]) hx hb dX11_need_8 rfl hl (by decide) rfl (fun ls hl => ?_)
    refine lv_aload_nN hx hb dX11_need_9 rfl (lv_at hl 0 rfl) ?_
    refine lv_ifnullN (tgt := 23) hx hb dX11_need_10 (by decide) ?_
    exact B_X11_need_j23 hE hD (lv_sub hl [1] rfl) hF
  · refine lv_astore_n (lv' := [(3, .ref q7), (0, .ref a0), (1, .int xa), (2, .int xb)]) hx hb dX11_need_8 rfl hl (by decide) rfl (fun ls hl => ?_)
    refine lv_aload_n hx hb dX11_need_9 rfl (lv_at hl 0 rfl) ?_
    refine lv_ifnull hx hb dX11_need_10 ?_
    refine lv_iload_n hx hb dX11_need_13 rfl (lv_at hl 3 rfl) ?_
    refine lv_iconst (v := (0 : Int32)) hx hb dX11_need_14 (by decide) ?_
    refine lv_bipush (v := (60 : Int32)) hx hb dX11_need_15 (by decide) ?_
    obtain ⟨r9, k10, hF⟩ := xb_s hF
    refine kSz (As := [.int xb, .int (0 : Int32), .int (60 : Int32)]) (rest := []) hE hl hD (c_X11_isIn k10) kl_X11_183 rfl rfl (Nat.le_of_ble_eq_true rfl) dX11_need_17 ⟨Nat.le_of_ble_eq_true rfl, Nat.le_of_ble_eq_true rfl⟩ ⟨Nat.le_of_ble_eq_true rfl, Nat.le_of_ble_eq_true rfl⟩ (fun H locs z11 (hD : tD G _ _ u H locs) => ?_)
    refine lv_if_ne (tgt := 25) hx hb dX11_need_20 (by decide) (fun c12 => ?_) (fun c12 => ?_)
    · have hF := ite_n hF c12
      refine lv_aload_n hx hb dX11_need_25 rfl (lv_at hl 0 rfl) ?_
      refine lv_iconst (v := (0 : Int32)) hx hb dX11_need_26 (by decide) ?_
      refine lv_iload_n hx hb dX11_need_27 rfl (lv_at hl 3 rfl) ?_
      obtain ⟨r13, k14, hF⟩ := xb_s hF
      refine kSi (As := [.ref q7, .int (0 : Int32), .int xb]) (rest := []) hE hl hD (c_X11_leastAheadAll k14) kl_X11_191 rfl rfl (Nat.le_of_ble_eq_true rfl) dX11_need_28 ⟨Nat.le_of_ble_eq_true rfl, Nat.le_of_ble_eq_true rfl⟩ ⟨Nat.le_of_ble_eq_true rfl, Nat.le_of_ble_eq_true rfl⟩ (fun H locs (hD : tD G _ _ u H locs) => ?_)
      refine lv_istore (lv' := [(4, .int r13), (3, .ref q7), (0, .ref a0), (1, .int xa), (2, .int xb)]) hx hb dX11_need_31 hl (by decide) rfl (fun ls hl => ?_)
      refine lv_iload hx hb dX11_need_33 (lv_at hl 0 rfl) ?_
      refine lv_if_ge (tgt := 43) hx hb dX11_need_35 (by decide) (fun c15 => ?_) (fun c15 => ?_)
      · have hF := ite_p hF c15
        refine lv_iload hx hb dX11_need_43 (lv_at hl 0 rfl) ?_
        exact B_X11_need_j45 hE hD (lv_sub hl [2] rfl) hF
      · have hF := ite_n hF c15
        refine lv_bipush (v := (-3 : Int32)) hx hb dX11_need_38 (by decide) ?_
        refine lv_goto (tgt := 45) hx hb dX11_need_40 (by decide) ?_
        exact B_X11_need_j45 hE hD (lv_sub hl [2] rfl) hF
    · have hF := ite_p hF c12
      exact B_X11_need_j23 hE hD (lv_sub hl [1] rfl) hF
def F_X11_ever_l17 : Nat → xT → Nat → Nat → Int32 → Option Int32
  | 0, _, _, _, _ => none
  | nn + 1, u, a0, y2, y3 => if (9999 : Int32) < y3 then some (-3 : Int32) else if isBk (tK u y2) then (F_X0_becomes u y2 y3).bind (fun r3 => if r3 < y3 then xlet (y3 + (1 : Int32)) (fun x6 => F_X11_ever_l17 nn u a0 y2 x6) else some y3) else none
theorem L_X11_ever_l17 {p : Program} {l : Launch} {e : Env} {s : State} {m : MethodId} {args : Array Value} {below : List Frame} {meth : Method} {cd : Code} {G : xG} {w0 : xW} {rr : Int32} (hE : xE p s m args meth cd cX11_ever RX11 G 4 (Option.some Jvm.ClassFile.FieldType.int)) : ∀ (nn : Nat) {u : xT} {a0 : Nat} {y2 : Nat} {y3 : Int32} {H : Heap} {locs : List Loc} {ls : Array Slot} , tD G (xA w0 s.heap.size) s.heap u H locs → lv_has ls 4 [(0, .ref a0), (2, .ref y2), (3, .int y3)] → F_X11_ever_l17 nn u a0 y2 y3 = some rr → W p l e (xR 6 0 0) s m args below meth cd H locs 0 0 (xQi G w0 (fun r z => r = rr ∧ z = ((tE G u), u.1)) below args s 0 0) (F0 m 17 ls []) := by
  have hx := hE.1; have hb := hE.2.1
  intro nn
  induction nn with
  | zero => intro u a0 y2 y3 H locs ls hD hl hF; rw [F_X11_ever_l17] at hF; cases hF
  | succ nn ih =>
    intro u a0 y2 y3 H locs ls hD hl hF
    rw [F_X11_ever_l17] at hF
    refine lv_iload_n hx hb dX11_ever_17 rfl (lv_at hl 2 rfl) ?_
    refine lv_sipush (v := (9999 : Int32)) hx hb dX11_ever_18 (by decide) ?_
    refine lv_icmp_gt (tgt := 41) hx hb dX11_ever_21 (by decide) (fun c1 => ?_) (fun c1 => ?_)
    · have hF := ite_p hF c1
      refine lv_bipush (v := (-3 : Int32)) hx hb dX11_ever_41 (by decide) ?_
      obtain rfl := Option.some.inj hF
      exact x_iret hE hD ⟨rfl, rfl⟩ (by omega) (by omega) dX11_ever_43
    · have hF := ite_n hF c1
      refine lv_aload_n hx hb dX11_ever_24 rfl (lv_at hl 1 rfl) ?_
      refine lv_iload_n hx hb dX11_ever_25 rfl (lv_at hl 2 rfl) ?_
      obtain ⟨h2, hF⟩ := ite_s hF
      obtain ⟨r3, k4, hF⟩ := xb_s hF
      refine kB_X11_173 (rest := []) hE hl hD h2 k4 (Nat.le_of_ble_eq_true rfl) dX11_ever_26 ⟨Nat.le_of_ble_eq_true rfl, Nat.le_of_ble_eq_true rfl⟩ ⟨Nat.le_of_ble_eq_true rfl, Nat.le_of_ble_eq_true rfl⟩ (fun H locs (hD : tD G _ _ u H locs) => ?_)
      refine lv_iload_n hx hb dX11_ever_29 rfl (lv_at hl 2 rfl) ?_
      refine lv_icmp_lt (tgt := 35) hx hb dX11_ever_30 (by decide) (fun c5 => ?_) (fun c5 => ?_)
      · have hF := ite_p hF c5
        obtain ⟨x6, ex6⟩ : ∃ y : Int32, y = y3 + (1 : Int32) := ⟨_, rfl⟩
        have hF := xlet_e hF ex6
        refine lv_iinc (v := x6) (lv' := [(3, .int x6), (0, .ref a0), (2, .ref y2)]) hx hb dX11_ever_35 hl (k := 2) rfl (by rw [ex6]; rfl) (by decide) rfl (fun ls hl => ?_)
        refine lv_goto (tgt := 17) hx hb dX11_ever_38 (by decide) ?_
        exact ih hD (lv_sub hl [1, 2, 0] rfl) hF
      · have hF := ite_n hF c5
        refine lv_iload_n hx hb dX11_ever_33 rfl (lv_at hl 2 rfl) ?_
        obtain rfl := Option.some.inj hF
        exact x_iret hE hD ⟨rfl, rfl⟩ (by omega) (by omega) dX11_ever_34
def F_X11_ever (u : xT) (a0 : Nat) (xa : Int32) : Option Int32 := if tK u a0 = 11 then (tP u a0 0).bind (fun q8 => if tK u q8 = 7 then (F_X7_bridgeAt u q8 xa).bind (fun r11 => xopt (r11) (some (-1 : Int32)) (fun q13 => F_X11_ever_l17 xFuel u a0 q13 (0 : Int32))) else none) else none
theorem c_X11_ever {l : Launch} {G : xG} {rr : Int32} {u : xT} {a0 : Nat} {xa : Int32} (hF : F_X11_ever u a0 xa = some rr) : xMi l G yX11_ever cX11_ever 4 (Option.some Jvm.ClassFile.FieldType.int) 6 0 0 [.ref a0, .int xa] (tE G u) u.1 (fun r z => r = rr ∧ z = ((tE G u), u.1)) := by
  unfold F_X11_ever at hF
  refine x_startI rfl (Nat.le_of_ble_eq_true rfl) (fun p e s m args below meth cd ls hE hnm hl hD => ?_)
  have hx := hE.1; have hb := hE.2.1
  have hl : lv_has ls 4 [(0, .ref a0), (1, .int xa)] := hl
  have hD : tD G (xA (tE G u) s.heap.size) s.heap u s.heap [] := hD
  refine lv_aload_n hx hb dX11_ever_0 rfl (lv_at hl 0 rfl) ?_
  obtain ⟨h7, hF⟩ := ite_s hF
  obtain ⟨q8, h9, hF⟩ := xb_s hF
  refine gr_X11_10 hE hD h7 h9 dX11_ever_1 ?_
  refine lv_iload_n hx hb dX11_ever_4 rfl (lv_at hl 1 rfl) ?_
  obtain ⟨h10, hF⟩ := ite_s hF
  obtain ⟨r11, k12, hF⟩ := xb_s hF
  refine kVq (As := [.int xa]) (rest := []) hE hl hD (c_X7_bridgeAt k12) kl_X11_82 (tE_7 h10) rfl rfl rfl rfl (Nat.le_of_ble_eq_true rfl) dX11_ever_5 ⟨Nat.le_of_ble_eq_true rfl, Nat.le_of_ble_eq_true rfl⟩ ⟨Nat.le_of_ble_eq_true rfl, Nat.le_of_ble_eq_true rfl⟩ (fun H locs (hD : tD G _ _ u H locs) => ?_)
  refine t_split hF (fun h14 hF => ?_) (fun q13 h14 hF => ?_)
  · refine lv_astore_nN (lv' := [(2, .null), (0, .ref a0), (1, .int xa)]) hx hb dX11_ever_8 rfl hl (by decide) rfl (fun ls hl => ?_)
    refine lv_aload_nN hx hb dX11_ever_9 rfl (lv_at hl 0 rfl) ?_
    refine lv_ifnonnullN hx hb dX11_ever_10 ?_
    refine lv_iconst (v := (-1 : Int32)) hx hb dX11_ever_13 (by decide) ?_
    obtain rfl := Option.some.inj hF
    exact x_iret hE hD ⟨rfl, rfl⟩ (by omega) (by omega) dX11_ever_14
  · refine lv_astore_n (lv' := [(2, .ref q13), (0, .ref a0), (1, .int xa)]) hx hb dX11_ever_8 rfl hl (by decide) rfl (fun ls hl => ?_)
    refine lv_aload_n hx hb dX11_ever_9 rfl (lv_at hl 0 rfl) ?_
    refine lv_ifnonnull (tgt := 15) hx hb dX11_ever_10 (by decide) ?_
    refine lv_iconst (v := (0 : Int32)) hx hb dX11_ever_15 (by decide) ?_
    refine lv_istore_n (lv' := [(3, .int (0 : Int32)), (2, .ref q13), (0, .ref a0), (1, .int xa)]) hx hb dX11_ever_16 rfl hl (by decide) rfl (fun ls hl => ?_)
    exact L_X11_ever_l17 hE _ hD (lv_sub hl [2, 1, 0] rfl) hF
def F_X11_same_l17 : Nat → xT → Nat → Nat → Int32 → Option Int32
  | 0, _, _, _, _ => none
  | nn + 1, u, a0, y2, y3 => if (9999 : Int32) < y3 then some (-3 : Int32) else if isBk (tK u y2) then (F_X0_becomes u y2 y3).bind (fun r3 => if r3 = y3 then some y3 else xlet (y3 + (1 : Int32)) (fun x6 => F_X11_same_l17 nn u a0 y2 x6)) else none
theorem L_X11_same_l17 {p : Program} {l : Launch} {e : Env} {s : State} {m : MethodId} {args : Array Value} {below : List Frame} {meth : Method} {cd : Code} {G : xG} {w0 : xW} {rr : Int32} (hE : xE p s m args meth cd cX11_same RX11 G 4 (Option.some Jvm.ClassFile.FieldType.int)) : ∀ (nn : Nat) {u : xT} {a0 : Nat} {y2 : Nat} {y3 : Int32} {H : Heap} {locs : List Loc} {ls : Array Slot} , tD G (xA w0 s.heap.size) s.heap u H locs → lv_has ls 4 [(0, .ref a0), (2, .ref y2), (3, .int y3)] → F_X11_same_l17 nn u a0 y2 y3 = some rr → W p l e (xR 6 0 0) s m args below meth cd H locs 0 0 (xQi G w0 (fun r z => r = rr ∧ z = ((tE G u), u.1)) below args s 0 0) (F0 m 17 ls []) := by
  have hx := hE.1; have hb := hE.2.1
  intro nn
  induction nn with
  | zero => intro u a0 y2 y3 H locs ls hD hl hF; rw [F_X11_same_l17] at hF; cases hF
  | succ nn ih =>
    intro u a0 y2 y3 H locs ls hD hl hF
    rw [F_X11_same_l17] at hF
    refine lv_iload_n hx hb dX11_same_17 rfl (lv_at hl 2 rfl) ?_
    refine lv_sipush (v := (9999 : Int32)) hx hb dX11_same_18 (by decide) ?_
    refine lv_icmp_gt (tgt := 41) hx hb dX11_same_21 (by decide) (fun c1 => ?_) (fun c1 => ?_)
    · have hF := ite_p hF c1
      refine lv_bipush (v := (-3 : Int32)) hx hb dX11_same_41 (by decide) ?_
      obtain rfl := Option.some.inj hF
      exact x_iret hE hD ⟨rfl, rfl⟩ (by omega) (by omega) dX11_same_43
    · have hF := ite_n hF c1
      refine lv_aload_n hx hb dX11_same_24 rfl (lv_at hl 1 rfl) ?_
      refine lv_iload_n hx hb dX11_same_25 rfl (lv_at hl 2 rfl) ?_
      obtain ⟨h2, hF⟩ := ite_s hF
      obtain ⟨r3, k4, hF⟩ := xb_s hF
      refine kB_X11_173 (rest := []) hE hl hD h2 k4 (Nat.le_of_ble_eq_true rfl) dX11_same_26 ⟨Nat.le_of_ble_eq_true rfl, Nat.le_of_ble_eq_true rfl⟩ ⟨Nat.le_of_ble_eq_true rfl, Nat.le_of_ble_eq_true rfl⟩ (fun H locs (hD : tD G _ _ u H locs) => ?_)
      refine lv_iload_n hx hb dX11_same_29 rfl (lv_at hl 2 rfl) ?_
      refine lv_icmp_ne (tgt := 35) hx hb dX11_same_30 (by decide) (fun c5 => ?_) (fun c5 => ?_)
      · have hF := ite_n hF c5
        obtain ⟨x6, ex6⟩ : ∃ y : Int32, y = y3 + (1 : Int32) := ⟨_, rfl⟩
        have hF := xlet_e hF ex6
        refine lv_iinc (v := x6) (lv' := [(3, .int x6), (0, .ref a0), (2, .ref y2)]) hx hb dX11_same_35 hl (k := 2) rfl (by rw [ex6]; rfl) (by decide) rfl (fun ls hl => ?_)
        refine lv_goto (tgt := 17) hx hb dX11_same_38 (by decide) ?_
        exact ih hD (lv_sub hl [1, 2, 0] rfl) hF
      · have hF := ite_p hF c5
        refine lv_iload_n hx hb dX11_same_33 rfl (lv_at hl 2 rfl) ?_
        obtain rfl := Option.some.inj hF
        exact x_iret hE hD ⟨rfl, rfl⟩ (by omega) (by omega) dX11_same_34
def F_X11_same (u : xT) (a0 : Nat) (xa : Int32) : Option Int32 := if tK u a0 = 11 then (tP u a0 0).bind (fun q8 => if tK u q8 = 7 then (F_X7_bridgeAt u q8 xa).bind (fun r11 => xopt (r11) (some (-1 : Int32)) (fun q13 => F_X11_same_l17 xFuel u a0 q13 (0 : Int32))) else none) else none
theorem c_X11_same {l : Launch} {G : xG} {rr : Int32} {u : xT} {a0 : Nat} {xa : Int32} (hF : F_X11_same u a0 xa = some rr) : xMi l G yX11_same cX11_same 4 (Option.some Jvm.ClassFile.FieldType.int) 6 0 0 [.ref a0, .int xa] (tE G u) u.1 (fun r z => r = rr ∧ z = ((tE G u), u.1)) := by
  unfold F_X11_same at hF
  refine x_startI rfl (Nat.le_of_ble_eq_true rfl) (fun p e s m args below meth cd ls hE hnm hl hD => ?_)
  have hx := hE.1; have hb := hE.2.1
  have hl : lv_has ls 4 [(0, .ref a0), (1, .int xa)] := hl
  have hD : tD G (xA (tE G u) s.heap.size) s.heap u s.heap [] := hD
  refine lv_aload_n hx hb dX11_same_0 rfl (lv_at hl 0 rfl) ?_
  obtain ⟨h7, hF⟩ := ite_s hF
  obtain ⟨q8, h9, hF⟩ := xb_s hF
  refine gr_X11_10 hE hD h7 h9 dX11_same_1 ?_
  refine lv_iload_n hx hb dX11_same_4 rfl (lv_at hl 1 rfl) ?_
  obtain ⟨h10, hF⟩ := ite_s hF
  obtain ⟨r11, k12, hF⟩ := xb_s hF
  refine kVq (As := [.int xa]) (rest := []) hE hl hD (c_X7_bridgeAt k12) kl_X11_82 (tE_7 h10) rfl rfl rfl rfl (Nat.le_of_ble_eq_true rfl) dX11_same_5 ⟨Nat.le_of_ble_eq_true rfl, Nat.le_of_ble_eq_true rfl⟩ ⟨Nat.le_of_ble_eq_true rfl, Nat.le_of_ble_eq_true rfl⟩ (fun H locs (hD : tD G _ _ u H locs) => ?_)
  refine t_split hF (fun h14 hF => ?_) (fun q13 h14 hF => ?_)
  · refine lv_astore_nN (lv' := [(2, .null), (0, .ref a0), (1, .int xa)]) hx hb dX11_same_8 rfl hl (by decide) rfl (fun ls hl => ?_)
    refine lv_aload_nN hx hb dX11_same_9 rfl (lv_at hl 0 rfl) ?_
    refine lv_ifnonnullN hx hb dX11_same_10 ?_
    refine lv_iconst (v := (-1 : Int32)) hx hb dX11_same_13 (by decide) ?_
    obtain rfl := Option.some.inj hF
    exact x_iret hE hD ⟨rfl, rfl⟩ (by omega) (by omega) dX11_same_14
  · refine lv_astore_n (lv' := [(2, .ref q13), (0, .ref a0), (1, .int xa)]) hx hb dX11_same_8 rfl hl (by decide) rfl (fun ls hl => ?_)
    refine lv_aload_n hx hb dX11_same_9 rfl (lv_at hl 0 rfl) ?_
    refine lv_ifnonnull (tgt := 15) hx hb dX11_same_10 (by decide) ?_
    refine lv_iconst (v := (0 : Int32)) hx hb dX11_same_15 (by decide) ?_
    refine lv_istore_n (lv' := [(3, .int (0 : Int32)), (2, .ref q13), (0, .ref a0), (1, .int xa)]) hx hb dX11_same_16 rfl hl (by decide) rfl (fun ls hl => ?_)
    exact L_X11_same_l17 hE _ hD (lv_sub hl [2, 1, 0] rfl) hF
def F_X11_few_j73 (u : xT) (a0 : Nat) : Option Int32 := some (-3 : Int32)
theorem B_X11_few_j73 {p : Program} {l : Launch} {e : Env} {s : State} {m : MethodId} {args : Array Value} {below : List Frame} {meth : Method} {cd : Code} {G : xG} {w0 : xW} {rr : Int32} (hE : xE p s m args meth cd cX11_few RX11 G 7 (Option.some Jvm.ClassFile.FieldType.int)) {u : xT} {a0 : Nat} {H : Heap} {locs : List Loc} {ls : Array Slot} (hD : tD G (xA w0 s.heap.size) s.heap u H locs) (hl : lv_has ls 7 [(0, .ref a0)]) (hF : F_X11_few_j73 u a0 = some rr) : W p l e (xR 6 0 0) s m args below meth cd H locs 0 0 (xQi G w0 (fun r z => r = rr ∧ z = ((tE G u), u.1)) below args s 0 0) (F0 m 73 ls []) := by
  have hx := hE.1; have hb := hE.2.1
  unfold F_X11_few_j73 at hF
  refine lv_bipush (v := (-3 : Int32)) hx hb dX11_few_73 (by decide) ?_
  obtain rfl := Option.some.inj hF
  exact x_iret hE hD ⟨rfl, rfl⟩ (by omega) (by omega) dX11_few_75
def F_X11_few_l37 : Nat → xT → Nat → Int32 → Nat → Int32 → Int32 → Option Int32
  | 0, _, _, _, _, _, _ => none
  | nn + 1, u, a0, y3, y4, y5, y6 => if (60 : Int32) < y6 then F_X11_few_j73 u a0 else if y5 < 0 then F_X11_few_j73 u a0 else if y5 < y3 then if isBk (tK u y4) then (F_X0_becomes u y4 y5).bind (fun r5 => xlet (y6 + (1 : Int32)) (fun x7 => F_X11_few_l37 nn u a0 y3 y4 r5 x7)) else none else some y6
theorem L_X11_few_l37 {p : Program} {l : Launch} {e : Env} {s : State} {m : MethodId} {args : Array Value} {below : List Frame} {meth : Method} {cd : Code} {G : xG} {w0 : xW} {rr : Int32} (hE : xE p s m args meth cd cX11_few RX11 G 7 (Option.some Jvm.ClassFile.FieldType.int)) : ∀ (nn : Nat) {u : xT} {a0 : Nat} {y3 : Int32} {y4 : Nat} {y5 : Int32} {y6 : Int32} {H : Heap} {locs : List Loc} {ls : Array Slot} , tD G (xA w0 s.heap.size) s.heap u H locs → lv_has ls 7 [(0, .ref a0), (3, .int y3), (4, .ref y4), (5, .int y5), (6, .int y6)] → F_X11_few_l37 nn u a0 y3 y4 y5 y6 = some rr → W p l e (xR 6 0 0) s m args below meth cd H locs 0 0 (xQi G w0 (fun r z => r = rr ∧ z = ((tE G u), u.1)) below args s 0 0) (F0 m 37 ls []) := by
  have hx := hE.1; have hb := hE.2.1
  intro nn
  induction nn with
  | zero => intro u a0 y3 y4 y5 y6 H locs ls hD hl hF; rw [F_X11_few_l37] at hF; cases hF
  | succ nn ih =>
    intro u a0 y3 y4 y5 y6 H locs ls hD hl hF
    rw [F_X11_few_l37] at hF
    refine lv_iload hx hb dX11_few_37 (lv_at hl 4 rfl) ?_
    refine lv_bipush (v := (60 : Int32)) hx hb dX11_few_39 (by decide) ?_
    refine lv_icmp_gt (tgt := 73) hx hb dX11_few_41 (by decide) (fun c1 => ?_) (fun c1 => ?_)
    · have hF := ite_p hF c1
      exact B_X11_few_j73 hE hD (lv_sub hl [0] rfl) hF
    · have hF := ite_n hF c1
      refine lv_iload hx hb dX11_few_44 (lv_at hl 3 rfl) ?_
      refine lv_if_lt (tgt := 73) hx hb dX11_few_46 (by decide) (fun c2 => ?_) (fun c2 => ?_)
      · have hF := ite_p hF c2
        exact B_X11_few_j73 hE hD (lv_sub hl [0] rfl) hF
      · have hF := ite_n hF c2
        refine lv_iload hx hb dX11_few_49 (lv_at hl 3 rfl) ?_
        refine lv_iload_n hx hb dX11_few_51 rfl (lv_at hl 1 rfl) ?_
        refine lv_icmp_lt (tgt := 58) hx hb dX11_few_52 (by decide) (fun c3 => ?_) (fun c3 => ?_)
        · have hF := ite_p hF c3
          refine lv_aload hx hb dX11_few_58 (lv_at hl 2 rfl) ?_
          refine lv_iload hx hb dX11_few_60 (lv_at hl 3 rfl) ?_
          obtain ⟨h4, hF⟩ := ite_s hF
          obtain ⟨r5, k6, hF⟩ := xb_s hF
          refine kB_X11_173 (rest := []) hE hl hD h4 k6 (Nat.le_of_ble_eq_true rfl) dX11_few_62 ⟨Nat.le_of_ble_eq_true rfl, Nat.le_of_ble_eq_true rfl⟩ ⟨Nat.le_of_ble_eq_true rfl, Nat.le_of_ble_eq_true rfl⟩ (fun H locs (hD : tD G _ _ u H locs) => ?_)
          refine lv_istore (lv' := [(5, .int r5), (0, .ref a0), (3, .int y3), (4, .ref y4), (6, .int y6)]) hx hb dX11_few_65 hl (by decide) rfl (fun ls hl => ?_)
          obtain ⟨x7, ex7⟩ : ∃ y : Int32, y = y6 + (1 : Int32) := ⟨_, rfl⟩
          have hF := xlet_e hF ex7
          refine lv_iinc (v := x7) (lv' := [(6, .int x7), (5, .int r5), (0, .ref a0), (3, .int y3), (4, .ref y4)]) hx hb dX11_few_67 hl (k := 4) rfl (by rw [ex7]; rfl) (by decide) rfl (fun ls hl => ?_)
          refine lv_goto (tgt := 37) hx hb dX11_few_70 (by decide) ?_
          exact ih hD (lv_sub hl [2, 3, 4, 1, 0] rfl) hF
        · have hF := ite_n hF c3
          refine lv_iload hx hb dX11_few_55 (lv_at hl 4 rfl) ?_
          obtain rfl := Option.some.inj hF
          exact x_iret hE hD ⟨rfl, rfl⟩ (by omega) (by omega) dX11_few_57
def F_X11_few_j29 (u : xT) (a0 : Nat) : Option Int32 := some (-1 : Int32)
theorem B_X11_few_j29 {p : Program} {l : Launch} {e : Env} {s : State} {m : MethodId} {args : Array Value} {below : List Frame} {meth : Method} {cd : Code} {G : xG} {w0 : xW} {rr : Int32} (hE : xE p s m args meth cd cX11_few RX11 G 7 (Option.some Jvm.ClassFile.FieldType.int)) {u : xT} {a0 : Nat} {H : Heap} {locs : List Loc} {ls : Array Slot} (hD : tD G (xA w0 s.heap.size) s.heap u H locs) (hl : lv_has ls 7 [(0, .ref a0)]) (hF : F_X11_few_j29 u a0 = some rr) : W p l e (xR 6 0 0) s m args below meth cd H locs 0 0 (xQi G w0 (fun r z => r = rr ∧ z = ((tE G u), u.1)) below args s 0 0) (F0 m 29 ls []) := by
  have hx := hE.1; have hb := hE.2.1
  unfold F_X11_few_j29 at hF
  refine lv_iconst (v := (-1 : Int32)) hx hb dX11_few_29 (by decide) ?_
  obtain rfl := Option.some.inj hF
  exact x_iret hE hD ⟨rfl, rfl⟩ (by omega) (by omega) dX11_few_30
def F_X11_few (u : xT) (a0 : Nat) (xa : Int32) (xb : Int32) (xc : Int32) : Option Int32 := if tK u a0 = 11 then (tP u a0 0).bind (fun q9 => if tK u q9 = 7 then (F_X7_bridgeAt u q9 xa).bind (fun r12 => xopt (r12) (F_X11_few_j29 u a0) (fun q14 => (F_X11_isPurse xb).bind (fun r16 => if r16 = 0 then F_X11_few_j29 u a0 else (F_X11_isPurse xc).bind (fun r20 => if r20 = 0 then F_X11_few_j29 u a0 else F_X11_few_l37 xFuel u a0 xc q14 xb (0 : Int32))))) else none) else none
theorem c_X11_few {l : Launch} {G : xG} {rr : Int32} {u : xT} {a0 : Nat} {xa : Int32} {xb : Int32} {xc : Int32} (hF : F_X11_few u a0 xa xb xc = some rr) : xMi l G yX11_few cX11_few 7 (Option.some Jvm.ClassFile.FieldType.int) 6 0 0 [.ref a0, .int xa, .int xb, .int xc] (tE G u) u.1 (fun r z => r = rr ∧ z = ((tE G u), u.1)) := by
  unfold F_X11_few at hF
  refine x_startI rfl (Nat.le_of_ble_eq_true rfl) (fun p e s m args below meth cd ls hE hnm hl hD => ?_)
  have hx := hE.1; have hb := hE.2.1
  have hl : lv_has ls 7 [(0, .ref a0), (1, .int xa), (2, .int xb), (3, .int xc)] := hl
  have hD : tD G (xA (tE G u) s.heap.size) s.heap u s.heap [] := hD
  refine lv_aload_n hx hb dX11_few_0 rfl (lv_at hl 0 rfl) ?_
  obtain ⟨h8, hF⟩ := ite_s hF
  obtain ⟨q9, h10, hF⟩ := xb_s hF
  refine gr_X11_10 hE hD h8 h10 dX11_few_1 ?_
  refine lv_iload_n hx hb dX11_few_4 rfl (lv_at hl 1 rfl) ?_
  obtain ⟨h11, hF⟩ := ite_s hF
  obtain ⟨r12, k13, hF⟩ := xb_s hF
  refine kVq (As := [.int xa]) (rest := []) hE hl hD (c_X7_bridgeAt k13) kl_X11_82 (tE_7 h11) rfl rfl rfl rfl (Nat.le_of_ble_eq_true rfl) dX11_few_5 ⟨Nat.le_of_ble_eq_true rfl, Nat.le_of_ble_eq_true rfl⟩ ⟨Nat.le_of_ble_eq_true rfl, Nat.le_of_ble_eq_true rfl⟩ (fun H locs (hD : tD G _ _ u H locs) => ?_)
  refine t_split hF (fun h15 hF => ?_) (fun q14 h15 hF => ?_)
  · refine lv_astoreN (lv' := [(4, .null), (0, .ref a0), (1, .int xa), (2, .int xb), (3, .int xc)]) hx hb dX11_few_8 hl (by decide) rfl (fun ls hl => ?_)
    refine lv_aloadN hx hb dX11_few_10 (lv_at hl 0 rfl) ?_
    refine lv_ifnullN (tgt := 29) hx hb dX11_few_12 (by decide) ?_
    exact B_X11_few_j29 hE hD (lv_sub hl [1] rfl) hF
  · refine lv_astore (lv' := [(4, .ref q14), (0, .ref a0), (1, .int xa), (2, .int xb), (3, .int xc)]) hx hb dX11_few_8 hl (by decide) rfl (fun ls hl => ?_)
    refine lv_aload hx hb dX11_few_10 (lv_at hl 0 rfl) ?_
    refine lv_ifnull hx hb dX11_few_12 ?_
    refine lv_iload_n hx hb dX11_few_15 rfl (lv_at hl 3 rfl) ?_
    obtain ⟨r16, k17, hF⟩ := xb_s hF
    refine kSz (As := [.int xb]) (rest := []) hE hl hD (c_X11_isPurse k17) kl_X11_154 rfl rfl (Nat.le_of_ble_eq_true rfl) dX11_few_16 ⟨Nat.le_of_ble_eq_true rfl, Nat.le_of_ble_eq_true rfl⟩ ⟨Nat.le_of_ble_eq_true rfl, Nat.le_of_ble_eq_true rfl⟩ (fun H locs z18 (hD : tD G _ _ u H locs) => ?_)
    refine lv_if_eq (tgt := 29) hx hb dX11_few_19 (by decide) (fun c19 => ?_) (fun c19 => ?_)
    · have hF := ite_p hF c19
      exact B_X11_few_j29 hE hD (lv_sub hl [1] rfl) hF
    · have hF := ite_n hF c19
      refine lv_iload_n hx hb dX11_few_22 rfl (lv_at hl 4 rfl) ?_
      obtain ⟨r20, k21, hF⟩ := xb_s hF
      refine kSz (As := [.int xc]) (rest := []) hE hl hD (c_X11_isPurse k21) kl_X11_154 rfl rfl (Nat.le_of_ble_eq_true rfl) dX11_few_23 ⟨Nat.le_of_ble_eq_true rfl, Nat.le_of_ble_eq_true rfl⟩ ⟨Nat.le_of_ble_eq_true rfl, Nat.le_of_ble_eq_true rfl⟩ (fun H locs z22 (hD : tD G _ _ u H locs) => ?_)
      refine lv_if_ne (tgt := 31) hx hb dX11_few_26 (by decide) (fun c23 => ?_) (fun c23 => ?_)
      · have hF := ite_n hF c23
        refine lv_iload_n hx hb dX11_few_31 rfl (lv_at hl 3 rfl) ?_
        refine lv_istore (lv' := [(5, .int xb), (4, .ref q14), (0, .ref a0), (1, .int xa), (2, .int xb), (3, .int xc)]) hx hb dX11_few_32 hl (by decide) rfl (fun ls hl => ?_)
        refine lv_iconst (v := (0 : Int32)) hx hb dX11_few_34 (by decide) ?_
        refine lv_istore (lv' := [(6, .int (0 : Int32)), (5, .int xb), (4, .ref q14), (0, .ref a0), (1, .int xa), (2, .int xb), (3, .int xc)]) hx hb dX11_few_35 hl (by decide) rfl (fun ls hl => ?_)
        exact L_X11_few_l37 hE _ hD (lv_sub hl [3, 6, 2, 1, 0] rfl) hF
      · have hF := ite_p hF c23
        exact B_X11_few_j29 hE hD (lv_sub hl [1] rfl) hF
