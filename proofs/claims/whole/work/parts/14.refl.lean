/-! ===== the reference: the group of conditions, clause, law (printed by wip/whole/gen) ===== -/
def F_X12_one_j138 (kr : xS → Option xS) (u : xS)  : Option (xS) := some u
theorem B_X12_one_j138 {p : Program} {l : Launch} {e : Env} {s : State} {m : MethodId} {args : Array Value} {below : List Frame} {meth : Method} {cd : Code} {G : xG} {w0 : xW} {b sz : Nat} {rr : (xS)} (hE : xE p s m args meth cd cX12_one RX12 G 2 (Option.none : Option Jvm.ClassFile.FieldType)) {kr : xS → Option xS} {dd : Nat} (hkr : ∀ {u rr : xS}, kr u = some rr → xMv l G yX12_condition cX12_condition 1 none dd 0 0 [.ref b] (mW G b u) sz (fun z => z = (mW G b rr, sz))) {u : xS}  {H : Heap} {locs : List Loc} {ls : Array Slot} (hD : mD G (xA w0 s.heap.size) s.heap b u sz H locs) (hl : lv_has ls 2 [(0, .ref b)]) (hF : F_X12_one_j138 kr u  = some rr) : W p l e (xR (dd + 20) 0 0) s m args below meth cd H locs 0 0 (xQv G w0 (fun z => z = ((mW G b rr), sz)) below args s 0 0) (F0 m 138 ls []) := by
  have hx := hE.1; have hb := hE.2.1
  unfold F_X12_one_j138 at hF
  obtain rfl := Option.some.inj hF
  exact x_vret hE hD rfl (by omega) (by omega) dX12_one_138
def F_X12_one_j128 (kr : xS → Option xS) (u : xS) (y1 : Int32) : Option (xS) := if y1 = 0 then F_X12_one_j138 kr u else (F_X12_writes u (-20 : Int32)).bind (fun r2 => F_X12_one_j138 kr r2)
theorem B_X12_one_j128 {p : Program} {l : Launch} {e : Env} {s : State} {m : MethodId} {args : Array Value} {below : List Frame} {meth : Method} {cd : Code} {G : xG} {w0 : xW} {b sz : Nat} {rr : (xS)} (hE : xE p s m args meth cd cX12_one RX12 G 2 (Option.none : Option Jvm.ClassFile.FieldType)) {kr : xS → Option xS} {dd : Nat} (hkr : ∀ {u rr : xS}, kr u = some rr → xMv l G yX12_condition cX12_condition 1 none dd 0 0 [.ref b] (mW G b u) sz (fun z => z = (mW G b rr, sz))) {u : xS} {y1 : Int32} {H : Heap} {locs : List Loc} {ls : Array Slot} (hD : mD G (xA w0 s.heap.size) s.heap b u sz H locs) (hl : lv_has ls 2 [(0, .ref b), (1, .int y1)]) (hF : F_X12_one_j128 kr u y1 = some rr) : W p l e (xR (dd + 20) 0 0) s m args below meth cd H locs 0 0 (xQv G w0 (fun z => z = ((mW G b rr), sz)) below args s 0 0) (F0 m 128 ls []) := by
  have hx := hE.1; have hb := hE.2.1
  unfold F_X12_one_j128 at hF
  refine lv_iload_n hx hb dX12_one_128 rfl (lv_at hl 1 rfl) ?_
  refine lv_if_eq (tgt := 138) hx hb dX12_one_129 (by decide) (fun c1 => ?_) (fun c1 => ?_)
  · have hF := ite_p hF c1
    exact B_X12_one_j138 hE hkr hD (lv_sub hl [0] rfl) hF
  · have hF := ite_n hF c1
    refine lv_aload_n hx hb dX12_one_132 rfl (lv_at hl 0 rfl) ?_
    refine lv_bipush (v := (-20 : Int32)) hx hb dX12_one_133 (by decide) ?_
    obtain ⟨r2, k3, hF⟩ := xb_s hF
    refine kVv (As := [.int (-20 : Int32)]) (rest := []) hE hl hD (c_X12_writes (b := b) k3) kl_X12_306 (mW_0 _ _ _) rfl rfl rfl rfl (Nat.le_of_ble_eq_true rfl) dX12_one_135 ⟨by show _ + 1 ≤ dd + 20; omega, by show 8 + (_ + 11) + 40 * _ ≤ 40 * (dd + 20); omega⟩ ⟨Nat.le_of_ble_eq_true rfl, Nat.le_of_ble_eq_true rfl⟩ (fun H locs (hD : mD G _ _ b r2 sz H locs) => ?_)
    exact B_X12_one_j138 hE hkr hD (lv_sub hl [0] rfl) hF
def F_X12_one_j124 (kr : xS → Option xS) (u : xS) (y1 : Int32) : Option (xS) := (F_X12_comparison u).bind (fun r4 => F_X12_one_j128 kr r4 y1)
theorem B_X12_one_j124 {p : Program} {l : Launch} {e : Env} {s : State} {m : MethodId} {args : Array Value} {below : List Frame} {meth : Method} {cd : Code} {G : xG} {w0 : xW} {b sz : Nat} {rr : (xS)} (hE : xE p s m args meth cd cX12_one RX12 G 2 (Option.none : Option Jvm.ClassFile.FieldType)) {kr : xS → Option xS} {dd : Nat} (hkr : ∀ {u rr : xS}, kr u = some rr → xMv l G yX12_condition cX12_condition 1 none dd 0 0 [.ref b] (mW G b u) sz (fun z => z = (mW G b rr, sz))) {u : xS} {y1 : Int32} {H : Heap} {locs : List Loc} {ls : Array Slot} (hD : mD G (xA w0 s.heap.size) s.heap b u sz H locs) (hl : lv_has ls 2 [(0, .ref b), (1, .int y1)]) (hF : F_X12_one_j124 kr u y1 = some rr) : W p l e (xR (dd + 20) 0 0) s m args below meth cd H locs 0 0 (xQv G w0 (fun z => z = ((mW G b rr), sz)) below args s 0 0) (F0 m 124 ls []) := by
  have hx := hE.1; have hb := hE.2.1
  unfold F_X12_one_j124 at hF
  refine lv_aload_n hx hb dX12_one_124 rfl (lv_at hl 0 rfl) ?_
  obtain ⟨r4, k5, hF⟩ := xb_s hF
  refine kVv (As := []) (rest := []) hE hl hD (c_X12_comparison (b := b) k5) kl_X12_323 (mW_0 _ _ _) rfl rfl rfl rfl (Nat.le_of_ble_eq_true rfl) dX12_one_125 ⟨by show _ + 1 ≤ dd + 20; omega, by show 8 + (_ + 11) + 40 * _ ≤ 40 * (dd + 20); omega⟩ ⟨Nat.le_of_ble_eq_true rfl, Nat.le_of_ble_eq_true rfl⟩ (fun H locs (hD : mD G _ _ b r4 sz H locs) => ?_)
  exact B_X12_one_j128 hE hkr hD (lv_sub hl [0, 1] rfl) hF
def F_X12_one_j118 (kr : xS → Option xS) (u : xS) (y1 : Int32) (s1 : Int32) : Option (xS) := (F_X12_needs u s1).bind (fun r6 => F_X12_one_j128 kr r6 y1)
theorem B_X12_one_j118 {p : Program} {l : Launch} {e : Env} {s : State} {m : MethodId} {args : Array Value} {below : List Frame} {meth : Method} {cd : Code} {G : xG} {w0 : xW} {b sz : Nat} {rr : (xS)} (hE : xE p s m args meth cd cX12_one RX12 G 2 (Option.none : Option Jvm.ClassFile.FieldType)) {kr : xS → Option xS} {dd : Nat} (hkr : ∀ {u rr : xS}, kr u = some rr → xMv l G yX12_condition cX12_condition 1 none dd 0 0 [.ref b] (mW G b u) sz (fun z => z = (mW G b rr, sz))) {u : xS} {y1 : Int32} {s1 : Int32} {H : Heap} {locs : List Loc} {ls : Array Slot} (hD : mD G (xA w0 s.heap.size) s.heap b u sz H locs) (hl : lv_has ls 2 [(0, .ref b), (1, .int y1)]) (hF : F_X12_one_j118 kr u y1 s1 = some rr) : W p l e (xR (dd + 20) 0 0) s m args below meth cd H locs 0 0 (xQv G w0 (fun z => z = ((mW G b rr), sz)) below args s 0 0) (F0 m 118 ls [.int s1, .ref b]) := by
  have hx := hE.1; have hb := hE.2.1
  unfold F_X12_one_j118 at hF
  obtain ⟨r6, k7, hF⟩ := xb_s hF
  refine kVv (As := [.int s1]) (rest := []) hE hl hD (c_X12_needs (b := b) k7) kl_X12_269 (mW_0 _ _ _) rfl rfl rfl rfl (Nat.le_of_ble_eq_true rfl) dX12_one_118 ⟨by show _ + 1 ≤ dd + 20; omega, by show 8 + (_ + 11) + 40 * _ ≤ 40 * (dd + 20); omega⟩ ⟨Nat.le_of_ble_eq_true rfl, Nat.le_of_ble_eq_true rfl⟩ (fun H locs (hD : mD G _ _ b r6 sz H locs) => ?_)
  refine lv_goto (tgt := 128) hx hb dX12_one_121 (by decide) ?_
  exact B_X12_one_j128 hE hkr hD (lv_sub hl [0, 1] rfl) hF
def F_X12_one_j117 (kr : xS → Option xS) (u : xS) (y1 : Int32) : Option (xS) := F_X12_one_j118 kr u y1 (0 : Int32)
theorem B_X12_one_j117 {p : Program} {l : Launch} {e : Env} {s : State} {m : MethodId} {args : Array Value} {below : List Frame} {meth : Method} {cd : Code} {G : xG} {w0 : xW} {b sz : Nat} {rr : (xS)} (hE : xE p s m args meth cd cX12_one RX12 G 2 (Option.none : Option Jvm.ClassFile.FieldType)) {kr : xS → Option xS} {dd : Nat} (hkr : ∀ {u rr : xS}, kr u = some rr → xMv l G yX12_condition cX12_condition 1 none dd 0 0 [.ref b] (mW G b u) sz (fun z => z = (mW G b rr, sz))) {u : xS} {y1 : Int32} {H : Heap} {locs : List Loc} {ls : Array Slot} (hD : mD G (xA w0 s.heap.size) s.heap b u sz H locs) (hl : lv_has ls 2 [(0, .ref b), (1, .int y1)]) (hF : F_X12_one_j117 kr u y1 = some rr) : W p l e (xR (dd + 20) 0 0) s m args below meth cd H locs 0 0 (xQv G w0 (fun z => z = ((mW G b rr), sz)) below args s 0 0) (F0 m 117 ls [.ref b]) := by
  have hx := hE.1; have hb := hE.2.1
  unfold F_X12_one_j117 at hF
  refine lv_iconst (v := (0 : Int32)) hx hb dX12_one_117 (by decide) ?_
  exact B_X12_one_j118 hE hkr hD (lv_sub hl [0, 1] rfl) hF
def F_X12_one_j65 (kr : xS → Option xS) (u : xS) (y1 : Int32) (s1 : Int32) : Option (xS) := (F_X12_needs u s1).bind (fun r8 => xlet (mS r8 22 ((r8.1 22) + (1 : Int32))) (fun u10 => (kr u10).bind (fun r11 => xlet (mS r11 22 ((r11.1 22) - (1 : Int32))) (fun u13 => if (u13.1 24) = 0 then (F_X12_byteAt u13 (u13.1 19)).bind (fun r15 => if r15 = (41 : Int32) then F_X12_one_j118 kr u13 y1 (1 : Int32) else F_X12_one_j117 kr u13 y1) else F_X12_one_j117 kr u13 y1))))
theorem B_X12_one_j65 {p : Program} {l : Launch} {e : Env} {s : State} {m : MethodId} {args : Array Value} {below : List Frame} {meth : Method} {cd : Code} {G : xG} {w0 : xW} {b sz : Nat} {rr : (xS)} (hE : xE p s m args meth cd cX12_one RX12 G 2 (Option.none : Option Jvm.ClassFile.FieldType)) {kr : xS → Option xS} {dd : Nat} (hkr : ∀ {u rr : xS}, kr u = some rr → xMv l G yX12_condition cX12_condition 1 none dd 0 0 [.ref b] (mW G b u) sz (fun z => z = (mW G b rr, sz))) {u : xS} {y1 : Int32} {s1 : Int32} {H : Heap} {locs : List Loc} {ls : Array Slot} (hD : mD G (xA w0 s.heap.size) s.heap b u sz H locs) (hl : lv_has ls 2 [(0, .ref b), (1, .int y1)]) (hF : F_X12_one_j65 kr u y1 s1 = some rr) : W p l e (xR (dd + 20) 0 0) s m args below meth cd H locs 0 0 (xQv G w0 (fun z => z = ((mW G b rr), sz)) below args s 0 0) (F0 m 65 ls [.int s1, .ref b]) := by
  have hx := hE.1; have hb := hE.2.1
  unfold F_X12_one_j65 at hF
  obtain ⟨r8, k9, hF⟩ := xb_s hF
  refine kVv (As := [.int s1]) (rest := []) hE hl hD (c_X12_needs (b := b) k9) kl_X12_269 (mW_0 _ _ _) rfl rfl rfl rfl (Nat.le_of_ble_eq_true rfl) dX12_one_65 ⟨by show _ + 1 ≤ dd + 20; omega, by show 8 + (_ + 11) + 40 * _ ≤ 40 * (dd + 20); omega⟩ ⟨Nat.le_of_ble_eq_true rfl, Nat.le_of_ble_eq_true rfl⟩ (fun H locs (hD : mD G _ _ b r8 sz H locs) => ?_)
  refine lv_aload_n hx hb dX12_one_68 rfl (lv_at hl 0 rfl) ?_
  refine lv_dup hx hb dX12_one_69 rfl ?_
  refine gf_X12_317 hE hD dX12_one_70 ?_
  refine lv_iconst (v := (1 : Int32)) hx hb dX12_one_73 (by decide) ?_
  refine lv_iadd hx hb dX12_one_74 ?_
  refine pf_X12_317 hE hD dX12_one_75 (fun u10 H locs eu10 hD => ?_)
  have hF := xlet_e hF eu10
  refine lv_aload_n hx hb dX12_one_78 rfl (lv_at hl 0 rfl) ?_
  obtain ⟨r11, k12, hF⟩ := xb_s hF
  refine kVv (As := []) (rest := []) hE hl hD (hkr k12) kl_X12_320 (mW_0 _ _ _) rfl rfl rfl rfl (Nat.le_of_ble_eq_true rfl) dX12_one_79 ⟨by show _ + 1 ≤ dd + 20; omega, by show 8 + (_ + 11) + 40 * _ ≤ 40 * (dd + 20); omega⟩ ⟨Nat.le_of_ble_eq_true rfl, Nat.le_of_ble_eq_true rfl⟩ (fun H locs (hD : mD G _ _ b r11 sz H locs) => ?_)
  refine lv_aload_n hx hb dX12_one_82 rfl (lv_at hl 0 rfl) ?_
  refine lv_dup hx hb dX12_one_83 rfl ?_
  refine gf_X12_317 hE hD dX12_one_84 ?_
  refine lv_iconst (v := (1 : Int32)) hx hb dX12_one_87 (by decide) ?_
  refine lv_isub hx hb dX12_one_88 ?_
  refine pf_X12_317 hE hD dX12_one_89 (fun u13 H locs eu13 hD => ?_)
  have hF := xlet_e hF eu13
  refine lv_aload_n hx hb dX12_one_92 rfl (lv_at hl 0 rfl) ?_
  refine lv_aload_n hx hb dX12_one_93 rfl (lv_at hl 0 rfl) ?_
  refine gf_X12_256 hE hD dX12_one_94 ?_
  refine lv_if_ne (tgt := 117) hx hb dX12_one_97 (by decide) (fun c14 => ?_) (fun c14 => ?_)
  · have hF := ite_n hF c14
    exact B_X12_one_j117 hE hkr hD (lv_sub hl [0, 1] rfl) hF
  · have hF := ite_p hF c14
    refine lv_aload_n hx hb dX12_one_100 rfl (lv_at hl 0 rfl) ?_
    refine lv_aload_n hx hb dX12_one_101 rfl (lv_at hl 0 rfl) ?_
    refine gf_X12_244 hE hD dX12_one_102 ?_
    obtain ⟨r15, k16, hF⟩ := xb_s hF
    refine kVi (As := [.int (u13.1 19)]) (rest := [.ref b]) hE hl hD (c_X12_byteAt (b := b) k16) kl_X12_247 (mW_0 _ _ _) rfl rfl rfl rfl (Nat.le_of_ble_eq_true rfl) dX12_one_105 ⟨by show _ + 1 ≤ dd + 20; omega, by show 8 + (_ + 11) + 40 * _ ≤ 40 * (dd + 20); omega⟩ ⟨Nat.le_of_ble_eq_true rfl, Nat.le_of_ble_eq_true rfl⟩ (fun H locs (hD : mD G _ _ b u13 sz H locs) => ?_)
    refine lv_bipush (v := (41 : Int32)) hx hb dX12_one_108 (by decide) ?_
    refine lv_icmp_ne (tgt := 117) hx hb dX12_one_110 (by decide) (fun c17 => ?_) (fun c17 => ?_)
    · have hF := ite_n hF c17
      exact B_X12_one_j117 hE hkr hD (lv_sub hl [0, 1] rfl) hF
    · have hF := ite_p hF c17
      refine lv_iconst (v := (1 : Int32)) hx hb dX12_one_113 (by decide) ?_
      refine lv_goto (tgt := 118) hx hb dX12_one_114 (by decide) ?_
      exact B_X12_one_j118 hE hkr hD (lv_sub hl [0, 1] rfl) hF
def F_X12_one_j22 (kr : xS → Option xS) (k2 : xS → Int32 → Option (xS)) (u : xS) (s0 : Int32) : Option (xS) := (F_X12_needs u (1 : Int32)).bind (fun r18 => k2 r18 s0)
theorem B_X12_one_j22 {p : Program} {l : Launch} {e : Env} {s : State} {m : MethodId} {args : Array Value} {below : List Frame} {meth : Method} {cd : Code} {G : xG} {w0 : xW} {b sz : Nat} {rr : (xS)} (hE : xE p s m args meth cd cX12_one RX12 G 2 (Option.none : Option Jvm.ClassFile.FieldType)) {kr : xS → Option xS} {dd : Nat} (hkr : ∀ {u rr : xS}, kr u = some rr → xMv l G yX12_condition cX12_condition 1 none dd 0 0 [.ref b] (mW G b u) sz (fun z => z = (mW G b rr, sz))) {u : xS} (k2 : xS → Int32 → Option (xS)) (h2 : ∀ {u1 : xS} {y1 : Int32} {H : Heap} {locs : List Loc} {ls : Array Slot}, mD G (xA w0 s.heap.size) s.heap b u1 sz H locs → lv_has ls 2 [(0, .ref b), (1, .int y1)] → k2 u1 y1 = some rr → W p l e (xR (dd + 20) 0 0) s m args below meth cd H locs 0 0 (xQv G w0 (fun z => z = ((mW G b rr), sz)) below args s 0 0) (F0 m 2 ls [])) {s0 : Int32} {H : Heap} {locs : List Loc} {ls : Array Slot} (hD : mD G (xA w0 s.heap.size) s.heap b u sz H locs) (hl : lv_has ls 2 [(0, .ref b)]) (hF : F_X12_one_j22 kr k2 u s0 = some rr) : W p l e (xR (dd + 20) 0 0) s m args below meth cd H locs 0 0 (xQv G w0 (fun z => z = ((mW G b rr), sz)) below args s 0 0) (F0 m 22 ls [.int s0]) := by
  have hx := hE.1; have hb := hE.2.1
  unfold F_X12_one_j22 at hF
  refine lv_istore_n (lv' := [(1, .int s0), (0, .ref b)]) hx hb dX12_one_22 rfl hl (by decide) rfl (fun ls hl => ?_)
  refine lv_aload_n hx hb dX12_one_23 rfl (lv_at hl 1 rfl) ?_
  refine lv_iconst (v := (1 : Int32)) hx hb dX12_one_24 (by decide) ?_
  obtain ⟨r18, k19, hF⟩ := xb_s hF
  refine kVv (As := [.int (1 : Int32)]) (rest := []) hE hl hD (c_X12_needs (b := b) k19) kl_X12_269 (mW_0 _ _ _) rfl rfl rfl rfl (Nat.le_of_ble_eq_true rfl) dX12_one_25 ⟨by show _ + 1 ≤ dd + 20; omega, by show 8 + (_ + 11) + 40 * _ ≤ 40 * (dd + 20); omega⟩ ⟨Nat.le_of_ble_eq_true rfl, Nat.le_of_ble_eq_true rfl⟩ (fun H locs (hD : mD G _ _ b r18 sz H locs) => ?_)
  refine lv_goto (tgt := 2) hx hb dX12_one_28 (by decide) ?_
  exact h2 hD (lv_sub hl [1, 0] rfl) hF
def F_X12_one_l2 (kr : xS → Option xS) : Nat → xS → Int32 → Option (xS)
  | 0, _, _ => none
  | nn + 1, u, y1 => (F_X12_word u).bind (fun r20 => if (lg_cmp r20 (14836 : Int64)) = 0 then if y1 = 0 then F_X12_one_j22 kr (F_X12_one_l2 kr nn) u (1 : Int32) else F_X12_one_j22 kr (F_X12_one_l2 kr nn) u (0 : Int32) else if (u.1 24) = 0 then (F_X12_byteAt u (u.1 19)).bind (fun r24 => if r24 = (40 : Int32) then if (3 : Int32) ≤ (u.1 22) then F_X12_one_j65 kr u y1 (0 : Int32) else F_X12_one_j65 kr u y1 (1 : Int32) else F_X12_one_j124 kr u y1) else F_X12_one_j124 kr u y1)
theorem L_X12_one_l2 {p : Program} {l : Launch} {e : Env} {s : State} {m : MethodId} {args : Array Value} {below : List Frame} {meth : Method} {cd : Code} {G : xG} {w0 : xW} {b sz : Nat} {rr : (xS)} (hE : xE p s m args meth cd cX12_one RX12 G 2 (Option.none : Option Jvm.ClassFile.FieldType)) {kr : xS → Option xS} {dd : Nat} (hkr : ∀ {u rr : xS}, kr u = some rr → xMv l G yX12_condition cX12_condition 1 none dd 0 0 [.ref b] (mW G b u) sz (fun z => z = (mW G b rr, sz))) : ∀ (nn : Nat) {u : xS} {y1 : Int32} {H : Heap} {locs : List Loc} {ls : Array Slot}, mD G (xA w0 s.heap.size) s.heap b u sz H locs → lv_has ls 2 [(0, .ref b), (1, .int y1)] → F_X12_one_l2 kr nn u y1 = some rr → W p l e (xR (dd + 20) 0 0) s m args below meth cd H locs 0 0 (xQv G w0 (fun z => z = ((mW G b rr), sz)) below args s 0 0) (F0 m 2 ls []) := by
  have hx := hE.1; have hb := hE.2.1
  intro nn
  induction nn with
  | zero => intro u y1 H locs ls hD hl hF; rw [F_X12_one_l2] at hF; cases hF
  | succ nn ih =>
    intro u y1 H locs ls hD hl hF
    rw [F_X12_one_l2] at hF
    refine lv_aload_n hx hb dX12_one_2 rfl (lv_at hl 0 rfl) ?_
    obtain ⟨r20, k21, hF⟩ := xb_s hF
    refine kVl (As := []) (rest := []) hE hl hD (c_X12_word (b := b) k21) kl_X12_273 (mW_0 _ _ _) rfl rfl rfl rfl (Nat.le_of_ble_eq_true rfl) dX12_one_3 ⟨by show _ + 1 ≤ dd + 20; omega, by show 8 + (_ + 11) + 40 * _ ≤ 40 * (dd + 20); omega⟩ ⟨Nat.le_of_ble_eq_true rfl, Nat.le_of_ble_eq_true rfl⟩ (fun H locs (hD : mD G _ _ b u sz H locs) => ?_)
    refine lv_ldc2 (v := (14836 : Int64)) hx hb hE.2.2.1 (hE.2.2.2.1 _ kw7_155) dX12_one_6 ?_
    refine W.lcmp hx hb dX12_one_9 ?_
    refine lv_if_ne (tgt := 31) hx hb dX12_one_10 (by decide) (fun c22 => ?_) (fun c22 => ?_)
    · have hF := ite_n hF c22
      refine lv_aload_n hx hb dX12_one_31 rfl (lv_at hl 0 rfl) ?_
      refine gf_X12_256 hE hD dX12_one_32 ?_
      refine lv_if_ne (tgt := 124) hx hb dX12_one_35 (by decide) (fun c23 => ?_) (fun c23 => ?_)
      · have hF := ite_n hF c23
        exact B_X12_one_j124 hE hkr hD (lv_sub hl [0, 1] rfl) hF
      · have hF := ite_p hF c23
        refine lv_aload_n hx hb dX12_one_38 rfl (lv_at hl 0 rfl) ?_
        refine lv_aload_n hx hb dX12_one_39 rfl (lv_at hl 0 rfl) ?_
        refine gf_X12_244 hE hD dX12_one_40 ?_
        obtain ⟨r24, k25, hF⟩ := xb_s hF
        refine kVi (As := [.int (u.1 19)]) (rest := []) hE hl hD (c_X12_byteAt (b := b) k25) kl_X12_247 (mW_0 _ _ _) rfl rfl rfl rfl (Nat.le_of_ble_eq_true rfl) dX12_one_43 ⟨by show _ + 1 ≤ dd + 20; omega, by show 8 + (_ + 11) + 40 * _ ≤ 40 * (dd + 20); omega⟩ ⟨Nat.le_of_ble_eq_true rfl, Nat.le_of_ble_eq_true rfl⟩ (fun H locs (hD : mD G _ _ b u sz H locs) => ?_)
        refine lv_bipush (v := (40 : Int32)) hx hb dX12_one_46 (by decide) ?_
        refine lv_icmp_ne (tgt := 124) hx hb dX12_one_48 (by decide) (fun c26 => ?_) (fun c26 => ?_)
        · have hF := ite_n hF c26
          exact B_X12_one_j124 hE hkr hD (lv_sub hl [0, 1] rfl) hF
        · have hF := ite_p hF c26
          refine lv_aload_n hx hb dX12_one_51 rfl (lv_at hl 0 rfl) ?_
          refine lv_aload_n hx hb dX12_one_52 rfl (lv_at hl 0 rfl) ?_
          refine gf_X12_317 hE hD dX12_one_53 ?_
          refine lv_iconst (v := (3 : Int32)) hx hb dX12_one_56 (by decide) ?_
          refine lv_icmp_ge (tgt := 64) hx hb dX12_one_57 (by decide) (fun c27 => ?_) (fun c27 => ?_)
          · have hF := ite_p hF c27
            refine lv_iconst (v := (0 : Int32)) hx hb dX12_one_64 (by decide) ?_
            exact B_X12_one_j65 hE hkr hD (lv_sub hl [0, 1] rfl) hF
          · have hF := ite_n hF c27
            refine lv_iconst (v := (1 : Int32)) hx hb dX12_one_60 (by decide) ?_
            refine lv_goto (tgt := 65) hx hb dX12_one_61 (by decide) ?_
            exact B_X12_one_j65 hE hkr hD (lv_sub hl [0, 1] rfl) hF
    · have hF := ite_p hF c22
      refine lv_iload_n hx hb dX12_one_13 rfl (lv_at hl 1 rfl) ?_
      refine lv_if_ne (tgt := 21) hx hb dX12_one_14 (by decide) (fun c28 => ?_) (fun c28 => ?_)
      · have hF := ite_n hF c28
        refine lv_iconst (v := (0 : Int32)) hx hb dX12_one_21 (by decide) ?_
        exact B_X12_one_j22 hE hkr (F_X12_one_l2 kr nn) ih hD (lv_sub hl [0] rfl) hF
      · have hF := ite_p hF c28
        refine lv_iconst (v := (1 : Int32)) hx hb dX12_one_17 (by decide) ?_
        refine lv_goto (tgt := 22) hx hb dX12_one_18 (by decide) ?_
        exact B_X12_one_j22 hE hkr (F_X12_one_l2 kr nn) ih hD (lv_sub hl [0] rfl) hF
def F_X12_one (kr : xS → Option xS) (u : xS)  : Option (xS) := F_X12_one_l2 kr xFuel u (0 : Int32)
theorem c_X12_one {l : Launch} {G : xG} {b sz : Nat} {rr : (xS)} {kr : xS → Option xS} {dd : Nat} (hkr : ∀ {u rr : xS}, kr u = some rr → xMv l G yX12_condition cX12_condition 1 none dd 0 0 [.ref b] (mW G b u) sz (fun z => z = (mW G b rr, sz))) {u : xS}  (hF : F_X12_one kr u  = some rr) : xMv l G yX12_one cX12_one 2 (Option.none : Option Jvm.ClassFile.FieldType) (dd + 20) 0 0 [.ref b] (mW G b u) sz (fun z => z = ((mW G b rr), sz)) := by
  unfold F_X12_one at hF
  refine x_startV rfl (Nat.le_of_ble_eq_true rfl) (fun p e s m args below meth cd ls hE hnm hl hD => ?_)
  have hx := hE.1; have hb := hE.2.1
  have hl : lv_has ls 2 [(0, .ref b)] := hl
  have hD : mD G (xA (mW G b u) s.heap.size) s.heap b u sz s.heap [] := hD
  refine lv_iconst (v := (0 : Int32)) hx hb dX12_one_0 (by decide) ?_
  refine lv_istore_n (lv' := [(1, .int (0 : Int32)), (0, .ref b)]) hx hb dX12_one_1 rfl hl (by decide) rfl (fun ls hl => ?_)
  exact L_X12_one_l2 hE hkr _ hD (lv_sub hl [1, 0] rfl) hF
def F_X12_all_l4 (kr : xS → Option xS) : Nat → xS → Option (xS)
  | 0, _ => none
  | nn + 1, u => (F_X12_word u).bind (fun r1 => if (lg_cmp r1 (1476 : Int64)) = 0 then (F_X12_needs u (1 : Int32)).bind (fun r4 => (F_X12_one kr r4).bind (fun r6 => (F_X12_writes r6 (-21 : Int32)).bind (fun r8 => F_X12_all_l4 kr nn r8))) else some u)
theorem L_X12_all_l4 {p : Program} {l : Launch} {e : Env} {s : State} {m : MethodId} {args : Array Value} {below : List Frame} {meth : Method} {cd : Code} {G : xG} {w0 : xW} {b sz : Nat} {rr : (xS)} (hE : xE p s m args meth cd cX12_all RX12 G 1 (Option.none : Option Jvm.ClassFile.FieldType)) {kr : xS → Option xS} {dd : Nat} (hkr : ∀ {u rr : xS}, kr u = some rr → xMv l G yX12_condition cX12_condition 1 none dd 0 0 [.ref b] (mW G b u) sz (fun z => z = (mW G b rr, sz))) : ∀ (nn : Nat) {u : xS} {H : Heap} {locs : List Loc} {ls : Array Slot}, mD G (xA w0 s.heap.size) s.heap b u sz H locs → lv_has ls 1 [(0, .ref b)] → F_X12_all_l4 kr nn u  = some rr → W p l e (xR (dd + 21) 0 0) s m args below meth cd H locs 0 0 (xQv G w0 (fun z => z = ((mW G b rr), sz)) below args s 0 0) (F0 m 4 ls []) := by
  have hx := hE.1; have hb := hE.2.1
  intro nn
  induction nn with
  | zero => intro u  H locs ls hD hl hF; rw [F_X12_all_l4] at hF; cases hF
  | succ nn ih =>
    intro u  H locs ls hD hl hF
    rw [F_X12_all_l4] at hF
    refine lv_aload_n hx hb dX12_all_4 rfl (lv_at hl 0 rfl) ?_
    obtain ⟨r1, k2, hF⟩ := xb_s hF
    refine kVl (As := []) (rest := []) hE hl hD (c_X12_word (b := b) k2) kl_X12_273 (mW_0 _ _ _) rfl rfl rfl rfl (Nat.le_of_ble_eq_true rfl) dX12_all_5 ⟨by show _ + 1 ≤ dd + 21; omega, by show 8 + (_ + 11) + 40 * _ ≤ 40 * (dd + 21); omega⟩ ⟨Nat.le_of_ble_eq_true rfl, Nat.le_of_ble_eq_true rfl⟩ (fun H locs (hD : mD G _ _ b u sz H locs) => ?_)
    refine lv_ldc2 (v := (1476 : Int64)) hx hb hE.2.2.1 (hE.2.2.2.1 _ kw7_181) dX12_all_8 ?_
    refine W.lcmp hx hb dX12_all_11 ?_
    refine lv_if_ne (tgt := 33) hx hb dX12_all_12 (by decide) (fun c3 => ?_) (fun c3 => ?_)
    · have hF := ite_n hF c3
      obtain rfl := Option.some.inj hF
      exact x_vret hE hD rfl (by omega) (by omega) dX12_all_33
    · have hF := ite_p hF c3
      refine lv_aload_n hx hb dX12_all_15 rfl (lv_at hl 0 rfl) ?_
      refine lv_iconst (v := (1 : Int32)) hx hb dX12_all_16 (by decide) ?_
      obtain ⟨r4, k5, hF⟩ := xb_s hF
      refine kVv (As := [.int (1 : Int32)]) (rest := []) hE hl hD (c_X12_needs (b := b) k5) kl_X12_269 (mW_0 _ _ _) rfl rfl rfl rfl (Nat.le_of_ble_eq_true rfl) dX12_all_17 ⟨by show _ + 1 ≤ dd + 21; omega, by show 8 + (_ + 11) + 40 * _ ≤ 40 * (dd + 21); omega⟩ ⟨Nat.le_of_ble_eq_true rfl, Nat.le_of_ble_eq_true rfl⟩ (fun H locs (hD : mD G _ _ b r4 sz H locs) => ?_)
      refine lv_aload_n hx hb dX12_all_20 rfl (lv_at hl 0 rfl) ?_
      obtain ⟨r6, k7, hF⟩ := xb_s hF
      refine kVv (As := []) (rest := []) hE hl hD (c_X12_one (b := b) hkr k7) kl_X12_326 (mW_0 _ _ _) rfl rfl rfl rfl (Nat.le_of_ble_eq_true rfl) dX12_all_21 ⟨by show _ + 1 ≤ dd + 21; omega, by show 8 + (_ + 11) + 40 * _ ≤ 40 * (dd + 21); omega⟩ ⟨Nat.le_of_ble_eq_true rfl, Nat.le_of_ble_eq_true rfl⟩ (fun H locs (hD : mD G _ _ b r6 sz H locs) => ?_)
      refine lv_aload_n hx hb dX12_all_24 rfl (lv_at hl 0 rfl) ?_
      refine lv_bipush (v := (-21 : Int32)) hx hb dX12_all_25 (by decide) ?_
      obtain ⟨r8, k9, hF⟩ := xb_s hF
      refine kVv (As := [.int (-21 : Int32)]) (rest := []) hE hl hD (c_X12_writes (b := b) k9) kl_X12_306 (mW_0 _ _ _) rfl rfl rfl rfl (Nat.le_of_ble_eq_true rfl) dX12_all_27 ⟨by show _ + 1 ≤ dd + 21; omega, by show 8 + (_ + 11) + 40 * _ ≤ 40 * (dd + 21); omega⟩ ⟨Nat.le_of_ble_eq_true rfl, Nat.le_of_ble_eq_true rfl⟩ (fun H locs (hD : mD G _ _ b r8 sz H locs) => ?_)
      refine lv_goto (tgt := 4) hx hb dX12_all_30 (by decide) ?_
      exact ih hD (lv_sub hl [0] rfl) hF
def F_X12_all (kr : xS → Option xS) (u : xS)  : Option (xS) := (F_X12_one kr u).bind (fun r10 => F_X12_all_l4 kr xFuel r10)
theorem c_X12_all {l : Launch} {G : xG} {b sz : Nat} {rr : (xS)} {kr : xS → Option xS} {dd : Nat} (hkr : ∀ {u rr : xS}, kr u = some rr → xMv l G yX12_condition cX12_condition 1 none dd 0 0 [.ref b] (mW G b u) sz (fun z => z = (mW G b rr, sz))) {u : xS}  (hF : F_X12_all kr u  = some rr) : xMv l G yX12_all cX12_all 1 (Option.none : Option Jvm.ClassFile.FieldType) (dd + 21) 0 0 [.ref b] (mW G b u) sz (fun z => z = ((mW G b rr), sz)) := by
  unfold F_X12_all at hF
  refine x_startV rfl (Nat.le_of_ble_eq_true rfl) (fun p e s m args below meth cd ls hE hnm hl hD => ?_)
  have hx := hE.1; have hb := hE.2.1
  have hl : lv_has ls 1 [(0, .ref b)] := hl
  have hD : mD G (xA (mW G b u) s.heap.size) s.heap b u sz s.heap [] := hD
  refine lv_aload_n hx hb dX12_all_0 rfl (lv_at hl 0 rfl) ?_
  obtain ⟨r10, k11, hF⟩ := xb_s hF
  refine kVv (As := []) (rest := []) hE hl hD (c_X12_one (b := b) hkr k11) kl_X12_326 (mW_0 _ _ _) rfl rfl rfl rfl (Nat.le_of_ble_eq_true rfl) dX12_all_1 ⟨by show _ + 1 ≤ dd + 21; omega, by show 8 + (_ + 11) + 40 * _ ≤ 40 * (dd + 21); omega⟩ ⟨Nat.le_of_ble_eq_true rfl, Nat.le_of_ble_eq_true rfl⟩ (fun H locs (hD : mD G _ _ b r10 sz H locs) => ?_)
  exact L_X12_all_l4 hE hkr _ hD (lv_sub hl [0] rfl) hF
def F_X12_condition_l12 (kr : xS → Option xS) : Nat → xS → Option (xS)
  | 0, _ => none
  | nn + 1, u => (F_X12_word u).bind (fun r1 => if (lg_cmp r1 (498 : Int64)) = 0 then (F_X12_needs u (1 : Int32)).bind (fun r4 => (F_X12_all kr r4).bind (fun r6 => (F_X12_writes r6 (-22 : Int32)).bind (fun r8 => F_X12_condition_l12 kr nn r8))) else some u)
theorem L_X12_condition_l12 {p : Program} {l : Launch} {e : Env} {s : State} {m : MethodId} {args : Array Value} {below : List Frame} {meth : Method} {cd : Code} {G : xG} {w0 : xW} {b sz : Nat} {rr : (xS)} (hE : xE p s m args meth cd cX12_condition RX12 G 1 (Option.none : Option Jvm.ClassFile.FieldType)) {kr : xS → Option xS} {dd : Nat} (hkr : ∀ {u rr : xS}, kr u = some rr → xMv l G yX12_condition cX12_condition 1 none dd 0 0 [.ref b] (mW G b u) sz (fun z => z = (mW G b rr, sz))) : ∀ (nn : Nat) {u : xS} {H : Heap} {locs : List Loc} {ls : Array Slot}, mD G (xA w0 s.heap.size) s.heap b u sz H locs → lv_has ls 1 [(0, .ref b)] → F_X12_condition_l12 kr nn u  = some rr → W p l e (xR (dd + 22) 0 0) s m args below meth cd H locs 0 0 (xQv G w0 (fun z => z = ((mW G b rr), sz)) below args s 0 0) (F0 m 12 ls []) := by
  have hx := hE.1; have hb := hE.2.1
  intro nn
  induction nn with
  | zero => intro u  H locs ls hD hl hF; rw [F_X12_condition_l12] at hF; cases hF
  | succ nn ih =>
    intro u  H locs ls hD hl hF
    rw [F_X12_condition_l12] at hF
    refine lv_aload_n hx hb dX12_condition_12 rfl (lv_at hl 0 rfl) ?_
    obtain ⟨r1, k2, hF⟩ := xb_s hF
    refine kVl (As := []) (rest := []) hE hl hD (c_X12_word (b := b) k2) kl_X12_273 (mW_0 _ _ _) rfl rfl rfl rfl (Nat.le_of_ble_eq_true rfl) dX12_condition_13 ⟨by show _ + 1 ≤ dd + 22; omega, by show 8 + (_ + 11) + 40 * _ ≤ 40 * (dd + 22); omega⟩ ⟨Nat.le_of_ble_eq_true rfl, Nat.le_of_ble_eq_true rfl⟩ (fun H locs (hD : mD G _ _ b u sz H locs) => ?_)
    refine lv_ldc2 (v := (498 : Int64)) hx hb hE.2.2.1 (hE.2.2.2.1 _ kw7_182) dX12_condition_16 ?_
    refine W.lcmp hx hb dX12_condition_19 ?_
    refine lv_if_ne (tgt := 41) hx hb dX12_condition_20 (by decide) (fun c3 => ?_) (fun c3 => ?_)
    · have hF := ite_n hF c3
      obtain rfl := Option.some.inj hF
      exact x_vret hE hD rfl (by omega) (by omega) dX12_condition_41
    · have hF := ite_p hF c3
      refine lv_aload_n hx hb dX12_condition_23 rfl (lv_at hl 0 rfl) ?_
      refine lv_iconst (v := (1 : Int32)) hx hb dX12_condition_24 (by decide) ?_
      obtain ⟨r4, k5, hF⟩ := xb_s hF
      refine kVv (As := [.int (1 : Int32)]) (rest := []) hE hl hD (c_X12_needs (b := b) k5) kl_X12_269 (mW_0 _ _ _) rfl rfl rfl rfl (Nat.le_of_ble_eq_true rfl) dX12_condition_25 ⟨by show _ + 1 ≤ dd + 22; omega, by show 8 + (_ + 11) + 40 * _ ≤ 40 * (dd + 22); omega⟩ ⟨Nat.le_of_ble_eq_true rfl, Nat.le_of_ble_eq_true rfl⟩ (fun H locs (hD : mD G _ _ b r4 sz H locs) => ?_)
      refine lv_aload_n hx hb dX12_condition_28 rfl (lv_at hl 0 rfl) ?_
      obtain ⟨r6, k7, hF⟩ := xb_s hF
      refine kVv (As := []) (rest := []) hE hl hD (c_X12_all (b := b) hkr k7) kl_X12_331 (mW_0 _ _ _) rfl rfl rfl rfl (Nat.le_of_ble_eq_true rfl) dX12_condition_29 ⟨by show _ + 1 ≤ dd + 22; omega, by show 8 + (_ + 11) + 40 * _ ≤ 40 * (dd + 22); omega⟩ ⟨Nat.le_of_ble_eq_true rfl, Nat.le_of_ble_eq_true rfl⟩ (fun H locs (hD : mD G _ _ b r6 sz H locs) => ?_)
      refine lv_aload_n hx hb dX12_condition_32 rfl (lv_at hl 0 rfl) ?_
      refine lv_bipush (v := (-22 : Int32)) hx hb dX12_condition_33 (by decide) ?_
      obtain ⟨r8, k9, hF⟩ := xb_s hF
      refine kVv (As := [.int (-22 : Int32)]) (rest := []) hE hl hD (c_X12_writes (b := b) k9) kl_X12_306 (mW_0 _ _ _) rfl rfl rfl rfl (Nat.le_of_ble_eq_true rfl) dX12_condition_35 ⟨by show _ + 1 ≤ dd + 22; omega, by show 8 + (_ + 11) + 40 * _ ≤ 40 * (dd + 22); omega⟩ ⟨Nat.le_of_ble_eq_true rfl, Nat.le_of_ble_eq_true rfl⟩ (fun H locs (hD : mD G _ _ b r8 sz H locs) => ?_)
      refine lv_goto (tgt := 12) hx hb dX12_condition_38 (by decide) ?_
      exact ih hD (lv_sub hl [0] rfl) hF
def F_X12_conditionB (kr : xS → Option xS) (u : xS)  : Option (xS) := if (u.1 24) = 0 then (F_X12_all kr u).bind (fun r11 => F_X12_condition_l12 kr xFuel r11) else some u
theorem c_X12_conditionB {l : Launch} {G : xG} {b sz : Nat} {rr : (xS)} {kr : xS → Option xS} {dd : Nat} (hkr : ∀ {u rr : xS}, kr u = some rr → xMv l G yX12_condition cX12_condition 1 none dd 0 0 [.ref b] (mW G b u) sz (fun z => z = (mW G b rr, sz))) {u : xS}  (hF : F_X12_conditionB kr u  = some rr) : xMv l G yX12_condition cX12_condition 1 (Option.none : Option Jvm.ClassFile.FieldType) (dd + 22) 0 0 [.ref b] (mW G b u) sz (fun z => z = ((mW G b rr), sz)) := by
  unfold F_X12_conditionB at hF
  refine x_startV rfl (Nat.le_of_ble_eq_true rfl) (fun p e s m args below meth cd ls hE hnm hl hD => ?_)
  have hx := hE.1; have hb := hE.2.1
  have hl : lv_has ls 1 [(0, .ref b)] := hl
  have hD : mD G (xA (mW G b u) s.heap.size) s.heap b u sz s.heap [] := hD
  refine lv_aload_n hx hb dX12_condition_0 rfl (lv_at hl 0 rfl) ?_
  refine gf_X12_256 hE hD dX12_condition_1 ?_
  refine lv_if_eq (tgt := 8) hx hb dX12_condition_4 (by decide) (fun c10 => ?_) (fun c10 => ?_)
  · have hF := ite_p hF c10
    refine lv_aload_n hx hb dX12_condition_8 rfl (lv_at hl 0 rfl) ?_
    obtain ⟨r11, k12, hF⟩ := xb_s hF
    refine kVv (As := []) (rest := []) hE hl hD (c_X12_all (b := b) hkr k12) kl_X12_331 (mW_0 _ _ _) rfl rfl rfl rfl (Nat.le_of_ble_eq_true rfl) dX12_condition_9 ⟨by show _ + 1 ≤ dd + 22; omega, by show 8 + (_ + 11) + 40 * _ ≤ 40 * (dd + 22); omega⟩ ⟨Nat.le_of_ble_eq_true rfl, Nat.le_of_ble_eq_true rfl⟩ (fun H locs (hD : mD G _ _ b r11 sz H locs) => ?_)
    exact L_X12_condition_l12 hE hkr _ hD (lv_sub hl [0] rfl) hF
  · have hF := ite_n hF c10
    obtain rfl := Option.some.inj hF
    exact x_vret hE hD rfl (by omega) (by omega) dX12_condition_7
def F_X12_condition : Nat → xS → Option xS
  | 0, _ => none
  | n + 1, u => F_X12_conditionB (F_X12_condition n) u
theorem c_X12_condition {l : Launch} {G : xG} {b sz : Nat} : ∀ (n : Nat) {rr u : xS}, F_X12_condition n u = some rr → xMv l G yX12_condition cX12_condition 1 none (22 * n + 1) 0 0 [.ref b] (mW G b u) sz (fun z => z = (mW G b rr, sz)) := by
  intro n
  induction n with
  | zero => intro rr u hF; rw [F_X12_condition] at hF; cases hF
  | succ n ih => intro rr u hF; rw [F_X12_condition] at hF; exact c_X12_conditionB (dd := 22 * n + 1) (fun h => ih h) hF
def F_X12_clause_j254 (u : xS)  : Option (xS) := some u
theorem B_X12_clause_j254 {p : Program} {l : Launch} {e : Env} {s : State} {m : MethodId} {args : Array Value} {below : List Frame} {meth : Method} {cd : Code} {G : xG} {w0 : xW} {b sz : Nat} {rr : (xS)} (hE : xE p s m args meth cd cX12_clause RX12 G 7 (Option.none : Option Jvm.ClassFile.FieldType)) {u : xS}  {H : Heap} {locs : List Loc} {ls : Array Slot} (hD : mD G (xA w0 s.heap.size) s.heap b u sz H locs) (hl : lv_has ls 7 [(0, .ref b)]) (hF : F_X12_clause_j254 u  = some rr) : W p l e (xR 150 0 0) s m args below meth cd H locs 0 0 (xQv G w0 (fun z => z = ((mW G b rr), sz)) below args s 0 0) (F0 m 254 ls []) := by
  have hx := hE.1; have hb := hE.2.1
  unfold F_X12_clause_j254 at hF
  obtain rfl := Option.some.inj hF
  exact x_vret hE hD rfl (by omega) (by omega) dX12_clause_254
def F_X12_clause_j176 (u : xS) (y1 : Int32) (y4 : Int32) (y5 : Int32) (s1 : Int32) : Option (xS) := (F_X12_needs u s1).bind (fun r1 => if (r1.1 24) = 0 then if xIn (4 : Int32) 303 then xlet ((71 : Int32) + ((4 : Int32) * (r1.2.1 0 (4 : Int32).toNatClampNeg))) (fun x5 => if xIn (x5 + (0 : Int32)) 303 then xlet (mA r1 0 (x5 + (0 : Int32)).toNatClampNeg y1) (fun u7 => if xIn (x5 + (1 : Int32)) 303 then xlet (mA u7 0 (x5 + (1 : Int32)).toNatClampNeg y4) (fun u9 => if xIn (x5 + (2 : Int32)) 303 then xlet (mA u9 0 (x5 + (2 : Int32)).toNatClampNeg y5) (fun u11 => if xIn (x5 + (3 : Int32)) 303 then xlet (mA u11 0 (x5 + (3 : Int32)).toNatClampNeg (u11.1 23)) (fun u13 => if xIn (4 : Int32) 303 then if xIn (4 : Int32) 303 then xlet (mA u13 0 (4 : Int32).toNatClampNeg ((u13.2.1 0 (4 : Int32).toNatClampNeg) + (1 : Int32))) (fun u16 => F_X12_clause_j254 u16) else none else none) else none) else none) else none) else none) else none else F_X12_clause_j254 r1)
theorem B_X12_clause_j176 {p : Program} {l : Launch} {e : Env} {s : State} {m : MethodId} {args : Array Value} {below : List Frame} {meth : Method} {cd : Code} {G : xG} {w0 : xW} {b sz : Nat} {rr : (xS)} (hE : xE p s m args meth cd cX12_clause RX12 G 7 (Option.none : Option Jvm.ClassFile.FieldType)) {u : xS} {y1 : Int32} {y4 : Int32} {y5 : Int32} {s1 : Int32} {H : Heap} {locs : List Loc} {ls : Array Slot} (hD : mD G (xA w0 s.heap.size) s.heap b u sz H locs) (hl : lv_has ls 7 [(0, .ref b), (1, .int y1), (4, .int y4), (5, .int y5)]) (hF : F_X12_clause_j176 u y1 y4 y5 s1 = some rr) : W p l e (xR 150 0 0) s m args below meth cd H locs 0 0 (xQv G w0 (fun z => z = ((mW G b rr), sz)) below args s 0 0) (F0 m 176 ls [.int s1, .ref b]) := by
  have hx := hE.1; have hb := hE.2.1
  unfold F_X12_clause_j176 at hF
  obtain ⟨r1, k2, hF⟩ := xb_s hF
  refine kVv (As := [.int s1]) (rest := []) hE hl hD (c_X12_needs (b := b) k2) kl_X12_269 (mW_0 _ _ _) rfl rfl rfl rfl (Nat.le_of_ble_eq_true rfl) dX12_clause_176 ⟨Nat.le_of_ble_eq_true rfl, Nat.le_of_ble_eq_true rfl⟩ ⟨Nat.le_of_ble_eq_true rfl, Nat.le_of_ble_eq_true rfl⟩ (fun H locs (hD : mD G _ _ b r1 sz H locs) => ?_)
  refine lv_aload_n hx hb dX12_clause_179 rfl (lv_at hl 0 rfl) ?_
  refine gf_X12_256 hE hD dX12_clause_180 ?_
  refine lv_if_ne (tgt := 254) hx hb dX12_clause_183 (by decide) (fun c3 => ?_) (fun c3 => ?_)
  · have hF := ite_n hF c3
    exact B_X12_clause_j254 hE hD (lv_sub hl [0] rfl) hF
  · have hF := ite_p hF c3
    refine lv_bipush (v := (71 : Int32)) hx hb dX12_clause_186 (by decide) ?_
    refine lv_iconst (v := (4 : Int32)) hx hb dX12_clause_188 (by decide) ?_
    refine lv_aload_n hx hb dX12_clause_189 rfl (lv_at hl 0 rfl) ?_
    refine gf_X12_7 hE hD dX12_clause_190 ?_
    refine lv_iconst (v := (4 : Int32)) hx hb dX12_clause_193 (by decide) ?_
    obtain ⟨h4, hF⟩ := ite_s hF
    refine ma_ld_0 hE hD h4 dX12_clause_194 ?_
    refine lv_imul hx hb dX12_clause_195 ?_
    refine lv_iadd hx hb dX12_clause_196 ?_
    refine lv_topi (fun x5 ex5 => ?_)
    have hF := xlet_e hF ex5
    refine lv_istore (lv' := [(6, .int x5), (0, .ref b), (1, .int y1), (4, .int y4), (5, .int y5)]) hx hb dX12_clause_197 hl (by decide) rfl (fun ls hl => ?_)
    refine lv_aload_n hx hb dX12_clause_199 rfl (lv_at hl 1 rfl) ?_
    refine gf_X12_7 hE hD dX12_clause_200 ?_
    refine lv_iload hx hb dX12_clause_203 (lv_at hl 0 rfl) ?_
    refine lv_iconst (v := (0 : Int32)) hx hb dX12_clause_205 (by decide) ?_
    refine lv_iadd hx hb dX12_clause_206 ?_
    refine lv_iload_n hx hb dX12_clause_207 rfl (lv_at hl 2 rfl) ?_
    obtain ⟨h6, hF⟩ := ite_s hF
    refine ma_st_0 hE hD h6 dX12_clause_208 (fun u7 H locs eu7 hD => ?_)
    have hF := xlet_e hF eu7
    refine lv_aload_n hx hb dX12_clause_209 rfl (lv_at hl 1 rfl) ?_
    refine gf_X12_7 hE hD dX12_clause_210 ?_
    refine lv_iload hx hb dX12_clause_213 (lv_at hl 0 rfl) ?_
    refine lv_iconst (v := (1 : Int32)) hx hb dX12_clause_215 (by decide) ?_
    refine lv_iadd hx hb dX12_clause_216 ?_
    refine lv_iload hx hb dX12_clause_217 (lv_at hl 3 rfl) ?_
    obtain ⟨h8, hF⟩ := ite_s hF
    refine ma_st_0 hE hD h8 dX12_clause_219 (fun u9 H locs eu9 hD => ?_)
    have hF := xlet_e hF eu9
    refine lv_aload_n hx hb dX12_clause_220 rfl (lv_at hl 1 rfl) ?_
    refine gf_X12_7 hE hD dX12_clause_221 ?_
    refine lv_iload hx hb dX12_clause_224 (lv_at hl 0 rfl) ?_
    refine lv_iconst (v := (2 : Int32)) hx hb dX12_clause_226 (by decide) ?_
    refine lv_iadd hx hb dX12_clause_227 ?_
    refine lv_iload hx hb dX12_clause_228 (lv_at hl 4 rfl) ?_
    obtain ⟨h10, hF⟩ := ite_s hF
    refine ma_st_0 hE hD h10 dX12_clause_230 (fun u11 H locs eu11 hD => ?_)
    have hF := xlet_e hF eu11
    refine lv_aload_n hx hb dX12_clause_231 rfl (lv_at hl 1 rfl) ?_
    refine gf_X12_7 hE hD dX12_clause_232 ?_
    refine lv_iload hx hb dX12_clause_235 (lv_at hl 0 rfl) ?_
    refine lv_iconst (v := (3 : Int32)) hx hb dX12_clause_237 (by decide) ?_
    refine lv_iadd hx hb dX12_clause_238 ?_
    refine lv_aload_n hx hb dX12_clause_239 rfl (lv_at hl 1 rfl) ?_
    refine gf_X12_299 hE hD dX12_clause_240 ?_
    obtain ⟨h12, hF⟩ := ite_s hF
    refine ma_st_0 hE hD h12 dX12_clause_243 (fun u13 H locs eu13 hD => ?_)
    have hF := xlet_e hF eu13
    refine lv_aload_n hx hb dX12_clause_244 rfl (lv_at hl 1 rfl) ?_
    refine gf_X12_7 hE hD dX12_clause_245 ?_
    refine lv_iconst (v := (4 : Int32)) hx hb dX12_clause_248 (by decide) ?_
    refine lv_dup2_11 hx hb dX12_clause_249 rfl rfl ?_
    obtain ⟨h14, hF⟩ := ite_s hF
    refine ma_ld_0 hE hD h14 dX12_clause_250 ?_
    refine lv_iconst (v := (1 : Int32)) hx hb dX12_clause_251 (by decide) ?_
    refine lv_iadd hx hb dX12_clause_252 ?_
    obtain ⟨h15, hF⟩ := ite_s hF
    refine ma_st_0 hE hD h15 dX12_clause_253 (fun u16 H locs eu16 hD => ?_)
    have hF := xlet_e hF eu16
    exact B_X12_clause_j254 hE hD (lv_sub hl [1] rfl) hF
def F_X12_clause_j175 (u : xS) (y1 : Int32) (y4 : Int32) (y5 : Int32) : Option (xS) := F_X12_clause_j176 u y1 y4 y5 (0 : Int32)
theorem B_X12_clause_j175 {p : Program} {l : Launch} {e : Env} {s : State} {m : MethodId} {args : Array Value} {below : List Frame} {meth : Method} {cd : Code} {G : xG} {w0 : xW} {b sz : Nat} {rr : (xS)} (hE : xE p s m args meth cd cX12_clause RX12 G 7 (Option.none : Option Jvm.ClassFile.FieldType)) {u : xS} {y1 : Int32} {y4 : Int32} {y5 : Int32} {H : Heap} {locs : List Loc} {ls : Array Slot} (hD : mD G (xA w0 s.heap.size) s.heap b u sz H locs) (hl : lv_has ls 7 [(0, .ref b), (1, .int y1), (4, .int y4), (5, .int y5)]) (hF : F_X12_clause_j175 u y1 y4 y5 = some rr) : W p l e (xR 150 0 0) s m args below meth cd H locs 0 0 (xQv G w0 (fun z => z = ((mW G b rr), sz)) below args s 0 0) (F0 m 175 ls [.ref b]) := by
  have hx := hE.1; have hb := hE.2.1
  unfold F_X12_clause_j175 at hF
  refine lv_iconst (v := (0 : Int32)) hx hb dX12_clause_175 (by decide) ?_
  exact B_X12_clause_j176 hE hD (lv_sub hl [0, 1, 2, 3] rfl) hF
def F_X12_clause_j144 (u : xS) (y1 : Int32) (y4 : Int32) : Option (xS) := xlet (u.1 21) (fun x17 => if (u.1 24) = 0 then (F_X12_byteAt u (u.1 19)).bind (fun r19 => if r19 = (59 : Int32) then F_X12_clause_j176 u y1 y4 x17 (1 : Int32) else F_X12_clause_j175 u y1 y4 x17) else F_X12_clause_j175 u y1 y4 x17)
theorem B_X12_clause_j144 {p : Program} {l : Launch} {e : Env} {s : State} {m : MethodId} {args : Array Value} {below : List Frame} {meth : Method} {cd : Code} {G : xG} {w0 : xW} {b sz : Nat} {rr : (xS)} (hE : xE p s m args meth cd cX12_clause RX12 G 7 (Option.none : Option Jvm.ClassFile.FieldType)) {u : xS} {y1 : Int32} {y4 : Int32} {H : Heap} {locs : List Loc} {ls : Array Slot} (hD : mD G (xA w0 s.heap.size) s.heap b u sz H locs) (hl : lv_has ls 7 [(0, .ref b), (1, .int y1), (4, .int y4)]) (hF : F_X12_clause_j144 u y1 y4 = some rr) : W p l e (xR 150 0 0) s m args below meth cd H locs 0 0 (xQv G w0 (fun z => z = ((mW G b rr), sz)) below args s 0 0) (F0 m 144 ls []) := by
  have hx := hE.1; have hb := hE.2.1
  unfold F_X12_clause_j144 at hF
  refine lv_aload_n hx hb dX12_clause_144 rfl (lv_at hl 0 rfl) ?_
  refine gf_X12_266 hE hD dX12_clause_145 ?_
  refine lv_topi (fun x17 ex17 => ?_)
  have hF := xlet_e hF ex17
  refine lv_istore (lv' := [(5, .int x17), (0, .ref b), (1, .int y1), (4, .int y4)]) hx hb dX12_clause_148 hl (by decide) rfl (fun ls hl => ?_)
  refine lv_aload_n hx hb dX12_clause_150 rfl (lv_at hl 1 rfl) ?_
  refine lv_aload_n hx hb dX12_clause_151 rfl (lv_at hl 1 rfl) ?_
  refine gf_X12_256 hE hD dX12_clause_152 ?_
  refine lv_if_ne (tgt := 175) hx hb dX12_clause_155 (by decide) (fun c18 => ?_) (fun c18 => ?_)
  · have hF := ite_n hF c18
    exact B_X12_clause_j175 hE hD (lv_sub hl [1, 2, 3, 0] rfl) hF
  · have hF := ite_p hF c18
    refine lv_aload_n hx hb dX12_clause_158 rfl (lv_at hl 1 rfl) ?_
    refine lv_aload_n hx hb dX12_clause_159 rfl (lv_at hl 1 rfl) ?_
    refine gf_X12_244 hE hD dX12_clause_160 ?_
    obtain ⟨r19, k20, hF⟩ := xb_s hF
    refine kVi (As := [.int (u.1 19)]) (rest := [.ref b]) hE hl hD (c_X12_byteAt (b := b) k20) kl_X12_247 (mW_0 _ _ _) rfl rfl rfl rfl (Nat.le_of_ble_eq_true rfl) dX12_clause_163 ⟨Nat.le_of_ble_eq_true rfl, Nat.le_of_ble_eq_true rfl⟩ ⟨Nat.le_of_ble_eq_true rfl, Nat.le_of_ble_eq_true rfl⟩ (fun H locs (hD : mD G _ _ b u sz H locs) => ?_)
    refine lv_bipush (v := (59 : Int32)) hx hb dX12_clause_166 (by decide) ?_
    refine lv_icmp_ne (tgt := 175) hx hb dX12_clause_168 (by decide) (fun c21 => ?_) (fun c21 => ?_)
    · have hF := ite_n hF c21
      exact B_X12_clause_j175 hE hD (lv_sub hl [1, 2, 3, 0] rfl) hF
    · have hF := ite_p hF c21
      refine lv_iconst (v := (1 : Int32)) hx hb dX12_clause_171 (by decide) ?_
      refine lv_goto (tgt := 176) hx hb dX12_clause_172 (by decide) ?_
      exact B_X12_clause_j176 hE hD (lv_sub hl [1, 2, 3, 0] rfl) hF
def F_X12_clause_j116 (u : xS) (y1 : Int32) (y4 : Int32) (s1 : Int32) : Option (xS) := (F_X12_needs u s1).bind (fun r22 => xlet (mS r22 21 (0 : Int32)) (fun u24 => if y4 = (1 : Int32) then if (u24.1 24) = 0 then (F_X12_number u24 (999 : Int32)).bind (fun r27 => F_X12_clause_j144 r27 y1 y4) else F_X12_clause_j144 u24 y1 y4 else F_X12_clause_j144 u24 y1 y4))
theorem B_X12_clause_j116 {p : Program} {l : Launch} {e : Env} {s : State} {m : MethodId} {args : Array Value} {below : List Frame} {meth : Method} {cd : Code} {G : xG} {w0 : xW} {b sz : Nat} {rr : (xS)} (hE : xE p s m args meth cd cX12_clause RX12 G 7 (Option.none : Option Jvm.ClassFile.FieldType)) {u : xS} {y1 : Int32} {y4 : Int32} {s1 : Int32} {H : Heap} {locs : List Loc} {ls : Array Slot} (hD : mD G (xA w0 s.heap.size) s.heap b u sz H locs) (hl : lv_has ls 7 [(0, .ref b), (1, .int y1), (4, .int y4)]) (hF : F_X12_clause_j116 u y1 y4 s1 = some rr) : W p l e (xR 150 0 0) s m args below meth cd H locs 0 0 (xQv G w0 (fun z => z = ((mW G b rr), sz)) below args s 0 0) (F0 m 116 ls [.int s1, .ref b]) := by
  have hx := hE.1; have hb := hE.2.1
  unfold F_X12_clause_j116 at hF
  obtain ⟨r22, k23, hF⟩ := xb_s hF
  refine kVv (As := [.int s1]) (rest := []) hE hl hD (c_X12_needs (b := b) k23) kl_X12_269 (mW_0 _ _ _) rfl rfl rfl rfl (Nat.le_of_ble_eq_true rfl) dX12_clause_116 ⟨Nat.le_of_ble_eq_true rfl, Nat.le_of_ble_eq_true rfl⟩ ⟨Nat.le_of_ble_eq_true rfl, Nat.le_of_ble_eq_true rfl⟩ (fun H locs (hD : mD G _ _ b r22 sz H locs) => ?_)
  refine lv_aload_n hx hb dX12_clause_119 rfl (lv_at hl 0 rfl) ?_
  refine lv_iconst (v := (0 : Int32)) hx hb dX12_clause_120 (by decide) ?_
  refine pf_X12_266 hE hD dX12_clause_121 (fun u24 H locs eu24 hD => ?_)
  have hF := xlet_e hF eu24
  refine lv_iload hx hb dX12_clause_124 (lv_at hl 2 rfl) ?_
  refine lv_iconst (v := (1 : Int32)) hx hb dX12_clause_126 (by decide) ?_
  refine lv_icmp_ne (tgt := 144) hx hb dX12_clause_127 (by decide) (fun c25 => ?_) (fun c25 => ?_)
  · have hF := ite_n hF c25
    exact B_X12_clause_j144 hE hD (lv_sub hl [0, 1, 2] rfl) hF
  · have hF := ite_p hF c25
    refine lv_aload_n hx hb dX12_clause_130 rfl (lv_at hl 0 rfl) ?_
    refine gf_X12_256 hE hD dX12_clause_131 ?_
    refine lv_if_ne (tgt := 144) hx hb dX12_clause_134 (by decide) (fun c26 => ?_) (fun c26 => ?_)
    · have hF := ite_n hF c26
      exact B_X12_clause_j144 hE hD (lv_sub hl [0, 1, 2] rfl) hF
    · have hF := ite_p hF c26
      refine lv_aload_n hx hb dX12_clause_137 rfl (lv_at hl 0 rfl) ?_
      refine lv_sipush (v := (999 : Int32)) hx hb dX12_clause_138 (by decide) ?_
      obtain ⟨r27, k28, hF⟩ := xb_s hF
      refine kVv (As := [.int (999 : Int32)]) (rest := []) hE hl hD (c_X12_number (b := b) k28) kl_X12_309 (mW_0 _ _ _) rfl rfl rfl rfl (Nat.le_of_ble_eq_true rfl) dX12_clause_141 ⟨Nat.le_of_ble_eq_true rfl, Nat.le_of_ble_eq_true rfl⟩ ⟨Nat.le_of_ble_eq_true rfl, Nat.le_of_ble_eq_true rfl⟩ (fun H locs (hD : mD G _ _ b r27 sz H locs) => ?_)
      exact B_X12_clause_j144 hE hD (lv_sub hl [0, 1, 2] rfl) hF
def F_X12_clause_j103 (u : xS) (y1 : Int32) (s0 : Int32) : Option (xS) := if s0 < 0 then F_X12_clause_j116 u y1 s0 (0 : Int32) else F_X12_clause_j116 u y1 s0 (1 : Int32)
theorem B_X12_clause_j103 {p : Program} {l : Launch} {e : Env} {s : State} {m : MethodId} {args : Array Value} {below : List Frame} {meth : Method} {cd : Code} {G : xG} {w0 : xW} {b sz : Nat} {rr : (xS)} (hE : xE p s m args meth cd cX12_clause RX12 G 7 (Option.none : Option Jvm.ClassFile.FieldType)) {u : xS} {y1 : Int32} {s0 : Int32} {H : Heap} {locs : List Loc} {ls : Array Slot} (hD : mD G (xA w0 s.heap.size) s.heap b u sz H locs) (hl : lv_has ls 7 [(0, .ref b), (1, .int y1)]) (hF : F_X12_clause_j103 u y1 s0 = some rr) : W p l e (xR 150 0 0) s m args below meth cd H locs 0 0 (xQv G w0 (fun z => z = ((mW G b rr), sz)) below args s 0 0) (F0 m 103 ls [.int s0]) := by
  have hx := hE.1; have hb := hE.2.1
  unfold F_X12_clause_j103 at hF
  refine lv_istore (lv' := [(4, .int s0), (0, .ref b), (1, .int y1)]) hx hb dX12_clause_103 hl (by decide) rfl (fun ls hl => ?_)
  refine lv_aload_n hx hb dX12_clause_105 rfl (lv_at hl 1 rfl) ?_
  refine lv_iload hx hb dX12_clause_106 (lv_at hl 0 rfl) ?_
  refine lv_if_lt (tgt := 115) hx hb dX12_clause_108 (by decide) (fun c29 => ?_) (fun c29 => ?_)
  · have hF := ite_p hF c29
    refine lv_iconst (v := (0 : Int32)) hx hb dX12_clause_115 (by decide) ?_
    exact B_X12_clause_j116 hE hD (lv_sub hl [1, 2, 0] rfl) hF
  · have hF := ite_n hF c29
    refine lv_iconst (v := (1 : Int32)) hx hb dX12_clause_111 (by decide) ?_
    refine lv_goto (tgt := 116) hx hb dX12_clause_112 (by decide) ?_
    exact B_X12_clause_j116 hE hD (lv_sub hl [1, 2, 0] rfl) hF
def F_X12_clause_j49 (u : xS) (y1 : Int32) : Option (xS) := (F_X12_word u).bind (fun r30 => if (lg_cmp r30 (215205 : Int64)) = 0 then F_X12_clause_j103 u y1 (0 : Int32) else if (lg_cmp r30 (136242 : Int64)) = 0 then F_X12_clause_j103 u y1 (1 : Int32) else if (lg_cmp r30 (150636933 : Int64)) = 0 then F_X12_clause_j103 u y1 (2 : Int32) else if (lg_cmp r30 (631476 : Int64)) = 0 then F_X12_clause_j103 u y1 (3 : Int32) else F_X12_clause_j103 u y1 (-1 : Int32))
theorem B_X12_clause_j49 {p : Program} {l : Launch} {e : Env} {s : State} {m : MethodId} {args : Array Value} {below : List Frame} {meth : Method} {cd : Code} {G : xG} {w0 : xW} {b sz : Nat} {rr : (xS)} (hE : xE p s m args meth cd cX12_clause RX12 G 7 (Option.none : Option Jvm.ClassFile.FieldType)) {u : xS} {y1 : Int32} {H : Heap} {locs : List Loc} {ls : Array Slot} (hD : mD G (xA w0 s.heap.size) s.heap b u sz H locs) (hl : lv_has ls 7 [(0, .ref b), (1, .int y1)]) (hF : F_X12_clause_j49 u y1 = some rr) : W p l e (xR 150 0 0) s m args below meth cd H locs 0 0 (xQv G w0 (fun z => z = ((mW G b rr), sz)) below args s 0 0) (F0 m 49 ls []) := by
  have hx := hE.1; have hb := hE.2.1
  unfold F_X12_clause_j49 at hF
  refine lv_aload_n hx hb dX12_clause_49 rfl (lv_at hl 0 rfl) ?_
  obtain ⟨r30, k31, hF⟩ := xb_s hF
  refine kVl (As := []) (rest := []) hE hl hD (c_X12_word (b := b) k31) kl_X12_273 (mW_0 _ _ _) rfl rfl rfl rfl (Nat.le_of_ble_eq_true rfl) dX12_clause_50 ⟨Nat.le_of_ble_eq_true rfl, Nat.le_of_ble_eq_true rfl⟩ ⟨Nat.le_of_ble_eq_true rfl, Nat.le_of_ble_eq_true rfl⟩ (fun H locs (hD : mD G _ _ b u sz H locs) => ?_)
  refine lv_lstore_n (lv' := [(2, .long r30), (0, .ref b), (1, .int y1)]) hx hb dX12_clause_53 rfl hl (by decide) rfl (fun ls hl => ?_)
  refine lv_lload_n hx hb dX12_clause_54 rfl (lv_at hl 0 rfl) ?_
  refine lv_ldc2 (v := (215205 : Int64)) hx hb hE.2.2.1 (hE.2.2.2.1 _ kw7_183) dX12_clause_55 ?_
  refine W.lcmp hx hb dX12_clause_58 ?_
  refine lv_if_ne (tgt := 66) hx hb dX12_clause_59 (by decide) (fun c32 => ?_) (fun c32 => ?_)
  · have hF := ite_n hF c32
    refine lv_lload_n hx hb dX12_clause_66 rfl (lv_at hl 0 rfl) ?_
    refine lv_ldc2 (v := (136242 : Int64)) hx hb hE.2.2.1 (hE.2.2.2.1 _ kw7_184) dX12_clause_67 ?_
    refine W.lcmp hx hb dX12_clause_70 ?_
    refine lv_if_ne (tgt := 78) hx hb dX12_clause_71 (by decide) (fun c33 => ?_) (fun c33 => ?_)
    · have hF := ite_n hF c33
      refine lv_lload_n hx hb dX12_clause_78 rfl (lv_at hl 0 rfl) ?_
      refine lv_ldc2 (v := (150636933 : Int64)) hx hb hE.2.2.1 (hE.2.2.2.1 _ kw7_185) dX12_clause_79 ?_
      refine W.lcmp hx hb dX12_clause_82 ?_
      refine lv_if_ne (tgt := 90) hx hb dX12_clause_83 (by decide) (fun c34 => ?_) (fun c34 => ?_)
      · have hF := ite_n hF c34
        refine lv_lload_n hx hb dX12_clause_90 rfl (lv_at hl 0 rfl) ?_
        refine lv_ldc2 (v := (631476 : Int64)) hx hb hE.2.2.1 (hE.2.2.2.1 _ kw7_186) dX12_clause_91 ?_
        refine W.lcmp hx hb dX12_clause_94 ?_
        refine lv_if_ne (tgt := 102) hx hb dX12_clause_95 (by decide) (fun c35 => ?_) (fun c35 => ?_)
        · have hF := ite_n hF c35
          refine lv_iconst (v := (-1 : Int32)) hx hb dX12_clause_102 (by decide) ?_
          exact B_X12_clause_j103 hE hD (lv_sub hl [1, 2] rfl) hF
        · have hF := ite_p hF c35
          refine lv_iconst (v := (3 : Int32)) hx hb dX12_clause_98 (by decide) ?_
          refine lv_goto (tgt := 103) hx hb dX12_clause_99 (by decide) ?_
          exact B_X12_clause_j103 hE hD (lv_sub hl [1, 2] rfl) hF
      · have hF := ite_p hF c34
        refine lv_iconst (v := (2 : Int32)) hx hb dX12_clause_86 (by decide) ?_
        refine lv_goto (tgt := 103) hx hb dX12_clause_87 (by decide) ?_
        exact B_X12_clause_j103 hE hD (lv_sub hl [1, 2] rfl) hF
    · have hF := ite_p hF c33
      refine lv_iconst (v := (1 : Int32)) hx hb dX12_clause_74 (by decide) ?_
      refine lv_goto (tgt := 103) hx hb dX12_clause_75 (by decide) ?_
      exact B_X12_clause_j103 hE hD (lv_sub hl [1, 2] rfl) hF
  · have hF := ite_p hF c32
    refine lv_iconst (v := (0 : Int32)) hx hb dX12_clause_62 (by decide) ?_
    refine lv_goto (tgt := 103) hx hb dX12_clause_63 (by decide) ?_
    exact B_X12_clause_j103 hE hD (lv_sub hl [1, 2] rfl) hF
def F_X12_clause_j26 (u : xS) (y1 : Int32) (s1 : Int32) : Option (xS) := (F_X12_needs u s1).bind (fun r36 => (F_X12_word r36).bind (fun r38 => if (lg_cmp r38 (294 : Int64)) = 0 then (F_X12_needs r36 (1 : Int32)).bind (fun r41 => (F_X12_condition 6 r41).bind (fun r43 => F_X12_clause_j49 r43 y1)) else F_X12_clause_j49 r36 y1))
theorem B_X12_clause_j26 {p : Program} {l : Launch} {e : Env} {s : State} {m : MethodId} {args : Array Value} {below : List Frame} {meth : Method} {cd : Code} {G : xG} {w0 : xW} {b sz : Nat} {rr : (xS)} (hE : xE p s m args meth cd cX12_clause RX12 G 7 (Option.none : Option Jvm.ClassFile.FieldType)) {u : xS} {y1 : Int32} {s1 : Int32} {H : Heap} {locs : List Loc} {ls : Array Slot} (hD : mD G (xA w0 s.heap.size) s.heap b u sz H locs) (hl : lv_has ls 7 [(0, .ref b), (1, .int y1)]) (hF : F_X12_clause_j26 u y1 s1 = some rr) : W p l e (xR 150 0 0) s m args below meth cd H locs 0 0 (xQv G w0 (fun z => z = ((mW G b rr), sz)) below args s 0 0) (F0 m 26 ls [.int s1, .ref b]) := by
  have hx := hE.1; have hb := hE.2.1
  unfold F_X12_clause_j26 at hF
  obtain ⟨r36, k37, hF⟩ := xb_s hF
  refine kVv (As := [.int s1]) (rest := []) hE hl hD (c_X12_needs (b := b) k37) kl_X12_269 (mW_0 _ _ _) rfl rfl rfl rfl (Nat.le_of_ble_eq_true rfl) dX12_clause_26 ⟨Nat.le_of_ble_eq_true rfl, Nat.le_of_ble_eq_true rfl⟩ ⟨Nat.le_of_ble_eq_true rfl, Nat.le_of_ble_eq_true rfl⟩ (fun H locs (hD : mD G _ _ b r36 sz H locs) => ?_)
  refine lv_aload_n hx hb dX12_clause_29 rfl (lv_at hl 0 rfl) ?_
  obtain ⟨r38, k39, hF⟩ := xb_s hF
  refine kVl (As := []) (rest := []) hE hl hD (c_X12_word (b := b) k39) kl_X12_273 (mW_0 _ _ _) rfl rfl rfl rfl (Nat.le_of_ble_eq_true rfl) dX12_clause_30 ⟨Nat.le_of_ble_eq_true rfl, Nat.le_of_ble_eq_true rfl⟩ ⟨Nat.le_of_ble_eq_true rfl, Nat.le_of_ble_eq_true rfl⟩ (fun H locs (hD : mD G _ _ b r36 sz H locs) => ?_)
  refine lv_ldc2 (v := (294 : Int64)) hx hb hE.2.2.1 (hE.2.2.2.1 _ kw7_142) dX12_clause_33 ?_
  refine W.lcmp hx hb dX12_clause_36 ?_
  refine lv_if_ne (tgt := 49) hx hb dX12_clause_37 (by decide) (fun c40 => ?_) (fun c40 => ?_)
  · have hF := ite_n hF c40
    exact B_X12_clause_j49 hE hD (lv_sub hl [0, 1] rfl) hF
  · have hF := ite_p hF c40
    refine lv_aload_n hx hb dX12_clause_40 rfl (lv_at hl 0 rfl) ?_
    refine lv_iconst (v := (1 : Int32)) hx hb dX12_clause_41 (by decide) ?_
    obtain ⟨r41, k42, hF⟩ := xb_s hF
    refine kVv (As := [.int (1 : Int32)]) (rest := []) hE hl hD (c_X12_needs (b := b) k42) kl_X12_269 (mW_0 _ _ _) rfl rfl rfl rfl (Nat.le_of_ble_eq_true rfl) dX12_clause_42 ⟨Nat.le_of_ble_eq_true rfl, Nat.le_of_ble_eq_true rfl⟩ ⟨Nat.le_of_ble_eq_true rfl, Nat.le_of_ble_eq_true rfl⟩ (fun H locs (hD : mD G _ _ b r41 sz H locs) => ?_)
    refine lv_aload_n hx hb dX12_clause_45 rfl (lv_at hl 0 rfl) ?_
    obtain ⟨r43, k44, hF⟩ := xb_s hF
    refine kVv (As := []) (rest := []) hE hl hD (c_X12_condition (b := b) 6 k44) kl_X12_320 (mW_0 _ _ _) rfl rfl rfl rfl (Nat.le_of_ble_eq_true rfl) dX12_clause_46 ⟨Nat.le_of_ble_eq_true rfl, Nat.le_of_ble_eq_true rfl⟩ ⟨Nat.le_of_ble_eq_true rfl, Nat.le_of_ble_eq_true rfl⟩ (fun H locs (hD : mD G _ _ b r43 sz H locs) => ?_)
    exact B_X12_clause_j49 hE hD (lv_sub hl [0, 1] rfl) hF
def F_X12_clause_j25 (u : xS) (y1 : Int32) : Option (xS) := F_X12_clause_j26 u y1 (0 : Int32)
theorem B_X12_clause_j25 {p : Program} {l : Launch} {e : Env} {s : State} {m : MethodId} {args : Array Value} {below : List Frame} {meth : Method} {cd : Code} {G : xG} {w0 : xW} {b sz : Nat} {rr : (xS)} (hE : xE p s m args meth cd cX12_clause RX12 G 7 (Option.none : Option Jvm.ClassFile.FieldType)) {u : xS} {y1 : Int32} {H : Heap} {locs : List Loc} {ls : Array Slot} (hD : mD G (xA w0 s.heap.size) s.heap b u sz H locs) (hl : lv_has ls 7 [(0, .ref b), (1, .int y1)]) (hF : F_X12_clause_j25 u y1 = some rr) : W p l e (xR 150 0 0) s m args below meth cd H locs 0 0 (xQv G w0 (fun z => z = ((mW G b rr), sz)) below args s 0 0) (F0 m 25 ls [.ref b]) := by
  have hx := hE.1; have hb := hE.2.1
  unfold F_X12_clause_j25 at hF
  refine lv_iconst (v := (0 : Int32)) hx hb dX12_clause_25 (by decide) ?_
  exact B_X12_clause_j26 hE hD (lv_sub hl [0, 1] rfl) hF
def F_X12_clause (u : xS)  : Option (xS) := (F_X12_kindHere u).bind (fun r45 => if r45 < 0 then F_X12_clause_j25 u r45 else if xIn (4 : Int32) 303 then if (8 : Int32) ≤ (u.2.1 0 (4 : Int32).toNatClampNeg) then F_X12_clause_j25 u r45 else F_X12_clause_j26 u r45 (1 : Int32) else none)
theorem c_X12_clause {l : Launch} {G : xG} {b sz : Nat} {rr : (xS)} {u : xS}  (hF : F_X12_clause u  = some rr) : xMv l G yX12_clause cX12_clause 7 (Option.none : Option Jvm.ClassFile.FieldType) 150 0 0 [.ref b] (mW G b u) sz (fun z => z = ((mW G b rr), sz)) := by
  unfold F_X12_clause at hF
  refine x_startV rfl (Nat.le_of_ble_eq_true rfl) (fun p e s m args below meth cd ls hE hnm hl hD => ?_)
  have hx := hE.1; have hb := hE.2.1
  have hl : lv_has ls 7 [(0, .ref b)] := hl
  have hD : mD G (xA (mW G b u) s.heap.size) s.heap b u sz s.heap [] := hD
  refine lv_aload_n hx hb dX12_clause_0 rfl (lv_at hl 0 rfl) ?_
  obtain ⟨r45, k46, hF⟩ := xb_s hF
  refine kVi (As := []) (rest := []) hE hl hD (c_X12_kindHere (b := b) k46) kl_X12_336 (mW_0 _ _ _) rfl rfl rfl rfl (Nat.le_of_ble_eq_true rfl) dX12_clause_1 ⟨Nat.le_of_ble_eq_true rfl, Nat.le_of_ble_eq_true rfl⟩ ⟨Nat.le_of_ble_eq_true rfl, Nat.le_of_ble_eq_true rfl⟩ (fun H locs (hD : mD G _ _ b u sz H locs) => ?_)
  refine lv_istore_n (lv' := [(1, .int r45), (0, .ref b)]) hx hb dX12_clause_4 rfl hl (by decide) rfl (fun ls hl => ?_)
  refine lv_aload_n hx hb dX12_clause_5 rfl (lv_at hl 1 rfl) ?_
  refine lv_iload_n hx hb dX12_clause_6 rfl (lv_at hl 0 rfl) ?_
  refine lv_if_lt (tgt := 25) hx hb dX12_clause_7 (by decide) (fun c47 => ?_) (fun c47 => ?_)
  · have hF := ite_p hF c47
    exact B_X12_clause_j25 hE hD (lv_sub hl [1, 0] rfl) hF
  · have hF := ite_n hF c47
    refine lv_aload_n hx hb dX12_clause_10 rfl (lv_at hl 1 rfl) ?_
    refine gf_X12_7 hE hD dX12_clause_11 ?_
    refine lv_iconst (v := (4 : Int32)) hx hb dX12_clause_14 (by decide) ?_
    obtain ⟨h48, hF⟩ := ite_s hF
    refine ma_ld_0 hE hD h48 dX12_clause_15 ?_
    refine lv_bipush (v := (8 : Int32)) hx hb dX12_clause_16 (by decide) ?_
    refine lv_icmp_ge (tgt := 25) hx hb dX12_clause_18 (by decide) (fun c49 => ?_) (fun c49 => ?_)
    · have hF := ite_p hF c49
      exact B_X12_clause_j25 hE hD (lv_sub hl [1, 0] rfl) hF
    · have hF := ite_n hF c49
      refine lv_iconst (v := (1 : Int32)) hx hb dX12_clause_21 (by decide) ?_
      refine lv_goto (tgt := 26) hx hb dX12_clause_22 (by decide) ?_
      exact B_X12_clause_j26 hE hD (lv_sub hl [1, 0] rfl) hF
def F_X12_law_j60 (u : xS)  : Option (Int32 × xS) := xlet (mS u 18 (0 : Int32)) (fun u1 => if (u1.1 24) = 0 then if xIn (4 : Int32) 303 then some (u1.2.1 0 (4 : Int32).toNatClampNeg, u1) else none else (F_X12_putsBack u1).bind (fun r4 => some ((-100 : Int32) - (r4.1 19), r4)))
theorem B_X12_law_j60 {p : Program} {l : Launch} {e : Env} {s : State} {m : MethodId} {args : Array Value} {below : List Frame} {meth : Method} {cd : Code} {G : xG} {w0 : xW} {b sz : Nat} {rr : (Int32 × xS)} (hE : xE p s m args meth cd cX12_law RX12 G 1 (Option.some Jvm.ClassFile.FieldType.int)) {u : xS}  {H : Heap} {locs : List Loc} {ls : Array Slot} (hD : mD G (xA w0 s.heap.size) s.heap b u sz H locs) (hl : lv_has ls 1 [(0, .ref b)]) (hF : F_X12_law_j60 u  = some rr) : W p l e (xR 151 0 0) s m args below meth cd H locs 0 0 (xQi G w0 (fun r z => r = rr.1 ∧ z = ((mW G b rr.2), sz)) below args s 0 0) (F0 m 60 ls []) := by
  have hx := hE.1; have hb := hE.2.1
  unfold F_X12_law_j60 at hF
  refine lv_aload_n hx hb dX12_law_60 rfl (lv_at hl 0 rfl) ?_
  refine lv_iconst (v := (0 : Int32)) hx hb dX12_law_61 (by decide) ?_
  refine pf_X12_228 hE hD dX12_law_62 (fun u1 H locs eu1 hD => ?_)
  have hF := xlet_e hF eu1
  refine lv_aload_n hx hb dX12_law_65 rfl (lv_at hl 0 rfl) ?_
  refine gf_X12_256 hE hD dX12_law_66 ?_
  refine lv_if_eq (tgt := 84) hx hb dX12_law_69 (by decide) (fun c2 => ?_) (fun c2 => ?_)
  · have hF := ite_p hF c2
    refine lv_aload_n hx hb dX12_law_84 rfl (lv_at hl 0 rfl) ?_
    refine gf_X12_7 hE hD dX12_law_85 ?_
    refine lv_iconst (v := (4 : Int32)) hx hb dX12_law_88 (by decide) ?_
    obtain ⟨h3, hF⟩ := ite_s hF
    refine ma_ld_0 hE hD h3 dX12_law_89 ?_
    obtain rfl := Option.some.inj hF
    exact x_iret hE hD ⟨rfl, rfl⟩ (by omega) (by omega) dX12_law_90
  · have hF := ite_n hF c2
    refine lv_aload_n hx hb dX12_law_72 rfl (lv_at hl 0 rfl) ?_
    obtain ⟨r4, k5, hF⟩ := xb_s hF
    refine kVv (As := []) (rest := []) hE hl hD (c_X12_putsBack (b := b) k5) kl_X12_355 (mW_0 _ _ _) rfl rfl rfl rfl (Nat.le_of_ble_eq_true rfl) dX12_law_73 ⟨Nat.le_of_ble_eq_true rfl, Nat.le_of_ble_eq_true rfl⟩ ⟨Nat.le_of_ble_eq_true rfl, Nat.le_of_ble_eq_true rfl⟩ (fun H locs (hD : mD G _ _ b r4 sz H locs) => ?_)
    refine lv_bipush (v := (-100 : Int32)) hx hb dX12_law_76 (by decide) ?_
    refine lv_aload_n hx hb dX12_law_78 rfl (lv_at hl 0 rfl) ?_
    refine gf_X12_244 hE hD dX12_law_79 ?_
    refine lv_isub hx hb dX12_law_82 ?_
    obtain rfl := Option.some.inj hF
    exact x_iret hE hD ⟨rfl, rfl⟩ (by omega) (by omega) dX12_law_83
def F_X12_law_l35 : Nat → xS → Option (Int32 × xS)
  | 0, _ => none
  | nn + 1, u => if (u.1 24) = 0 then if (u.1 18) ≤ (u.1 19) then F_X12_law_j60 u else (F_X12_clause u).bind (fun r8 => F_X12_law_l35 nn r8) else F_X12_law_j60 u
theorem L_X12_law_l35 {p : Program} {l : Launch} {e : Env} {s : State} {m : MethodId} {args : Array Value} {below : List Frame} {meth : Method} {cd : Code} {G : xG} {w0 : xW} {b sz : Nat} {rr : (Int32 × xS)} (hE : xE p s m args meth cd cX12_law RX12 G 1 (Option.some Jvm.ClassFile.FieldType.int)) : ∀ (nn : Nat) {u : xS} {H : Heap} {locs : List Loc} {ls : Array Slot}, mD G (xA w0 s.heap.size) s.heap b u sz H locs → lv_has ls 1 [(0, .ref b)] → F_X12_law_l35 nn u  = some rr → W p l e (xR 151 0 0) s m args below meth cd H locs 0 0 (xQi G w0 (fun r z => r = rr.1 ∧ z = ((mW G b rr.2), sz)) below args s 0 0) (F0 m 35 ls []) := by
  have hx := hE.1; have hb := hE.2.1
  intro nn
  induction nn with
  | zero => intro u  H locs ls hD hl hF; rw [F_X12_law_l35] at hF; cases hF
  | succ nn ih =>
    intro u  H locs ls hD hl hF
    rw [F_X12_law_l35] at hF
    refine lv_aload_n hx hb dX12_law_35 rfl (lv_at hl 0 rfl) ?_
    refine gf_X12_256 hE hD dX12_law_36 ?_
    refine lv_if_ne (tgt := 60) hx hb dX12_law_39 (by decide) (fun c6 => ?_) (fun c6 => ?_)
    · have hF := ite_n hF c6
      exact B_X12_law_j60 hE hD (lv_sub hl [0] rfl) hF
    · have hF := ite_p hF c6
      refine lv_aload_n hx hb dX12_law_42 rfl (lv_at hl 0 rfl) ?_
      refine gf_X12_244 hE hD dX12_law_43 ?_
      refine lv_aload_n hx hb dX12_law_46 rfl (lv_at hl 0 rfl) ?_
      refine gf_X12_228 hE hD dX12_law_47 ?_
      refine lv_icmp_ge (tgt := 60) hx hb dX12_law_50 (by decide) (fun c7 => ?_) (fun c7 => ?_)
      · have hF := ite_p hF c7
        exact B_X12_law_j60 hE hD (lv_sub hl [0] rfl) hF
      · have hF := ite_n hF c7
        refine lv_aload_n hx hb dX12_law_53 rfl (lv_at hl 0 rfl) ?_
        obtain ⟨r8, k9, hF⟩ := xb_s hF
        refine kVv (As := []) (rest := []) hE hl hD (c_X12_clause (b := b) k9) kl_X12_352 (mW_0 _ _ _) rfl rfl rfl rfl (Nat.le_of_ble_eq_true rfl) dX12_law_54 ⟨Nat.le_of_ble_eq_true rfl, Nat.le_of_ble_eq_true rfl⟩ ⟨Nat.le_of_ble_eq_true rfl, Nat.le_of_ble_eq_true rfl⟩ (fun H locs (hD : mD G _ _ b r8 sz H locs) => ?_)
        refine lv_goto (tgt := 35) hx hb dX12_law_57 (by decide) ?_
        exact ih hD (lv_sub hl [0] rfl) hF
def F_X12_law (u : xS)  : Option (Int32 × xS) := (F_X12_puts u).bind (fun r10 => if xIn (4 : Int32) 303 then xlet (mA r10 0 (4 : Int32).toNatClampNeg (0 : Int32)) (fun u13 => xlet (mS u13 23 (0 : Int32)) (fun u14 => xlet (mS u14 22 (0 : Int32)) (fun u15 => xlet (mS u15 20 (0 : Int32)) (fun u16 => xlet (mS u16 24 (0 : Int32)) (fun u17 => (F_X12_token u17).bind (fun r18 => F_X12_law_l35 xFuel r18)))))) else none)
theorem c_X12_law {l : Launch} {G : xG} {b sz : Nat} {rr : (Int32 × xS)} {u : xS}  (hF : F_X12_law u  = some rr) : xMi l G yX12_law cX12_law 1 (Option.some Jvm.ClassFile.FieldType.int) 151 0 0 [.ref b] (mW G b u) sz (fun r z => r = rr.1 ∧ z = ((mW G b rr.2), sz)) := by
  unfold F_X12_law at hF
  refine x_startI rfl (Nat.le_of_ble_eq_true rfl) (fun p e s m args below meth cd ls hE hnm hl hD => ?_)
  have hx := hE.1; have hb := hE.2.1
  have hl : lv_has ls 1 [(0, .ref b)] := hl
  have hD : mD G (xA (mW G b u) s.heap.size) s.heap b u sz s.heap [] := hD
  refine lv_aload_n hx hb dX12_law_0 rfl (lv_at hl 0 rfl) ?_
  obtain ⟨r10, k11, hF⟩ := xb_s hF
  refine kVv (As := []) (rest := []) hE hl hD (c_X12_puts (b := b) k11) kl_X12_349 (mW_0 _ _ _) rfl rfl rfl rfl (Nat.le_of_ble_eq_true rfl) dX12_law_1 ⟨Nat.le_of_ble_eq_true rfl, Nat.le_of_ble_eq_true rfl⟩ ⟨Nat.le_of_ble_eq_true rfl, Nat.le_of_ble_eq_true rfl⟩ (fun H locs (hD : mD G _ _ b r10 sz H locs) => ?_)
  refine lv_aload_n hx hb dX12_law_4 rfl (lv_at hl 0 rfl) ?_
  refine gf_X12_7 hE hD dX12_law_5 ?_
  refine lv_iconst (v := (4 : Int32)) hx hb dX12_law_8 (by decide) ?_
  refine lv_iconst (v := (0 : Int32)) hx hb dX12_law_9 (by decide) ?_
  obtain ⟨h12, hF⟩ := ite_s hF
  refine ma_st_0 hE hD h12 dX12_law_10 (fun u13 H locs eu13 hD => ?_)
  have hF := xlet_e hF eu13
  refine lv_aload_n hx hb dX12_law_11 rfl (lv_at hl 0 rfl) ?_
  refine lv_iconst (v := (0 : Int32)) hx hb dX12_law_12 (by decide) ?_
  refine pf_X12_299 hE hD dX12_law_13 (fun u14 H locs eu14 hD => ?_)
  have hF := xlet_e hF eu14
  refine lv_aload_n hx hb dX12_law_16 rfl (lv_at hl 0 rfl) ?_
  refine lv_iconst (v := (0 : Int32)) hx hb dX12_law_17 (by decide) ?_
  refine pf_X12_317 hE hD dX12_law_18 (fun u15 H locs eu15 hD => ?_)
  have hF := xlet_e hF eu15
  refine lv_aload_n hx hb dX12_law_21 rfl (lv_at hl 0 rfl) ?_
  refine lv_iconst (v := (0 : Int32)) hx hb dX12_law_22 (by decide) ?_
  refine pf_X12_241 hE hD dX12_law_23 (fun u16 H locs eu16 hD => ?_)
  have hF := xlet_e hF eu16
  refine lv_aload_n hx hb dX12_law_26 rfl (lv_at hl 0 rfl) ?_
  refine lv_iconst (v := (0 : Int32)) hx hb dX12_law_27 (by decide) ?_
  refine pf_X12_256 hE hD (by decide) dX12_law_28 (fun u17 H locs eu17 hD => ?_)
  have hF := xlet_e hF eu17
  refine lv_aload_n hx hb dX12_law_31 rfl (lv_at hl 0 rfl) ?_
  obtain ⟨r18, k19, hF⟩ := xb_s hF
  refine kVv (As := []) (rest := []) hE hl hD (c_X12_token (b := b) k19) kl_X12_259 (mW_0 _ _ _) rfl rfl rfl rfl (Nat.le_of_ble_eq_true rfl) dX12_law_32 ⟨Nat.le_of_ble_eq_true rfl, Nat.le_of_ble_eq_true rfl⟩ ⟨Nat.le_of_ble_eq_true rfl, Nat.le_of_ble_eq_true rfl⟩ (fun H locs (hD : mD G _ _ b r18 sz H locs) => ?_)
  exact L_X12_law_l35 hE _ hD (lv_sub hl [0] rfl) hF
