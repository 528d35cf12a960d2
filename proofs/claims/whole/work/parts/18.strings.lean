/-! ===== the literals: String.length and String.charAt over them ===== -/
def sK (G : xG) (j : Nat) : Nat := G.2.2.2.2.2.2.1 j
def sV (G : xG) (j : Nat) : Nat := G.2.2.2.2.2.2.2 j
def sN (j : Nat) : Nat := xLen.getD j 0
def sB (j i : Nat) : Int32 := (xByt.getD j []).getD i 0
section ST
variable {p : Program} {l : Launch} {e : Env} {R : Room} {s : State} {m : MethodId} {args : Array Value} {below : List Frame} {meth : Method} {c : Code} {H : Heap} {locs : List Loc} {cells slots : Nat} {Q : State → Prop}
variable {cc : ByteArray} {own : String} {pc : Nat} {ls : Array Slot} {rest : List Value} {G : xG} {A : Nat → Prop} {a nL sz sz0 : Nat} {w w0 : xW} {H0 : Heap} {ret : Option FieldType}
variable {y : MethodName} {b : ByteArray} {n d c1 k1 index nA : Nat} {ry : Option FieldType} {As st0 : List Value} {lv : List (Nat × Value)}
theorem s_S (h0 : xD G (xA w0 s.heap.size) s.heap w0 sz0 s.heap []) (hD : xD G (xA w0 s.heap.size) s.heap w sz H locs) : va_S (fun q => xZ G ≤ q) s.heap H locs := by
  have hA : ∀ q, xA w0 s.heap.size q → xZ G ≤ q := fun q h => by
    rcases h with h | h
    · cases hw : w0 q with
      | none => exact absurd hw h
      | some e => exact (h0.1.1 q e hw).1
    · exact Nat.le_trans h0.1.2.2 h
  exact ⟨hD.2.2.1.1, fun q h1 h2 => hD.2.2.1.2.1 q h1 (fun h => h2 (hA q h)), fun x hx => hA _ (hD.2.2.1.2.2 x hx)⟩
theorem s_k (h0 : xD G (xA w0 s.heap.size) s.heap w0 sz0 s.heap []) : ∀ q : Nat, q < (xHz G).size → ¬ xZ G ≤ q → s.heap[q]? = (xHz G)[q]? := fun q h1 _ => h0.1.2.1 q h1
theorem s_str (hE : xE p s m args meth c cc own G nL ret) (h0 : xD G (xA w0 s.heap.size) s.heap w0 sz0 s.heap []) : vk_S 19 xLen xByt (sK G) (sV G) (fun q => xZ G ≤ q) s s.heap := hE.2.2.2.2.1.2.2.2.2.2.2.1.kept (s_k h0)
theorem s_com (hE : xE p s m args meth c cc own G nL ret) (h0 : xD G (xA w0 s.heap.size) s.heap w0 sz0 s.heap []) : va_Z "java/lang/String" "COMPACT_STRINGS" "Z" (.int 1) (fun q => xZ G ≤ q) s s.heap := hE.2.2.2.2.1.2.2.2.2.2.2.2.2.1.kept (s_k h0)
theorem s_sio (hE : xE p s m args meth c cc own G nL ret) (h0 : xD G (xA w0 s.heap.size) s.heap w0 sz0 s.heap []) : va_Zq "jdk/internal/util/Preconditions" "SIOOBE_FORMATTER" "Ljava/util/function/BiFunction;" (fun q => xZ G ≤ q) s s.heap := hE.2.2.2.2.1.2.2.2.2.2.2.2.2.2.kept (s_k h0)
theorem x_nret {post : Int32 → xW × Nat → Prop} {c2 k2 : Nat} {v : Int32} {ty : FieldType} (hE : xE p s m args meth c cc own G nL (some ty)) (hD : xD G (xA w0 s.heap.size) s.heap w sz H locs) (hn : narrow ty (.int v) = .int v) (hp : post v (w, sz)) (hc : cells ≤ c2) (hk : slots ≤ k2) (hdg : decode cc pc = .ok (.ireturn, 1)) : W p l e R s m args below meth c H locs cells slots (xQi G w0 post below args s c2 k2) (F0 m pc ls [.int v]) :=
  W.widen hc hk (W.zret (v := v) hE.1 hE.2.1 hE.2.2.2.2.2.2.2 hn (fun t ht _ => ⟨⟨v, (w, sz), rfl, hp, (x_endB hD ht).1⟩, (x_endB hD ht).2⟩) hD.2.2.1.2.2 hdg hE.2.2.2.2.2.1)
theorem x_runVS (hE : xE p s m args meth c cc own G nL ret) (hl : lv_has ls nL lv) (hD : xD G A H0 w sz H locs) {Qc : Array Value → State → Outcome → State → Prop} (hM : Met l y (Cond.code y b n ry :: xU) (xR d c1 k1) (xPc G w sz (.ref a :: As)) Qc c1 k1 (xA w sz)) (hk : xLV own index y b n ry nA) (hrc : ∃ cell : Cell, H[a]? = some cell ∧ cell.vm.isStatics = false ∧ s.vm.findClass y.cls = some cell.cls) (hn : As.length = nA) (hst : st0 = As.reverse ++ .ref a :: rest) (hr : (rest.map fun v => v.category).sum ≤ 8) (hdg : decode cc pc = .ok (.invokevirtual index, 3)) (hR : d + 1 ≤ R.frames ∧ 8 + (n + 11) + 40 * d ≤ R.locals) (hR2 : cells + c1 ≤ R.cells ∧ slots + k1 ≤ R.slots) :
    va_Run p l e R s m args below meth c H locs cells slots c1 k1 (F0 m pc ls st0) rest (Qc (Value.ref a :: As).toArray) (xA w sz) := by
  obtain ⟨hexec, hb, hown, hts, hK, hlk, hml, -⟩ := id hE
  exact va_runV (C := y.cls) ⟨hexec, hb, hml, hown, hts⟩ hM (cwV nA hts (x_inA hk.1) rfl rfl rfl ⟨rfl, hk.2⟩ hR) ⟨xPc_blind _ _ _ _, hrc, x_pre hE hD _⟩ rfl hn hl.1 hst (lv_room hr) hdg hR2
theorem kVSi (hE : xE p s m args meth c cc own G nL ret) (hl : lv_has ls nL lv) (hD : xD G A H0 w sz H locs) {v : Int32} (hM : xMi l G y b n ry d 0 0 (.ref a :: As) w sz (fun r u => r = v ∧ u = (w, sz))) (hk : xLV own index y b n ry nA) (hrc : ∃ cell : Cell, H[a]? = some cell ∧ cell.vm.isStatics = false ∧ s.vm.findClass y.cls = some cell.cls) (hn : As.length = nA) (hst : st0 = As.reverse ++ .ref a :: rest) (hr : (rest.map fun v => v.category).sum ≤ 8) (hdg : decode cc pc = .ok (.invokevirtual index, 3)) (hR : d + 1 ≤ R.frames ∧ 8 + (n + 11) + 40 * d ≤ R.locals) (hR2 : cells ≤ R.cells ∧ slots ≤ R.slots) (kk : ∀ (H1 : Heap) (locs1 : List Loc), xD G A H0 w sz H1 locs1 → W p l e R s m args below meth c H1 locs1 cells slots Q (F0 m (pc + 3) ls (.int v :: rest))) : W p l e R s m args below meth c H locs cells slots Q (F0 m pc ls st0) :=
  x_ci hD (x_runVS hE hl hD hM hk hrc hn hst hr hdg hR hR2) (fun r u H1 locs1 hp h => by obtain ⟨rfl, rfl⟩ := hp; exact kk H1 locs1 h)
theorem s_recv (hE : xE p s m args meth c cc own G nL ret) (hD : xD G A H0 w sz H locs) {j : Nat} (hj : j < 19) : ∃ cell : Cell, H[sK G j]? = some cell ∧ cell.vm.isStatics = false ∧ s.vm.findClass "java/lang/String" = some cell.cls := by
  have h : vk_S 19 xLen xByt (sK G) (sV G) (fun q => xZ G ≤ q) s H := hE.2.2.2.2.1.2.2.2.2.2.2.1.kept (fun q h1 _ => hD.1.2.1 q h1)
  obtain ⟨cell, h1, h2, h3, -⟩ := (h.1 j hj).1
  exact ⟨cell, h1, h2, h3⟩
end ST
theorem c_J3_checkIndex {l : Launch} {G : xG} {w : xW} {sz : Nat} {xa xb : Int32} {o : Option Nat} (h1 : ¬ xa < 0) (h2 : xa < xb) : xMi l G yJ3_checkIndex_8e157 cJ3_checkIndex_8e157 3 (some .int) 2 0 0 [.int xa, .int xb, va_rf o] w sz (fun r u => r = xa ∧ u = (w, sz)) := by
  have main : ∀ v3 : Value, (lg_sl [.int xa, .int xb, v3]).length ≤ 3 → lv_args 0 [.int xa, .int xb, v3] = [(0, .int xa), (1, .int xb), (2, v3)] → xMi l G yJ3_checkIndex_8e157 cJ3_checkIndex_8e157 3 (some .int) 2 0 0 [.int xa, .int xb, v3] w sz (fun r u => r = xa ∧ u = (w, sz)) := by
    intro v3 hv3 hv4
    refine x_startI rfl hv3 (fun p e s m args below meth cd ls hE hnm hl hD => ?_)
    have hx := hE.1; have hb := hE.2.1
    rw [hv4] at hl
    refine lv_iload_n hx hb dJ3_checkIndex_8e157_0 rfl (lv_at hl 0 rfl) ?_
    refine lv_if_lt (tgt := 9) hx hb dJ3_checkIndex_8e157_1 (by decide) (fun c1 => ?_) (fun c1 => ?_)
    · exact absurd c1 h1
    · refine lv_iload_n hx hb dJ3_checkIndex_8e157_4 rfl (lv_at hl 0 rfl) ?_
      refine lv_iload_n hx hb dJ3_checkIndex_8e157_5 rfl (lv_at hl 1 rfl) ?_
      refine lv_icmp_lt (tgt := 16) hx hb dJ3_checkIndex_8e157_6 (by decide) (fun c2 => ?_) (fun c2 => ?_)
      · refine lv_iload_n hx hb dJ3_checkIndex_8e157_16 rfl (lv_at hl 0 rfl) ?_
        exact x_iret hE hD ⟨rfl, rfl⟩ (by omega) (by omega) dJ3_checkIndex_8e157_17
      · exact absurd h2 c2
  cases o with
  | none => exact main .null (Nat.le_of_ble_eq_true rfl) rfl
  | some q => exact main (.ref q) (Nat.le_of_ble_eq_true rfl) rfl
theorem c_J0_checkIndex {l : Launch} {G : xG} {w : xW} {sz : Nat} {xa xb : Int32} (h1 : ¬ xa < 0) (h2 : xa < xb) : xMv l G yJ0_checkIndex_df160 cJ0_checkIndex_df160 2 none 3 0 0 [.int xa, .int xb] w sz (fun u => u = (w, sz)) := by
  refine x_startV rfl (Nat.le_of_ble_eq_true rfl) (fun p e s m args below meth cd ls hE hnm hl hD => ?_)
  have hx := hE.1; have hb := hE.2.1
  have hl : lv_has ls 2 [(0, .int xa), (1, .int xb)] := hl
  refine lv_iload_n hx hb dJ0_checkIndex_df160_0 rfl (lv_at hl 0 rfl) ?_
  refine lv_iload_n hx hb dJ0_checkIndex_df160_1 rfl (lv_at hl 1 rfl) ?_
  have key : ∀ o : Option Nat, va_Z "jdk/internal/util/Preconditions" "SIOOBE_FORMATTER" "Ljava/util/function/BiFunction;" (va_rf o) (fun q => xZ G ≤ q) s s.heap → W p l e (xR 3 0 0) s m args below meth cd s.heap [] 0 0 (xQv G w (fun u => u = (w, sz)) below args s 0 0) (F0 m 2 ls [.int xb, .int xa]) := by
    intro o hZ
    refine va_gets hx hb hZ (s_S hD hD) hE.2.2.1 (hE.2.2.2.1 _ kw3_21) (fun _ h => h) dJ0_checkIndex_df160_2 ?_
    refine kSi (As := [.int xa, .int xb, va_rf o]) (rest := []) hE hl hD (c_J3_checkIndex h1 h2) kl_J0_1059 rfl (by cases o <;> rfl) (Nat.le_of_ble_eq_true rfl) dJ0_checkIndex_df160_5 ⟨Nat.le_of_ble_eq_true rfl, Nat.le_of_ble_eq_true rfl⟩ ⟨Nat.le_of_ble_eq_true rfl, Nat.le_of_ble_eq_true rfl⟩ (fun H locs hD => ?_)
    refine lv_pop hx hb dJ0_checkIndex_df160_8 rfl ?_
    exact x_vret hE hD rfl (by omega) (by omega) dJ0_checkIndex_df160_9
  rcases s_sio hE hD with h | ⟨t, h⟩
  · exact key none h
  · exact key (some t) h
theorem c_J0_coder {l : Launch} {G : xG} {w : xW} {sz : Nat} {j : Nat} (hj : j < 19) : xMi l G yJ0_coder_7d493 cJ0_coder_7d493 1 (some .byte) 2 0 0 [.ref (sK G j)] w sz (fun r u => r = 0 ∧ u = (w, sz)) := by
  refine x_startI rfl (Nat.le_of_ble_eq_true rfl) (fun p e s m args below meth cd ls hE hnm hl hD => ?_)
  have hx := hE.1; have hb := hE.2.1
  have hl : lv_has ls 1 [(0, .ref (sK G j))] := hl
  refine va_gets hx hb (s_com hE hD) (s_S hD hD) hE.2.2.1 (hE.2.2.2.1 _ kw3_5) (fun _ h => h) dJ0_coder_7d493_0 ?_
  refine lv_if_eq (tgt := 13) hx hb dJ0_coder_7d493_3 (by decide) (fun c1 => absurd c1 (by decide)) (fun c1 => ?_)
  refine lv_aload_n hx hb dJ0_coder_7d493_6 rfl (lv_at hl 0 rfl) ?_
  refine vk_getf hx hb ((s_str hE hD).1 j hj).2.1 (s_S hD hD) hE.2.2.1 (hE.2.2.2.1 _ kw8_55) (fun _ h => h) dJ0_coder_7d493_7 ?_
  refine lv_goto (tgt := 14) hx hb dJ0_coder_7d493_10 (by decide) ?_
  exact x_nret hE hD rfl ⟨rfl, rfl⟩ (by omega) (by omega) dJ0_coder_7d493_14
theorem c_J0_isLatin1 {l : Launch} {G : xG} {w : xW} {sz : Nat} {j : Nat} (hj : j < 19) : xMi l G yJ0_isLatin1_aae02 cJ0_isLatin1_aae02 1 (some .boolean) 2 0 0 [.ref (sK G j)] w sz (fun r u => r = 1 ∧ u = (w, sz)) := by
  refine x_startI rfl (Nat.le_of_ble_eq_true rfl) (fun p e s m args below meth cd ls hE hnm hl hD => ?_)
  have hx := hE.1; have hb := hE.2.1
  have hl : lv_has ls 1 [(0, .ref (sK G j))] := hl
  refine va_gets hx hb (s_com hE hD) (s_S hD hD) hE.2.2.1 (hE.2.2.2.1 _ kw3_5) (fun _ h => h) dJ0_isLatin1_aae02_0 ?_
  refine lv_if_eq (tgt := 17) hx hb dJ0_isLatin1_aae02_3 (by decide) (fun c1 => absurd c1 (by decide)) (fun c1 => ?_)
  refine lv_aload_n hx hb dJ0_isLatin1_aae02_6 rfl (lv_at hl 0 rfl) ?_
  refine vk_getf hx hb ((s_str hE hD).1 j hj).2.1 (s_S hD hD) hE.2.2.1 (hE.2.2.2.1 _ kw8_55) (fun _ h => h) dJ0_isLatin1_aae02_7 ?_
  refine lv_if_ne (tgt := 17) hx hb dJ0_isLatin1_aae02_10 (by decide) (fun c2 => absurd rfl c2) (fun c2 => ?_)
  refine lv_iconst (v := (1 : Int32)) hx hb dJ0_isLatin1_aae02_13 (by decide) ?_
  refine lv_goto (tgt := 18) hx hb dJ0_isLatin1_aae02_14 (by decide) ?_
  exact x_zret hE hD (by decide) ⟨rfl, rfl⟩ (by omega) (by omega) dJ0_isLatin1_aae02_18
theorem sN_lt {j : Nat} (hj : j < 19) : sN j < 2 ^ 31 := by
  have : ∀ j, j < 19 → sN j < 2 ^ 31 := by decide +kernel
  exact this j hj
theorem c_J0_length {l : Launch} {G : xG} {w : xW} {sz : Nat} {j : Nat} (hj : j < 19) : xMi l G yJ0_length_8abf5 cJ0_length_8abf5 1 (some .int) 3 0 0 [.ref (sK G j)] w sz (fun r u => r = nI (sN j) ∧ u = (w, sz)) := by
  refine x_startI rfl (Nat.le_of_ble_eq_true rfl) (fun p e s m args below meth cd ls hE hnm hl hD => ?_)
  have hx := hE.1; have hb := hE.2.1
  have hD0 := hD
  have hl : lv_has ls 1 [(0, .ref (sK G j))] := hl
  refine lv_aload_n hx hb dJ0_length_8abf5_0 rfl (lv_at hl 0 rfl) ?_
  refine vk_getf hx hb ((s_str hE hD).1 j hj).2.2.1 (s_S hD hD) hE.2.2.1 (hE.2.2.2.1 _ kw8_54) (fun _ h => h) dJ0_length_8abf5_1 ?_
  refine va_tlen (v := nI (sN j)) hx hb ((s_str hE hD).1 j hj).2.2.2 (s_S hD hD) rfl dJ0_length_8abf5_4 ?_
  refine lv_aload_n hx hb dJ0_length_8abf5_5 rfl (lv_at hl 0 rfl) ?_
  refine kVSi (As := []) (rest := [.int (nI (sN j))]) hE hl hD (c_J0_coder hj) kl_J0_335 (vk_recv (s_str hE hD0) hj (s_S hD0 hD)) rfl rfl (Nat.le_of_ble_eq_true rfl) dJ0_length_8abf5_6 ⟨Nat.le_of_ble_eq_true rfl, Nat.le_of_ble_eq_true rfl⟩ ⟨Nat.le_of_ble_eq_true rfl, Nat.le_of_ble_eq_true rfl⟩ (fun H locs hD => ?_)
  refine lv_ishr hx hb dJ0_length_8abf5_9 ?_
  exact x_iret hE hD ⟨sc_shr0 (sN_lt hj), rfl⟩ (by omega) (by omega) dJ0_length_8abf5_10
theorem s_lt {i : Int32} {n : Nat} (h : xIn i n) (hn : n < 2 ^ 31) : ¬ i < 0 ∧ i < nI n := by
  obtain ⟨k, hk, rfl⟩ := vp_in_of (n := n) h hn
  exact ⟨nI_pos (by omega), nI_lt hk hn⟩
theorem sB_ok : ∀ j, j < 19 → ∀ i, i < 6 → ((sB j i &&& 255).toUInt32 % 65536).toInt32 = sB j i ∧ narrow .char (.int (sB j i)) = .int (sB j i) := by decide +kernel
theorem sN_le : ∀ j, j < 19 → sN j ≤ 6 := by decide +kernel
theorem sB_at {j : Nat} {i : Int32} (hj : j < 19) (h : xIn i (sN j)) : ((sB j i.toNatClampNeg &&& 255).toUInt32 % 65536).toInt32 = sB j i.toNatClampNeg ∧ narrow .char (.int (sB j i.toNatClampNeg)) = .int (sB j i.toNatClampNeg) := by
  have h1 := sN_le j hj
  exact sB_ok j hj _ (by have : i.toNatClampNeg < sN j := Nat.not_le.mp fun q => h (Or.inr q); omega)
theorem c_J1_charAt {l : Launch} {G : xG} {w : xW} {sz : Nat} {j : Nat} {xa : Int32} (hj : j < 19) (hi : xIn xa (sN j)) : xMi l G yJ1_charAt_3b067 cJ1_charAt_3b067 2 (some .char) 4 0 0 [.ref (sV G j), .int xa] w sz (fun r u => r = sB j xa.toNatClampNeg ∧ u = (w, sz)) := by
  refine x_startI rfl (Nat.le_of_ble_eq_true rfl) (fun p e s m args below meth cd ls hE hnm hl hD => ?_)
  have hx := hE.1; have hb := hE.2.1
  have hD0 := hD
  have hl : lv_has ls 2 [(0, .ref (sV G j)), (1, .int xa)] := hl
  refine lv_iload_n hx hb dJ1_charAt_3b067_0 rfl (lv_at hl 1 rfl) ?_
  refine lv_aload_n hx hb dJ1_charAt_3b067_1 rfl (lv_at hl 0 rfl) ?_
  refine va_tlen (v := nI (sN j)) hx hb ((s_str hE hD).1 j hj).2.2.2 (s_S hD hD) rfl dJ1_charAt_3b067_2 ?_
  refine kSv (As := [.int xa, .int (nI (sN j))]) (rest := []) hE hl hD (c_J0_checkIndex (s_lt hi (sN_lt hj)).1 (s_lt hi (sN_lt hj)).2) kl_J1_9 rfl rfl (Nat.le_of_ble_eq_true rfl) dJ1_charAt_3b067_3 ⟨Nat.le_of_ble_eq_true rfl, Nat.le_of_ble_eq_true rfl⟩ ⟨Nat.le_of_ble_eq_true rfl, Nat.le_of_ble_eq_true rfl⟩ (fun H locs hD => ?_)
  refine lv_aload_n hx hb dJ1_charAt_3b067_6 rfl (lv_at hl 0 rfl) ?_
  refine lv_iload_n hx hb dJ1_charAt_3b067_7 rfl (lv_at hl 1 rfl) ?_
  refine va_tb (v := .int (sB j xa.toNatClampNeg)) hx hb ((s_str hE hD0).1 j hj).2.2.2 (s_S hD0 hD) hi rfl dJ1_charAt_3b067_8 ?_
  refine lv_sipush (v := (255 : Int32)) hx hb dJ1_charAt_3b067_9 (by decide) ?_
  refine lv_iand hx hb dJ1_charAt_3b067_12 ?_
  refine lv_i2c (v := sB j xa.toNatClampNeg) hx hb dJ1_charAt_3b067_13 (sB_at hj hi).1 ?_
  exact x_nret hE hD (sB_at hj hi).2 ⟨rfl, rfl⟩ (by omega) (by omega) dJ1_charAt_3b067_14
theorem c_J0_charAt {l : Launch} {G : xG} {w : xW} {sz : Nat} {j : Nat} {xa : Int32} (hj : j < 19) (hi : xIn xa (sN j)) : xMi l G yJ0_charAt_5068e cJ0_charAt_5068e 2 (some .char) 5 0 0 [.ref (sK G j), .int xa] w sz (fun r u => r = sB j xa.toNatClampNeg ∧ u = (w, sz)) := by
  refine x_startI rfl (Nat.le_of_ble_eq_true rfl) (fun p e s m args below meth cd ls hE hnm hl hD => ?_)
  have hx := hE.1; have hb := hE.2.1
  have hD0 := hD
  have hl : lv_has ls 2 [(0, .ref (sK G j)), (1, .int xa)] := hl
  refine lv_aload_n hx hb dJ0_charAt_5068e_0 rfl (lv_at hl 0 rfl) ?_
  refine kVSi (As := []) (rest := []) hE hl hD (c_J0_isLatin1 hj) kl_J0_492 (vk_recv (s_str hE hD0) hj (s_S hD0 hD)) rfl rfl (Nat.le_of_ble_eq_true rfl) dJ0_charAt_5068e_1 ⟨Nat.le_of_ble_eq_true rfl, Nat.le_of_ble_eq_true rfl⟩ ⟨Nat.le_of_ble_eq_true rfl, Nat.le_of_ble_eq_true rfl⟩ (fun H locs hD => ?_)
  refine lv_if_eq (tgt := 16) hx hb dJ0_charAt_5068e_4 (by decide) (fun c1 => absurd c1 (by decide)) (fun c1 => ?_)
  refine lv_aload_n hx hb dJ0_charAt_5068e_7 rfl (lv_at hl 0 rfl) ?_
  refine vk_getf hx hb ((s_str hE hD0).1 j hj).2.2.1 (s_S hD0 hD) hE.2.2.1 (hE.2.2.2.1 _ kw8_54) (fun _ h => h) dJ0_charAt_5068e_8 ?_
  refine lv_iload_n hx hb dJ0_charAt_5068e_11 rfl (lv_at hl 1 rfl) ?_
  refine kSi (As := [.ref (sV G j), .int xa]) (rest := []) hE hl hD (c_J1_charAt hj hi) kl_J0_495 rfl rfl (Nat.le_of_ble_eq_true rfl) dJ0_charAt_5068e_12 ⟨Nat.le_of_ble_eq_true rfl, Nat.le_of_ble_eq_true rfl⟩ ⟨Nat.le_of_ble_eq_true rfl, Nat.le_of_ble_eq_true rfl⟩ (fun H locs hD => ?_)
  exact x_nret hE hD (sB_at hj hi).2 ⟨rfl, rfl⟩ (by omega) (by omega) dJ0_charAt_5068e_15
