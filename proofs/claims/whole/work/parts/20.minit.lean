/-! ===== the reference: its constructor (printed by wip/whole/gen/run5.py) ===== -/
def F_X12_init_l154 : Nat → xS → Int32 → Option (xS)
  | 0, _, _ => none
  | nn + 1, u, y1 => if (4 : Int32) ≤ y1 then some u else if xIn y1 4 then xlet (mA u 25 y1.toNatClampNeg (-1 : Int32)) (fun u3 => xlet (y1 + (1 : Int32)) (fun x4 => F_X12_init_l154 nn u3 x4)) else none
theorem L_X12_init_l154 {p : Program} {l : Launch} {e : Env} {s : State} {m : MethodId} {args : Array Value} {below : List Frame} {meth : Method} {cd : Code} {G : xG} {w0 : xW} {b sz : Nat} {rr : (xS)} (hE : xE p s m args meth cd cX12_init RX12 G 2 (Option.none : Option Jvm.ClassFile.FieldType)) : ∀ (nn : Nat) {u : xS} {y1 : Int32} {H : Heap} {locs : List Loc} {ls : Array Slot} {cells slots : Nat}, cells + 0 ≤ 18 → slots + 0 ≤ 2555 → mD G (xA w0 s.heap.size) s.heap b u sz H locs → lv_has ls 2 [(0, .ref b), (1, .int y1)] → F_X12_init_l154 nn u y1 = some rr → W p l e (xR 5 18 2555) s m args below meth cd H locs cells slots (xQv G w0 (fun z => z = ((mW G b rr), sz)) below args s 18 2555) (F0 m 154 ls []) := by
  have hx := hE.1; have hb := hE.2.1
  intro nn
  induction nn with
  | zero => intro u y1 H locs ls cells slots hcc hkk hD hl hF; rw [F_X12_init_l154] at hF; cases hF
  | succ nn ih =>
    intro u y1 H locs ls cells slots hcc hkk hD hl hF
    rw [F_X12_init_l154] at hF
    refine lv_iload_n hx hb dX12_init_154 rfl (lv_at hl 1 rfl) ?_
    refine lv_iconst (v := (4 : Int32)) hx hb dX12_init_155 (by decide) ?_
    refine lv_icmp_ge (tgt := 172) hx hb dX12_init_156 (by decide) (fun c1 => ?_) (fun c1 => ?_)
    · have hF := ite_p hF c1
      obtain rfl := Option.some.inj hF
      exact x_vret hE hD rfl (by omega) (by omega) dX12_init_172
    · have hF := ite_n hF c1
      refine lv_aload_n hx hb dX12_init_159 rfl (lv_at hl 0 rfl) ?_
      refine gf_X12_44 hE hD dX12_init_160 ?_
      refine lv_iload_n hx hb dX12_init_163 rfl (lv_at hl 1 rfl) ?_
      refine lv_iconst (v := (-1 : Int32)) hx hb dX12_init_164 (by decide) ?_
      obtain ⟨h2, hF⟩ := ite_s hF
      refine ma_st_25 hE hD h2 dX12_init_165 (fun u3 H locs eu3 hD => ?_)
      have hF := xlet_e hF eu3
      obtain ⟨x4, ex4⟩ : ∃ y : Int32, y = y1 + (1 : Int32) := ⟨_, rfl⟩
      have hF := xlet_e hF ex4
      refine lv_iinc (v := x4) (lv' := [(1, .int x4), (0, .ref b)]) hx hb dX12_init_166 hl (k := 1) rfl (by rw [ex4]; rfl) (by decide) rfl (fun ls hl => ?_)
      refine lv_goto (tgt := 154) hx hb dX12_init_169 (by decide) ?_
      exact ih (by omega) (by omega) hD (lv_sub hl [1, 0] rfl) hF
def mZ : xS := (fun _ => 0, fun _ _ => 0, fun _ => 0)
def mPF (b k : Nat) : List Value := [if 1 ≤ k then .ref (b + 1) else .null, if 2 ≤ k then .ref (b + 2) else .null, if 3 ≤ k then .ref (b + 3) else .null, .int 0, if 4 ≤ k then .ref (b + 4) else .null, .int 0, .int 0, .int 0, if 5 ≤ k then .ref (b + 5) else .null, if 6 ≤ k then .ref (b + 6) else .null, .int 0, if 7 ≤ k then .ref (b + 7) else .null, if 8 ≤ k then .ref (b + 8) else .null, if 9 ≤ k then .ref (b + 9) else .null, .int 0, if 10 ≤ k then .ref (b + 10) else .null, .int 0, if 11 ≤ k then .ref (b + 11) else .null, .int 0, .int 0, .int 0, .int 0, .int 0, .int 0, .int 0, if 12 ≤ k then .ref (b + 12) else .null, if 13 ≤ k then .ref (b + 13) else .null, if 14 ≤ k then .ref (b + 14) else .null, if 15 ≤ k then .ref (b + 15) else .null, if 16 ≤ k then .ref (b + 16) else .null, if 17 ≤ k then .ref (b + 17) else .null, if 18 ≤ k then .ref (b + 18) else .null, .int 0, .int 0, .int 0, .int 0, .int 0]
def mPW (G : xG) (b k : Nat) : xW := fun q => if q = b then some (.inr (11, mPF b k)) else if b < q ∧ q ≤ b + k then mC G b mZ (q - b) else none
theorem mPW_b (G : xG) (b k : Nat) : mPW G b k b = some (.inr (11, mPF b k)) := by unfold mPW; rw [if_pos rfl]
theorem mPW_step {G : xG} {b k : Nat} {x : va_E} {fs : List Value} (hx : mC G b mZ (k + 1) = some x) (hf : fs = mPF b (k + 1)) : va_up (va_up (mPW G b k) (b + (k + 1)) (some x)) b (some (.inr (11, fs))) = mPW G b (k + 1) := by
  funext q
  by_cases h0 : q = b
  · rw [h0, va_up_self, mPW_b, hf]
  · rw [va_up_ne _ _ h0]
    by_cases h1 : q = b + (k + 1)
    · rw [h1, va_up_self]
      unfold mPW
      rw [if_neg (by omega), if_pos (by omega), Nat.add_sub_cancel_left, hx]
    · rw [va_up_ne _ _ h1]
      unfold mPW
      rw [if_neg h0, if_neg h0]
      by_cases h2 : b < q ∧ q ≤ b + k
      · rw [if_pos h2, if_pos (by omega)]
      · rw [if_neg h2, if_neg (by omega)]
theorem mPW_D {G : xG} {A : Nat → Prop} {H0 H : Heap} {locs : List Loc} {sz b k : Nat} {x : va_E} {fs : List Value} (hx : mC G b mZ (k + 1) = some x) (hf : fs = mPF b (k + 1)) (hD : xD G A H0 (va_up (va_up (mPW G b k) (b + (k + 1)) (some x)) b (some (.inr (11, fs)))) sz H locs) : xD G A H0 (mPW G b (k + 1)) sz H locs := by rw [mPW_step hx hf] at hD; exact hD
theorem mPW_end (G : xG) (b : Nat) : mPW G b 18 = mW G b mZ := by
  funext q
  unfold mPW mW
  by_cases h0 : q = b
  · rw [if_pos h0, if_neg (by omega), h0, Nat.sub_self]; rfl
  · rw [if_neg h0]
    by_cases h1 : q < b
    · rw [if_neg (by omega), if_pos h1]
    · rw [if_neg h1]
      by_cases h2 : q ≤ b + 18
      · rw [if_pos (by omega)]
      · rw [if_neg (by omega)]
        obtain ⟨n, hn⟩ : ∃ n, q - b = n + 19 := ⟨q - b - 19, by omega⟩
        rw [hn]; rfl
theorem c_X12_init {l : Launch} {G : xG} {b : Nat} {rr : xS} (hF : F_X12_init_l154 xFuel mZ (0 : Int32) = some rr) : xMv l G yX12_init cX12_init 2 none 5 18 2555 [.ref b] (mPW G b 0) (b + 1) (fun z => z = (mW G b rr, b + 19)) := by
  refine x_startV rfl (Nat.le_of_ble_eq_true rfl) (fun p e s m args below meth cd ls hE hnm hl hD => ?_)
  have hx := hE.1; have hb := hE.2.1
  have hl : lv_has ls 2 [(0, .ref b)] := hl
  refine lv_aload_n hx hb dX12_init_0 rfl (lv_at hl 0 rfl) ?_
  refine x_objI (rest := []) hE hl kw5_172 (Nat.le_of_ble_eq_true rfl) (Nat.le_of_ble_eq_true rfl) dX12_init_1 ?_
  refine lv_aload_n hx hb dX12_init_4 rfl (lv_at hl 0 rfl) ?_
  refine lv_sipush (v := (303 : Int32)) hx hb dX12_init_5 (by decide) ?_
  refine x_newI (N := 303) hE hD kw1_77 (by decide) (by decide) (Nat.le_of_ble_eq_true rfl) (Nat.le_of_ble_eq_true rfl) (Nat.le_of_ble_eq_true rfl) dX12_init_8 (fun H hD => ?_)
  refine x_putF (fs := mPF b 0) hE hD (by rw [va_up_ne _ _ (by omega)]; exact mPW_b G b 0) rfl inX12u tyX12 tyX12_ok nmX12 0 (by decide) kw5_173 (fun _ h => h) rfl hnm rfl rfl rfl rfl (show 0 < 37 by decide) dX12_init_10 (fun H locs hD => ?_)
  have hD : xD G (xA (mPW G b 0) s.heap.size) s.heap (mPW G b 1) (b + 2) H locs := mPW_D (k := 0) rfl rfl hD
  refine lv_aload_n hx hb dX12_init_13 rfl (lv_at hl 0 rfl) ?_
  refine lv_sipush (v := (303 : Int32)) hx hb dX12_init_14 (by decide) ?_
  refine x_newI (N := 303) hE hD kw1_77 (by decide) (by decide) (Nat.le_of_ble_eq_true rfl) (Nat.le_of_ble_eq_true rfl) (Nat.le_of_ble_eq_true rfl) dX12_init_17 (fun H hD => ?_)
  refine x_putF (fs := mPF b 1) hE hD (by rw [va_up_ne _ _ (by omega)]; exact mPW_b G b 1) rfl inX12u tyX12 tyX12_ok nmX12 1 (by decide) kw5_174 (fun _ h => h) rfl hnm rfl rfl rfl rfl (show 1 < 37 by decide) dX12_init_19 (fun H locs hD => ?_)
  have hD : xD G (xA (mPW G b 0) s.heap.size) s.heap (mPW G b 2) (b + 3) H locs := mPW_D (k := 1) rfl rfl hD
  refine lv_aload_n hx hb dX12_init_22 rfl (lv_at hl 0 rfl) ?_
  refine lv_sipush (v := (303 : Int32)) hx hb dX12_init_23 (by decide) ?_
  refine x_newI (N := 303) hE hD kw1_77 (by decide) (by decide) (Nat.le_of_ble_eq_true rfl) (Nat.le_of_ble_eq_true rfl) (Nat.le_of_ble_eq_true rfl) dX12_init_26 (fun H hD => ?_)
  refine x_putF (fs := mPF b 2) hE hD (by rw [va_up_ne _ _ (by omega)]; exact mPW_b G b 2) rfl inX12u tyX12 tyX12_ok nmX12 2 (by decide) kw5_175 (fun _ h => h) rfl hnm rfl rfl rfl rfl (show 2 < 37 by decide) dX12_init_28 (fun H locs hD => ?_)
  have hD : xD G (xA (mPW G b 0) s.heap.size) s.heap (mPW G b 3) (b + 4) H locs := mPW_D (k := 2) rfl rfl hD
  refine lv_aload_n hx hb dX12_init_31 rfl (lv_at hl 0 rfl) ?_
  refine lv_sipush (v := (200 : Int32)) hx hb dX12_init_32 (by decide) ?_
  refine x_newI (N := 200) hE hD kw1_77 (by decide) (by decide) (Nat.le_of_ble_eq_true rfl) (Nat.le_of_ble_eq_true rfl) (Nat.le_of_ble_eq_true rfl) dX12_init_35 (fun H hD => ?_)
  refine x_putF (fs := mPF b 3) hE hD (by rw [va_up_ne _ _ (by omega)]; exact mPW_b G b 3) rfl inX12u tyX12 tyX12_ok nmX12 4 (by decide) kw5_177 (fun _ h => h) rfl hnm rfl rfl rfl rfl (show 4 < 37 by decide) dX12_init_37 (fun H locs hD => ?_)
  have hD : xD G (xA (mPW G b 0) s.heap.size) s.heap (mPW G b 4) (b + 5) H locs := mPW_D (k := 3) rfl rfl hD
  refine lv_aload_n hx hb dX12_init_40 rfl (lv_at hl 0 rfl) ?_
  refine lv_sipush (v := (200 : Int32)) hx hb dX12_init_41 (by decide) ?_
  refine x_newI (N := 200) hE hD kw1_77 (by decide) (by decide) (Nat.le_of_ble_eq_true rfl) (Nat.le_of_ble_eq_true rfl) (Nat.le_of_ble_eq_true rfl) dX12_init_44 (fun H hD => ?_)
  refine x_putF (fs := mPF b 4) hE hD (by rw [va_up_ne _ _ (by omega)]; exact mPW_b G b 4) rfl inX12u tyX12 tyX12_ok nmX12 8 (by decide) kw5_181 (fun _ h => h) rfl hnm rfl rfl rfl rfl (show 8 < 37 by decide) dX12_init_46 (fun H locs hD => ?_)
  have hD : xD G (xA (mPW G b 0) s.heap.size) s.heap (mPW G b 5) (b + 6) H locs := mPW_D (k := 4) rfl rfl hD
  refine lv_aload_n hx hb dX12_init_49 rfl (lv_at hl 0 rfl) ?_
  refine lv_sipush (v := (200 : Int32)) hx hb dX12_init_50 (by decide) ?_
  refine x_newI (N := 200) hE hD kw1_77 (by decide) (by decide) (Nat.le_of_ble_eq_true rfl) (Nat.le_of_ble_eq_true rfl) (Nat.le_of_ble_eq_true rfl) dX12_init_53 (fun H hD => ?_)
  refine x_putF (fs := mPF b 5) hE hD (by rw [va_up_ne _ _ (by omega)]; exact mPW_b G b 5) rfl inX12u tyX12 tyX12_ok nmX12 9 (by decide) kw5_182 (fun _ h => h) rfl hnm rfl rfl rfl rfl (show 9 < 37 by decide) dX12_init_55 (fun H locs hD => ?_)
  have hD : xD G (xA (mPW G b 0) s.heap.size) s.heap (mPW G b 6) (b + 7) H locs := mPW_D (k := 5) rfl rfl hD
  refine lv_aload_n hx hb dX12_init_58 rfl (lv_at hl 0 rfl) ?_
  refine lv_sipush (v := (512 : Int32)) hx hb dX12_init_59 (by decide) ?_
  refine x_newI (N := 512) hE hD kw1_77 (by decide) (by decide) (Nat.le_of_ble_eq_true rfl) (Nat.le_of_ble_eq_true rfl) (Nat.le_of_ble_eq_true rfl) dX12_init_62 (fun H hD => ?_)
  refine x_putF (fs := mPF b 6) hE hD (by rw [va_up_ne _ _ (by omega)]; exact mPW_b G b 6) rfl inX12u tyX12 tyX12_ok nmX12 11 (by decide) kw5_184 (fun _ h => h) rfl hnm rfl rfl rfl rfl (show 11 < 37 by decide) dX12_init_64 (fun H locs hD => ?_)
  have hD : xD G (xA (mPW G b 0) s.heap.size) s.heap (mPW G b 7) (b + 8) H locs := mPW_D (k := 6) rfl rfl hD
  refine lv_aload_n hx hb dX12_init_67 rfl (lv_at hl 0 rfl) ?_
  refine lv_bipush (v := (32 : Int32)) hx hb dX12_init_68 (by decide) ?_
  refine x_newI (N := 32) hE hD kw1_77 (by decide) (by decide) (Nat.le_of_ble_eq_true rfl) (Nat.le_of_ble_eq_true rfl) (Nat.le_of_ble_eq_true rfl) dX12_init_70 (fun H hD => ?_)
  refine x_putF (fs := mPF b 7) hE hD (by rw [va_up_ne _ _ (by omega)]; exact mPW_b G b 7) rfl inX12u tyX12 tyX12_ok nmX12 12 (by decide) kw5_185 (fun _ h => h) rfl hnm rfl rfl rfl rfl (show 12 < 37 by decide) dX12_init_72 (fun H locs hD => ?_)
  have hD : xD G (xA (mPW G b 0) s.heap.size) s.heap (mPW G b 8) (b + 9) H locs := mPW_D (k := 7) rfl rfl hD
  refine lv_aload_n hx hb dX12_init_75 rfl (lv_at hl 0 rfl) ?_
  refine lv_bipush (v := (32 : Int32)) hx hb dX12_init_76 (by decide) ?_
  refine x_newJ (N := 32) hE hD kw6_45 (by decide) (by decide) (Nat.le_of_ble_eq_true rfl) (Nat.le_of_ble_eq_true rfl) (Nat.le_of_ble_eq_true rfl) dX12_init_78 (fun H hD => ?_)
  refine x_putF (fs := mPF b 8) hE hD (by rw [va_up_ne _ _ (by omega)]; exact mPW_b G b 8) rfl inX12u tyX12 tyX12_ok nmX12 13 (by decide) kw5_186 (fun _ h => h) rfl hnm rfl rfl rfl rfl (show 13 < 37 by decide) dX12_init_80 (fun H locs hD => ?_)
  have hD : xD G (xA (mPW G b 0) s.heap.size) s.heap (mPW G b 9) (b + 10) H locs := mPW_D (k := 8) rfl rfl hD
  refine lv_aload_n hx hb dX12_init_83 rfl (lv_at hl 0 rfl) ?_
  refine lv_bipush (v := (60 : Int32)) hx hb dX12_init_84 (by decide) ?_
  refine x_newI (N := 60) hE hD kw1_77 (by decide) (by decide) (Nat.le_of_ble_eq_true rfl) (Nat.le_of_ble_eq_true rfl) (Nat.le_of_ble_eq_true rfl) dX12_init_86 (fun H hD => ?_)
  refine x_putF (fs := mPF b 9) hE hD (by rw [va_up_ne _ _ (by omega)]; exact mPW_b G b 9) rfl inX12u tyX12 tyX12_ok nmX12 15 (by decide) kw5_188 (fun _ h => h) rfl hnm rfl rfl rfl rfl (show 15 < 37 by decide) dX12_init_88 (fun H locs hD => ?_)
  have hD : xD G (xA (mPW G b 0) s.heap.size) s.heap (mPW G b 10) (b + 11) H locs := mPW_D (k := 9) rfl rfl hD
  refine lv_aload_n hx hb dX12_init_91 rfl (lv_at hl 0 rfl) ?_
  refine lv_sipush (v := (200 : Int32)) hx hb dX12_init_92 (by decide) ?_
  refine x_newI (N := 200) hE hD kw1_77 (by decide) (by decide) (Nat.le_of_ble_eq_true rfl) (Nat.le_of_ble_eq_true rfl) (Nat.le_of_ble_eq_true rfl) dX12_init_95 (fun H hD => ?_)
  refine x_putF (fs := mPF b 10) hE hD (by rw [va_up_ne _ _ (by omega)]; exact mPW_b G b 10) rfl inX12u tyX12 tyX12_ok nmX12 17 (by decide) kw5_190 (fun _ h => h) rfl hnm rfl rfl rfl rfl (show 17 < 37 by decide) dX12_init_97 (fun H locs hD => ?_)
  have hD : xD G (xA (mPW G b 0) s.heap.size) s.heap (mPW G b 11) (b + 12) H locs := mPW_D (k := 10) rfl rfl hD
  refine lv_aload_n hx hb dX12_init_100 rfl (lv_at hl 0 rfl) ?_
  refine lv_iconst (v := (4 : Int32)) hx hb dX12_init_101 (by decide) ?_
  refine x_newI (N := 4) hE hD kw1_77 (by decide) (by decide) (Nat.le_of_ble_eq_true rfl) (Nat.le_of_ble_eq_true rfl) (Nat.le_of_ble_eq_true rfl) dX12_init_102 (fun H hD => ?_)
  refine x_putF (fs := mPF b 11) hE hD (by rw [va_up_ne _ _ (by omega)]; exact mPW_b G b 11) rfl inX12u tyX12 tyX12_ok nmX12 25 (by decide) kw5_198 (fun _ h => h) rfl hnm rfl rfl rfl rfl (show 25 < 37 by decide) dX12_init_104 (fun H locs hD => ?_)
  have hD : xD G (xA (mPW G b 0) s.heap.size) s.heap (mPW G b 12) (b + 13) H locs := mPW_D (k := 11) rfl rfl hD
  refine lv_aload_n hx hb dX12_init_107 rfl (lv_at hl 0 rfl) ?_
  refine lv_iconst (v := (4 : Int32)) hx hb dX12_init_108 (by decide) ?_
  refine x_newI (N := 4) hE hD kw1_77 (by decide) (by decide) (Nat.le_of_ble_eq_true rfl) (Nat.le_of_ble_eq_true rfl) (Nat.le_of_ble_eq_true rfl) dX12_init_109 (fun H hD => ?_)
  refine x_putF (fs := mPF b 12) hE hD (by rw [va_up_ne _ _ (by omega)]; exact mPW_b G b 12) rfl inX12u tyX12 tyX12_ok nmX12 26 (by decide) kw5_199 (fun _ h => h) rfl hnm rfl rfl rfl rfl (show 26 < 37 by decide) dX12_init_111 (fun H locs hD => ?_)
  have hD : xD G (xA (mPW G b 0) s.heap.size) s.heap (mPW G b 13) (b + 14) H locs := mPW_D (k := 12) rfl rfl hD
  refine lv_aload_n hx hb dX12_init_114 rfl (lv_at hl 0 rfl) ?_
  refine lv_sipush (v := (160 : Int32)) hx hb dX12_init_115 (by decide) ?_
  refine x_newI (N := 160) hE hD kw1_77 (by decide) (by decide) (Nat.le_of_ble_eq_true rfl) (Nat.le_of_ble_eq_true rfl) (Nat.le_of_ble_eq_true rfl) dX12_init_118 (fun H hD => ?_)
  refine x_putF (fs := mPF b 13) hE hD (by rw [va_up_ne _ _ (by omega)]; exact mPW_b G b 13) rfl inX12u tyX12 tyX12_ok nmX12 27 (by decide) kw5_200 (fun _ h => h) rfl hnm rfl rfl rfl rfl (show 27 < 37 by decide) dX12_init_120 (fun H locs hD => ?_)
  have hD : xD G (xA (mPW G b 0) s.heap.size) s.heap (mPW G b 14) (b + 15) H locs := mPW_D (k := 13) rfl rfl hD
  refine lv_aload_n hx hb dX12_init_123 rfl (lv_at hl 0 rfl) ?_
  refine lv_iconst (v := (4 : Int32)) hx hb dX12_init_124 (by decide) ?_
  refine x_newI (N := 4) hE hD kw1_77 (by decide) (by decide) (Nat.le_of_ble_eq_true rfl) (Nat.le_of_ble_eq_true rfl) (Nat.le_of_ble_eq_true rfl) dX12_init_125 (fun H hD => ?_)
  refine x_putF (fs := mPF b 14) hE hD (by rw [va_up_ne _ _ (by omega)]; exact mPW_b G b 14) rfl inX12u tyX12 tyX12_ok nmX12 28 (by decide) kw5_201 (fun _ h => h) rfl hnm rfl rfl rfl rfl (show 28 < 37 by decide) dX12_init_127 (fun H locs hD => ?_)
  have hD : xD G (xA (mPW G b 0) s.heap.size) s.heap (mPW G b 15) (b + 16) H locs := mPW_D (k := 14) rfl rfl hD
  refine lv_aload_n hx hb dX12_init_130 rfl (lv_at hl 0 rfl) ?_
  refine lv_iconst (v := (4 : Int32)) hx hb dX12_init_131 (by decide) ?_
  refine x_newI (N := 4) hE hD kw1_77 (by decide) (by decide) (Nat.le_of_ble_eq_true rfl) (Nat.le_of_ble_eq_true rfl) (Nat.le_of_ble_eq_true rfl) dX12_init_132 (fun H hD => ?_)
  refine x_putF (fs := mPF b 15) hE hD (by rw [va_up_ne _ _ (by omega)]; exact mPW_b G b 15) rfl inX12u tyX12 tyX12_ok nmX12 29 (by decide) kw5_202 (fun _ h => h) rfl hnm rfl rfl rfl rfl (show 29 < 37 by decide) dX12_init_134 (fun H locs hD => ?_)
  have hD : xD G (xA (mPW G b 0) s.heap.size) s.heap (mPW G b 16) (b + 17) H locs := mPW_D (k := 15) rfl rfl hD
  refine lv_aload_n hx hb dX12_init_137 rfl (lv_at hl 0 rfl) ?_
  refine lv_iconst (v := (4 : Int32)) hx hb dX12_init_138 (by decide) ?_
  refine x_newI (N := 4) hE hD kw1_77 (by decide) (by decide) (Nat.le_of_ble_eq_true rfl) (Nat.le_of_ble_eq_true rfl) (Nat.le_of_ble_eq_true rfl) dX12_init_139 (fun H hD => ?_)
  refine x_putF (fs := mPF b 16) hE hD (by rw [va_up_ne _ _ (by omega)]; exact mPW_b G b 16) rfl inX12u tyX12 tyX12_ok nmX12 30 (by decide) kw5_203 (fun _ h => h) rfl hnm rfl rfl rfl rfl (show 30 < 37 by decide) dX12_init_141 (fun H locs hD => ?_)
  have hD : xD G (xA (mPW G b 0) s.heap.size) s.heap (mPW G b 17) (b + 18) H locs := mPW_D (k := 16) rfl rfl hD
  refine lv_aload_n hx hb dX12_init_144 rfl (lv_at hl 0 rfl) ?_
  refine lv_bipush (v := (30 : Int32)) hx hb dX12_init_145 (by decide) ?_
  refine x_newI (N := 30) hE hD kw1_77 (by decide) (by decide) (Nat.le_of_ble_eq_true rfl) (Nat.le_of_ble_eq_true rfl) (Nat.le_of_ble_eq_true rfl) dX12_init_147 (fun H hD => ?_)
  refine x_putF (fs := mPF b 17) hE hD (by rw [va_up_ne _ _ (by omega)]; exact mPW_b G b 17) rfl inX12u tyX12 tyX12_ok nmX12 31 (by decide) kw5_204 (fun _ h => h) rfl hnm rfl rfl rfl rfl (show 31 < 37 by decide) dX12_init_149 (fun H locs hD => ?_)
  have hD : xD G (xA (mPW G b 0) s.heap.size) s.heap (mPW G b 18) (b + 19) H locs := mPW_D (k := 17) rfl rfl hD
  rw [mPW_end] at hD
  have hD : mD G (xA (mPW G b 0) s.heap.size) s.heap b mZ (b + 19) H locs := hD
  refine lv_iconst (v := (0 : Int32)) hx hb dX12_init_152 (by decide) ?_
  refine lv_istore_n (lv' := [(1, .int (0 : Int32)), (0, .ref b)]) hx hb dX12_init_153 rfl hl (by decide) rfl (fun ls hl => ?_)
  exact L_X12_init_l154 hE _ (Nat.le_of_ble_eq_true rfl) (Nat.le_of_ble_eq_true rfl) hD (lv_sub hl [1, 0] rfl) hF
