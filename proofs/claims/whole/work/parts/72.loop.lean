/-! ===== the law's loop (printed by wip/whole/gen/run8.py) ===== -/
theorem w_63 (y : Int32) : ∃ k, k < 64 ∧ y &&& 63 = nI k := by
  have h : (y &&& 63).toBitVec.toNat ≤ 63 := by
    rw [Int32.toBitVec_and, BitVec.toNat_and]
    exact Nat.and_le_right
  have hlt : (y &&& 63).toBitVec.toNat < 2 ^ 31 := Nat.lt_of_le_of_lt h (by decide)
  refine ⟨(y &&& 63).toBitVec.toNat, by omega, ?_⟩
  have e : (y &&& 63).toInt = ((y &&& 63).toBitVec.toNat : Int) := by
    show (y &&& 63).toBitVec.toInt = _
    rw [BitVec.toInt_eq_toNat_of_lt (by omega)]
  exact Int32.toInt_inj.mp (e.trans (nI_toInt hlt).symm)
theorem w_cn {c c1 q : Nat} (a : Nat) (h1 : c1 ≤ c + 10) (h2 : c ≤ a + 2 * q) : c1 ≤ a + 2 * (q + 5) := by omega
set_option maxRecDepth 20000 in
theorem w_sn {c c1 q : Nat} (a : Nat) (h1 : c1 ≤ c + 357) (h2 : c ≤ a + 72 * q) : c1 ≤ a + 72 * (q + 5) := by omega
def wsO : Array Int := #[212, 265, 298, 341, 374, 397, 460, 473, 496, 529, 562, 595, 638, 681, 724, 757, 780, 803, 846, 899, 932, 975, 998, 1031, 1074, 1117, 1160, 1203, 1257, 1310, 1363, 1396, 1409, 1442, 1465, 1508, 1541, 1584, 1607, 1650, 1693, 1736, 1789, 1832, 1865, 1908, 1931, 1954, 1967]
theorem w_sw : decode cL_law 32 = .ok (.tableswitch 1980 0 48 wsO, 212) := dL_law_32
set_option maxHeartbeats 4000000 in
/-- one round: the call that the word tells -/
theorem w_case {p : Program} {l : Launch} {e : Env} {s : State} {m : MethodId} {below : List Frame} {meth : Method} {cd : Code} {G : xG} {b0 L : Nat} {xs : Nat → Int32} {A : Nat → Prop} {Q : State → Prop} {a b : Nat} (hE : xE p s m #[Value.ref b0] meth cd cL_law RL G 4 ret) (hX : va_X b0 L xs s s.heap) (hbl : b0 < s.heap.size) (hbA : ¬ A b0) {t : xT} {u : xS} {H : Heap} {locs : List Loc} {ls : Array Slot} {cells slots : Nat} {xi : Int32} (h1 : vp_in (xi + (1 : Int32)) L) (h2 : vp_in (xi + (2 : Int32)) L) (h3 : vp_in (xi + (3 : Int32)) L) (h4 : vp_in (xi + (4 : Int32)) L) (hD1 : xD G A s.heap (tE G t) t.1 H locs) (hD2 : xD G A s.heap (mW G b u) t.1 H locs) (hdj : ∀ q, tE G t q = none ∨ mW G b u q = none) (hRR : RR t a u) (hl : lv_has ls 4 [(0, .ref b0), (1, .ref a), (2, .ref b), (3, .int xi)]) (hc : cells + 10 ≤ 600000) (hk : slots + 357 ≤ 7302250) (KK : ∀ (t1 : xT) (u1 : xS) (H1 : Heap) (locs1 : List Loc) (cells1 slots1 : Nat), xD G A s.heap (tE G t1) t1.1 H1 locs1 → xD G A s.heap (mW G b u1) t1.1 H1 locs1 → (∀ q, tE G t1 q = none ∨ mW G b u1 q = none) → RR t1 a u1 → cells1 ≤ cells + 10 → slots1 ≤ slots + 357 → W p l e room_1 s m #[Value.ref b0] below meth cd H1 locs1 cells1 slots1 Q (F0 m 2012 ls [])) (k : Nat) (hk49 : k < 64) : W p l e room_1 s m #[Value.ref b0] below meth cd H locs cells slots Q (F0 m 32 ls [.int (nI k)]) := by
  have hx := hE.1; have hb := hE.2.1
  have kk : ∀ {t1 : xT} {u1 : xS} {H1 : Heap} {locs1 : List Loc} {cells1 slots1 : Nat}, xD G A s.heap (tE G t1) t1.1 H1 locs1 → xD G A s.heap (mW G b u1) t1.1 H1 locs1 → (∀ q, tE G t1 q = none ∨ mW G b u1 q = none) → RR t1 a u1 → cells1 ≤ cells + 10 → slots1 ≤ slots + 357 → W p l e room_1 s m #[Value.ref b0] below meth cd H1 locs1 cells1 slots1 Q (F0 m 2012 ls []) := fun {t1 u1 H1 locs1 c1 s1} => KK t1 u1 H1 locs1 c1 s1
  obtain ⟨s0, s1, s2, s3, s4, s5, s6, s7, s8, s9, s10, s11, s12, s13, s14, s15, s16, s17, s18, s19, s20, s21, s22, s23, s24, s25, s26, s27, s28, s29, s30, s31, s32, s33, s34, s35, s36, s37, s38, s39, s40, s41, s42, s43, s44, s45, s46, s47, s48⟩ := x_steps
  have hkx : ∀ {t : xT} {u : xS}, RR t a u → tK t a = 11 := fun h => RR_k h
  match k, hk49 with
  | 0, _ => exact lv_tableIn (off := 212) (tgt := 244) hx hb w_sw (by decide +kernel) (by decide +kernel) (by decide +kernel) (by decide) (lc_bridge s0 hkx hE hX hbl hbA h1 h2 h3 h4 hD1 hD2 hdj hRR hl hc hk (fun a1 a2 a3 a4 a5 a6 => kk a1 a2 a3 a4 a5 a6))
  | 1, _ => exact lv_tableIn (off := 265) (tgt := 297) hx hb w_sw (by decide +kernel) (by decide +kernel) (by decide +kernel) (by decide) (lc_bridgeOf s1 hkx hE hX hbl hbA h1 h2 h3 h4 hD1 hD2 hdj hRR hl hc hk (fun a1 a2 a3 a4 a5 a6 => kk a1 a2 a3 a4 a5 a6))
  | 2, _ => exact lv_tableIn (off := 298) (tgt := 330) hx hb w_sw (by decide +kernel) (by decide +kernel) (by decide +kernel) (by decide) (lc_change s2 hkx hE hX hbl hbA h1 h2 h3 h4 hD1 hD2 hdj hRR hl hc hk (fun a1 a2 a3 a4 a5 a6 => kk a1 a2 a3 a4 a5 a6))
  | 3, _ => exact lv_tableIn (off := 341) (tgt := 373) hx hb w_sw (by decide +kernel) (by decide +kernel) (by decide +kernel) (by decide) (lc_mend s3 hkx hE hX hbl hbA h1 h2 h3 h4 hD1 hD2 hdj hRR hl hc hk (fun a1 a2 a3 a4 a5 a6 => kk a1 a2 a3 a4 a5 a6))
  | 4, _ => exact lv_tableIn (off := 374) (tgt := 406) hx hb w_sw (by decide +kernel) (by decide +kernel) (by decide +kernel) (by decide) (lc_day s4 hkx hE hX hbl hbA h1 h2 h3 h4 hD1 hD2 hdj hRR hl hc hk (fun a1 a2 a3 a4 a5 a6 => kk a1 a2 a3 a4 a5 a6))
  | 5, _ => exact lv_tableIn (off := 397) (tgt := 429) hx hb w_sw (by decide +kernel) (by decide +kernel) (by decide +kernel) (by decide) (lc_feed s5 hkx hE hX hbl hbA h1 h2 h3 h4 hD1 hD2 hdj hRR hl hc hk (fun a1 a2 a3 a4 a5 a6 => kk a1 a2 a3 a4 a5 a6))
  | 6, _ => exact lv_tableIn (off := 460) (tgt := 492) hx hb w_sw (by decide +kernel) (by decide +kernel) (by decide +kernel) (by decide) (lc_law s6 hkx hE hX hbl hbA h1 h2 h3 h4 hD1 hD2 hdj hRR hl hc hk (fun a1 a2 a3 a4 a5 a6 => kk a1 a2 a3 a4 a5 a6))
  | 7, _ => exact lv_tableIn (off := 473) (tgt := 505) hx hb w_sw (by decide +kernel) (by decide +kernel) (by decide +kernel) (by decide) (lc_person s7 hkx hE hX hbl hbA h1 h2 h3 h4 hD1 hD2 hdj hRR hl hc hk (fun a1 a2 a3 a4 a5 a6 => kk a1 a2 a3 a4 a5 a6))
  | 8, _ => exact lv_tableIn (off := 496) (tgt := 528) hx hb w_sw (by decide +kernel) (by decide +kernel) (by decide +kernel) (by decide) (lc_personOf s8 hkx hE hX hbl hbA h1 h2 h3 h4 hD1 hD2 hdj hRR hl hc hk (fun a1 a2 a3 a4 a5 a6 => kk a1 a2 a3 a4 a5 a6))
  | 9, _ => exact lv_tableIn (off := 529) (tgt := 561) hx hb w_sw (by decide +kernel) (by decide +kernel) (by decide +kernel) (by decide) (lc_purse s9 hkx hE hX hbl hbA h1 h2 h3 h4 hD1 hD2 hdj hRR hl hc hk (fun a1 a2 a3 a4 a5 a6 => kk a1 a2 a3 a4 a5 a6))
  | 10, _ => exact lv_tableIn (off := 562) (tgt := 594) hx hb w_sw (by decide +kernel) (by decide +kernel) (by decide +kernel) (by decide) (lc_cross s10 hkx hE hX hbl hbA h1 h2 h3 h4 hD1 hD2 hdj hRR hl hc hk (fun a1 a2 a3 a4 a5 a6 => kk a1 a2 a3 a4 a5 a6))
  | 11, _ => exact lv_tableIn (off := 595) (tgt := 627) hx hb w_sw (by decide +kernel) (by decide +kernel) (by decide +kernel) (by decide) (lc_pool s11 hkx hE hX hbl hbA h1 h2 h3 h4 hD1 hD2 hdj hRR hl hc hk (fun a1 a2 a3 a4 a5 a6 => kk a1 a2 a3 a4 a5 a6))
  | 12, _ => exact lv_tableIn (off := 638) (tgt := 670) hx hb w_sw (by decide +kernel) (by decide +kernel) (by decide +kernel) (by decide) (lc_gives s12 hkx hE hX hbl hbA h1 h2 h3 h4 hD1 hD2 hdj hRR hl hc hk (fun a1 a2 a3 a4 a5 a6 => kk a1 a2 a3 a4 a5 a6))
  | 13, _ => exact lv_tableIn (off := 681) (tgt := 713) hx hb w_sw (by decide +kernel) (by decide +kernel) (by decide +kernel) (by decide) (lc_after s13 hkx hE hX hbl hbA h1 h2 h3 h4 hD1 hD2 hdj hRR hl hc hk (fun a1 a2 a3 a4 a5 a6 => kk a1 a2 a3 a4 a5 a6))
  | 14, _ => exact lv_tableIn (off := 724) (tgt := 756) hx hb w_sw (by decide +kernel) (by decide +kernel) (by decide +kernel) (by decide) (lc_need s14 hkx hE hX hbl hbA h1 h2 h3 h4 hD1 hD2 hdj hRR hl hc hk (fun a1 a2 a3 a4 a5 a6 => kk a1 a2 a3 a4 a5 a6))
  | 15, _ => exact lv_tableIn (off := 757) (tgt := 789) hx hb w_sw (by decide +kernel) (by decide +kernel) (by decide +kernel) (by decide) (lc_ever s15 hkx hE hX hbl hbA h1 h2 h3 h4 hD1 hD2 hdj hRR hl hc hk (fun a1 a2 a3 a4 a5 a6 => kk a1 a2 a3 a4 a5 a6))
  | 16, _ => exact lv_tableIn (off := 780) (tgt := 812) hx hb w_sw (by decide +kernel) (by decide +kernel) (by decide +kernel) (by decide) (lc_same s16 hkx hE hX hbl hbA h1 h2 h3 h4 hD1 hD2 hdj hRR hl hc hk (fun a1 a2 a3 a4 a5 a6 => kk a1 a2 a3 a4 a5 a6))
  | 17, _ => exact lv_tableIn (off := 803) (tgt := 835) hx hb w_sw (by decide +kernel) (by decide +kernel) (by decide +kernel) (by decide) (lc_few s17 hkx hE hX hbl hbA h1 h2 h3 h4 hD1 hD2 hdj hRR hl hc hk (fun a1 a2 a3 a4 a5 a6 => kk a1 a2 a3 a4 a5 a6))
  | 18, _ => exact lv_tableIn (off := 846) (tgt := 878) hx hb w_sw (by decide +kernel) (by decide +kernel) (by decide +kernel) (by decide) (lc_back s18 hkx hE hX hbl hbA h1 h2 h3 h4 hD1 hD2 hdj hRR hl hc hk (fun a1 a2 a3 a4 a5 a6 => kk a1 a2 a3 a4 a5 a6))
  | 19, _ => exact lv_tableIn (off := 899) (tgt := 931) hx hb w_sw (by decide +kernel) (by decide +kernel) (by decide +kernel) (by decide) (lc_rich s19 hkx hE hX hbl hbA h1 h2 h3 h4 hD1 hD2 hdj hRR hl hc hk (fun a1 a2 a3 a4 a5 a6 => kk a1 a2 a3 a4 a5 a6))
  | 20, _ => exact lv_tableIn (off := 932) (tgt := 964) hx hb w_sw (by decide +kernel) (by decide +kernel) (by decide +kernel) (by decide) (lc_order s20 hkx hE hX hbl hbA h1 h2 h3 h4 hD1 hD2 hdj hRR hl hc hk (fun a1 a2 a3 a4 a5 a6 => kk a1 a2 a3 a4 a5 a6))
  | 21, _ => exact lv_tableIn (off := 975) (tgt := 1007) hx hb w_sw (by decide +kernel) (by decide +kernel) (by decide +kernel) (by decide) (lc_poor s21 hkx hE hX hbl hbA h1 h2 h3 h4 hD1 hD2 hdj hRR hl hc hk (fun a1 a2 a3 a4 a5 a6 => kk a1 a2 a3 a4 a5 a6))
  | 22, _ => exact lv_tableIn (off := 998) (tgt := 1030) hx hb w_sw (by decide +kernel) (by decide +kernel) (by decide +kernel) (by decide) (lc_fast s22 hkx hE hX hbl hbA h1 h2 h3 h4 hD1 hD2 hdj hRR hl hc hk (fun a1 a2 a3 a4 a5 a6 => kk a1 a2 a3 a4 a5 a6))
  | 23, _ => exact lv_tableIn (off := 1031) (tgt := 1063) hx hb w_sw (by decide +kernel) (by decide +kernel) (by decide +kernel) (by decide) (lc_by s23 hkx hE hX hbl hbA h1 h2 h3 h4 hD1 hD2 hdj hRR hl hc hk (fun a1 a2 a3 a4 a5 a6 => kk a1 a2 a3 a4 a5 a6))
  | 24, _ => exact lv_tableIn (off := 1074) (tgt := 1106) hx hb w_sw (by decide +kernel) (by decide +kernel) (by decide +kernel) (by decide) (lc_swap s24 hkx hE hX hbl hbA h1 h2 h3 h4 hD1 hD2 hdj hRR hl hc hk (fun a1 a2 a3 a4 a5 a6 => kk a1 a2 a3 a4 a5 a6))
  | 25, _ => exact lv_tableIn (off := 1117) (tgt := 1149) hx hb w_sw (by decide +kernel) (by decide +kernel) (by decide +kernel) (by decide) (lc_devil s25 hkx hE hX hbl hbA h1 h2 h3 h4 hD1 hD2 hdj hRR hl hc hk (fun a1 a2 a3 a4 a5 a6 => kk a1 a2 a3 a4 a5 a6))
  | 26, _ => exact lv_tableIn (off := 1160) (tgt := 1192) hx hb w_sw (by decide +kernel) (by decide +kernel) (by decide +kernel) (by decide) (lc_rate s26 hkx hE hX hbl hbA h1 h2 h3 h4 hD1 hD2 hdj hRR hl hc hk (fun a1 a2 a3 a4 a5 a6 => kk a1 a2 a3 a4 a5 a6))
  | 27, _ => exact lv_tableIn (off := 1203) (tgt := 1235) hx hb w_sw (by decide +kernel) (by decide +kernel) (by decide +kernel) (by decide) (lc_worth s27 hkx hE hX hbl hbA h1 h2 h3 h4 hD1 hD2 hdj hRR hl hc hk (fun a1 a2 a3 a4 a5 a6 => kk a1 a2 a3 a4 a5 a6))
  | 28, _ => exact lv_tableIn (off := 1257) (tgt := 1289) hx hb w_sw (by decide +kernel) (by decide +kernel) (by decide +kernel) (by decide) (lc_stops s28 hkx hE hX hbl hbA h1 h2 h3 h4 hD1 hD2 hdj hRR hl hc hk (fun a1 a2 a3 a4 a5 a6 => kk a1 a2 a3 a4 a5 a6))
  | 29, _ => exact lv_tableIn (off := 1310) (tgt := 1342) hx hb w_sw (by decide +kernel) (by decide +kernel) (by decide +kernel) (by decide) (lc_meet s29 hkx hE hX hbl hbA h1 h2 h3 h4 hD1 hD2 hdj hRR hl hc hk (fun a1 a2 a3 a4 a5 a6 => kk a1 a2 a3 a4 a5 a6))
  | 30, _ => exact lv_tableIn (off := 1363) (tgt := 1395) hx hb w_sw (by decide +kernel) (by decide +kernel) (by decide +kernel) (by decide) (lc_tale s30 hkx hE hX hbl hbA h1 h2 h3 h4 hD1 hD2 hdj hRR hl hc hk (fun a1 a2 a3 a4 a5 a6 => kk a1 a2 a3 a4 a5 a6))
  | 31, _ => exact lv_tableIn (off := 1396) (tgt := 1428) hx hb w_sw (by decide +kernel) (by decide +kernel) (by decide +kernel) (by decide) (lc_forget s31 hkx hE hX hbl hbA h1 h2 h3 h4 hD1 hD2 hdj hRR hl hc hk (fun a1 a2 a3 a4 a5 a6 => kk a1 a2 a3 a4 a5 a6))
  | 32, _ => exact lv_tableIn (off := 1409) (tgt := 1441) hx hb w_sw (by decide +kernel) (by decide +kernel) (by decide +kernel) (by decide) (lc_fits s32 hkx hE hX hbl hbA h1 h2 h3 h4 hD1 hD2 hdj hRR hl hc hk (fun a1 a2 a3 a4 a5 a6 => kk a1 a2 a3 a4 a5 a6))
  | 33, _ => exact lv_tableIn (off := 1442) (tgt := 1474) hx hb w_sw (by decide +kernel) (by decide +kernel) (by decide +kernel) (by decide) (lc_liar s33 hkx hE hX hbl hbA h1 h2 h3 h4 hD1 hD2 hdj hRR hl hc hk (fun a1 a2 a3 a4 a5 a6 => kk a1 a2 a3 a4 a5 a6))
  | 34, _ => exact lv_tableIn (off := 1465) (tgt := 1497) hx hb w_sw (by decide +kernel) (by decide +kernel) (by decide +kernel) (by decide) (lc_prove s34 hkx hE hX hbl hbA h1 h2 h3 h4 hD1 hD2 hdj hRR hl hc hk (fun a1 a2 a3 a4 a5 a6 => kk a1 a2 a3 a4 a5 a6))
  | 35, _ => exact lv_tableIn (off := 1508) (tgt := 1540) hx hb w_sw (by decide +kernel) (by decide +kernel) (by decide +kernel) (by decide) (lc_row s35 hkx hE hX hbl hbA h1 h2 h3 h4 hD1 hD2 hdj hRR hl hc hk (fun a1 a2 a3 a4 a5 a6 => kk a1 a2 a3 a4 a5 a6))
  | 36, _ => exact lv_tableIn (off := 1541) (tgt := 1573) hx hb w_sw (by decide +kernel) (by decide +kernel) (by decide +kernel) (by decide) (lc_alterRow s36 hkx hE hX hbl hbA h1 h2 h3 h4 hD1 hD2 hdj hRR hl hc hk (fun a1 a2 a3 a4 a5 a6 => kk a1 a2 a3 a4 a5 a6))
  | 37, _ => exact lv_tableIn (off := 1584) (tgt := 1616) hx hb w_sw (by decide +kernel) (by decide +kernel) (by decide +kernel) (by decide) (lc_judge s37 hkx hE hX hbl hbA h1 h2 h3 h4 hD1 hD2 hdj hRR hl hc hk (fun a1 a2 a3 a4 a5 a6 => kk a1 a2 a3 a4 a5 a6))
  | 38, _ => exact lv_tableIn (off := 1607) (tgt := 1639) hx hb w_sw (by decide +kernel) (by decide +kernel) (by decide +kernel) (by decide) (lc_sheet s38 hkx hE hX hbl hbA h1 h2 h3 h4 hD1 hD2 hdj hRR hl hc hk (fun a1 a2 a3 a4 a5 a6 => kk a1 a2 a3 a4 a5 a6))
  | 39, _ => exact lv_tableIn (off := 1650) (tgt := 1682) hx hb w_sw (by decide +kernel) (by decide +kernel) (by decide +kernel) (by decide) (lc_write s39 hkx hE hX hbl hbA h1 h2 h3 h4 hD1 hD2 hdj hRR hl hc hk (fun a1 a2 a3 a4 a5 a6 => kk a1 a2 a3 a4 a5 a6))
  | 40, _ => exact lv_tableIn (off := 1693) (tgt := 1725) hx hb w_sw (by decide +kernel) (by decide +kernel) (by decide +kernel) (by decide) (lc_item s40 hkx hE hX hbl hbA h1 h2 h3 h4 hD1 hD2 hdj hRR hl hc hk (fun a1 a2 a3 a4 a5 a6 => kk a1 a2 a3 a4 a5 a6))
  | 41, _ => exact lv_tableIn (off := 1736) (tgt := 1768) hx hb w_sw (by decide +kernel) (by decide +kernel) (by decide +kernel) (by decide) (lc_walks s41 hkx hE hX hbl hbA h1 h2 h3 h4 hD1 hD2 hdj hRR hl hc hk (fun a1 a2 a3 a4 a5 a6 => kk a1 a2 a3 a4 a5 a6))
  | 42, _ => exact lv_tableIn (off := 1789) (tgt := 1821) hx hb w_sw (by decide +kernel) (by decide +kernel) (by decide +kernel) (by decide) (lc_shelf s42 hkx hE hX hbl hbA h1 h2 h3 h4 hD1 hD2 hdj hRR hl hc hk (fun a1 a2 a3 a4 a5 a6 => kk a1 a2 a3 a4 a5 a6))
  | 43, _ => exact lv_tableIn (off := 1832) (tgt := 1864) hx hb w_sw (by decide +kernel) (by decide +kernel) (by decide +kernel) (by decide) (lc_taken s43 hkx hE hX hbl hbA h1 h2 h3 h4 hD1 hD2 hdj hRR hl hc hk (fun a1 a2 a3 a4 a5 a6 => kk a1 a2 a3 a4 a5 a6))
  | 44, _ => exact lv_tableIn (off := 1865) (tgt := 1897) hx hb w_sw (by decide +kernel) (by decide +kernel) (by decide +kernel) (by decide) (lc_act s44 hkx hE hX hbl hbA h1 h2 h3 h4 hD1 hD2 hdj hRR hl hc hk (fun a1 a2 a3 a4 a5 a6 => kk a1 a2 a3 a4 a5 a6))
  | 45, _ => exact lv_tableIn (off := 1908) (tgt := 1940) hx hb w_sw (by decide +kernel) (by decide +kernel) (by decide +kernel) (by decide) (lc_trace s45 hkx hE hX hbl hbA h1 h2 h3 h4 hD1 hD2 hdj hRR hl hc hk (fun a1 a2 a3 a4 a5 a6 => kk a1 a2 a3 a4 a5 a6))
  | 46, _ => exact lv_tableIn (off := 1931) (tgt := 1963) hx hb w_sw (by decide +kernel) (by decide +kernel) (by decide +kernel) (by decide) (lc_many s46 hkx hE hX hbl hbA h1 h2 h3 h4 hD1 hD2 hdj hRR hl hc hk (fun a1 a2 a3 a4 a5 a6 => kk a1 a2 a3 a4 a5 a6))
  | 47, _ => exact lv_tableIn (off := 1954) (tgt := 1986) hx hb w_sw (by decide +kernel) (by decide +kernel) (by decide +kernel) (by decide) (lc_keep s47 hkx hE hX hbl hbA h1 h2 h3 h4 hD1 hD2 hdj hRR hl hc hk (fun a1 a2 a3 a4 a5 a6 => kk a1 a2 a3 a4 a5 a6))
  | 48, _ => exact lv_tableIn (off := 1967) (tgt := 1999) hx hb w_sw (by decide +kernel) (by decide +kernel) (by decide +kernel) (by decide) (lc_again s48 hkx hE hX hbl hbA h1 h2 h3 h4 hD1 hD2 hdj hRR hl hc hk (fun a1 a2 a3 a4 a5 a6 => kk a1 a2 a3 a4 a5 a6))
  | n + 49, hn =>
    refine lv_tableOut (tgt := 2012) hx hb w_sw (Or.inr ?_) (by decide) (KK t u H locs cells slots hD1 hD2 hdj hRR (by omega) (by omega))
    rw [nI_toInt (by omega)]
    omega
set_option maxHeartbeats 4000000 in
/-- the loop, from its head: q words are behind -/
theorem w_loop {p : Program} {l : Launch} {e : Env} {s : State} {m : MethodId} {below : List Frame} {meth : Method} {cd : Code} {G : xG} {b0 L : Nat} {xs : Nat → Int32} {A : Nat → Prop} {Q : State → Prop} {a b : Nat} (hE : xE p s m #[Value.ref b0] meth cd cL_law RL G 4 ret) (hX : va_X b0 L xs s s.heap) (hbl : b0 < s.heap.size) (hbA : ¬ A b0) (hA : ∀ q, A q ↔ s.heap.size ≤ q) (hL : L ≤ 320) (hQ : Q = lw_Z below #[Value.ref b0] s) : ∀ (n q : Nat) (t : xT) (u : xS) (H : Heap) (locs : List Loc) (ls : Array Slot) (cells slots : Nat), L < q + n → q ≤ L → cells ≤ 100 + 2 * q → slots ≤ 5000 + 72 * q → xD G A s.heap (tE G t) t.1 H locs → xD G A s.heap (mW G b u) t.1 H locs → (∀ q, tE G t q = none ∨ mW G b u q = none) → RR t a u → lv_has ls 4 [(0, .ref b0), (1, .ref a), (2, .ref b), (3, .int (nI q))] → W p l e room_1 s m #[Value.ref b0] below meth cd H locs cells slots Q (F0 m 18 ls []) := by
  have hx := hE.1; have hb := hE.2.1
  intro n
  induction n with
  | zero => intro q t u H locs ls cells slots h1 h2; omega
  | succ n ih =>
    intro q t u H locs ls cells slots hn hq hc hk hD1 hD2 hdj hRR hl
    refine lv_iload_n hx hb dL_law_18 rfl (lv_at hl 3 rfl) ?_
    refine lv_aload_n hx hb dL_law_19 rfl (lv_at hl 0 rfl) ?_
    refine va_slen hx hb hX hbl hbA hD1.2.2.1 dL_law_20 ?_
    refine lv_iconst (v := (5 : Int32)) hx hb dL_law_21 (by decide) ?_
    refine lv_isub hx hb dL_law_22 ?_
    have eL : (nI L).toInt = (L : Int) := nI_toInt (by omega)
    have eq : (nI q).toInt = (q : Int) := nI_toInt (by omega)
    have e5 : (Int32.ofNat L - (5 : Int32)).toInt = (L : Int) - 5 := by
      show (nI L - (5 : Int32)).toInt = _
      have h5 : (5 : Int32).toInt = 5 := by decide
      rw [fb_subI (by omega) (by omega), eL, h5]
    refine lv_icmp_gt (tgt := 2018) hx hb dL_law_23 (by decide) (fun _ => ?_) (fun c1 => ?_)
    · refine lv_iconst (v := (1 : Int32)) hx hb dL_law_2018 (by decide) ?_
      refine va_forget (fun x hx => (hA _).mp (hD1.2.2.1.2.2 x hx)) ?_
      refine W.widen (k := 600000) (n := 7302250) (by omega) (by omega) ?_
      rw [hQ]
      exact lw_ret hx hb hE.2.2.2.2.2.2.2 hE.2.2.2.2.2.1 dL_law_2019
    · have hle : q + 5 ≤ L := by
        rw [fa_lt, e5, eq] at c1
        omega
      refine lv_aload_n hx hb dL_law_26 rfl (lv_at hl 0 rfl) ?_
      refine lv_iload_n hx hb dL_law_27 rfl (lv_at hl 3 rfl) ?_
      refine va_sld hx hb hX hbl hbA hD1.2.2.1 (vp_in_nI (by omega) (by omega)) dL_law_28 ?_
      refine lv_bipush (v := (63 : Int32)) hx hb dL_law_29 (by decide) ?_
      refine lv_iand hx hb dL_law_31 ?_
      obtain ⟨k, hk64, ek⟩ := w_63 (xs (nI q).toNatClampNeg)
      rw [ek]
      have i1 : nI q + (1 : Int32) = nI (q + 1) := nI_add q 1
      have i2 : nI q + (2 : Int32) = nI (q + 2) := nI_add q 2
      have i3 : nI q + (3 : Int32) = nI (q + 3) := nI_add q 3
      have i4 : nI q + (4 : Int32) = nI (q + 4) := nI_add q 4
      refine w_case hE hX hbl hbA (by rw [i1]; exact vp_in_nI (by omega) (by omega)) (by rw [i2]; exact vp_in_nI (by omega) (by omega)) (by rw [i3]; exact vp_in_nI (by omega) (by omega)) (by rw [i4]; exact vp_in_nI (by omega) (by omega)) hD1 hD2 hdj hRR hl (by omega) (by omega) (fun t1 u1 H1 locs1 c1 s1 g1 g2 g3 g4 g5 g6 => ?_) k hk64
      refine lv_iinc (v := nI (q + 5)) (lv' := [(3, .int (nI (q + 5))), (0, .ref b0), (1, .ref a), (2, .ref b)]) hx hb dL_law_2012 hl (k := 3) rfl (nI_add q 5) (by decide) rfl (fun ls hl => ?_)
      refine lv_goto (tgt := 18) hx hb dL_law_2015 (by decide) ?_
      exact ih (q + 5) t1 u1 H1 locs1 ls c1 s1 (by omega) hle (w_cn 100 g5 hc) (w_sn 5000 g6 hk) g1 g2 g3 g4 (lv_sub hl [1, 2, 3, 0] rfl)
