/-! ===== what the tables give at the law's entry (printed by wip/whole/gen/run7.py) ===== -/
theorem ws_n0 : (Jvm.Cond.methodLinkNest "DoubledBridge" (9 : Nat) ({ cls := "DoubledBridge$Road", name := "<init>", desc := "()V" } : Jvm.MethodName) "DoubledBridge") ∈ lw_tbl := List.mem_append_right _ (x_t1 (List.mem_of_getElem? (i := 31) rfl))
theorem ws_n1 : (Jvm.Cond.methodLinkNest "DoubledBridge$Road" (26 : Nat) ({ cls := "DoubledBridge$Law", name := "<init>", desc := "()V" } : Jvm.MethodName) "DoubledBridge") ∈ lw_tbl := List.mem_append_right _ (x_t1 (List.mem_of_getElem? (i := 39) rfl))
theorem ws_n2 : (Jvm.Cond.methodLinkNest "DoubledBridge" (51 : Nat) ({ cls := "DoubledBridge$Trace", name := "<init>", desc := "()V" } : Jvm.MethodName) "DoubledBridge") ∈ lw_tbl := List.mem_append_right _ (x_t1 (List.mem_of_getElem? (i := 124) rfl))
theorem ws_n3 : (Jvm.Cond.methodLinkNest "DoubledBridge$Road" (53 : Nat) ({ cls := "DoubledBridge", name := "made", desc := "(IIIII)LDoubledBridge$Bridge;" } : Jvm.MethodName) "DoubledBridge") ∈ lw_tbl := List.mem_append_right _ (x_t1 (List.mem_of_getElem? (i := 206) rfl))
theorem ws_n4 : (Jvm.Cond.methodLinkNest "DoubledBridge$Law" (52 : Nat) ({ cls := "DoubledBridge", name := "isUnder", desc := "(II)Z" } : Jvm.MethodName) "DoubledBridge") ∈ lw_tbl := List.mem_append_right _ (x_t2 (List.mem_of_getElem? (i := 109) rfl))
theorem ws_n5 : (Jvm.Cond.methodLinkNest "DoubledBridge$LawReader" (11 : Nat) ({ cls := "DoubledBridge$Law", name := "<init>", desc := "()V" } : Jvm.MethodName) "DoubledBridge") ∈ lw_tbl := List.mem_append_right _ (x_t2 (List.mem_of_getElem? (i := 190) rfl))
theorem ws_n6 : (Jvm.Cond.methodLinkNest "DoubledBridge$LawReader" (75 : Nat) ({ cls := "DoubledBridge", name := "isToll", desc := "(I)Z" } : Jvm.MethodName) "DoubledBridge") ∈ lw_tbl := List.mem_append_right _ (x_t3 (List.mem_of_getElem? (i := 108) rfl))
theorem ws_n7 : (Jvm.Cond.methodLinkNest "DoubledBridge$Bridge" (27 : Nat) ({ cls := "DoubledBridge", name := "made", desc := "(IIIII)LDoubledBridge$Bridge;" } : Jvm.MethodName) "DoubledBridge") ∈ lw_tbl := List.mem_append_right _ (x_t4 (List.mem_of_getElem? (i := 120) rfl))
theorem ws_d0 : (Jvm.Cond.declares ({ cls := "DoubledBridge$Bridge", name := "quotientUp", desc := "(J)J" } : Jvm.MethodName)) ∈ lw_tbl := List.mem_append_right _ (x_t3 (List.mem_of_getElem? (i := 228) rfl))
theorem ws_d1 : (Jvm.Cond.declares ({ cls := "DoubledBridge$Bridge", name := "makes", desc := "(ILDoubledBridge$Trace;)I" } : Jvm.MethodName)) ∈ lw_tbl := List.mem_append_right _ (x_t5 (List.mem_of_getElem? (i := 68) rfl))
theorem ws_d2 : (Jvm.Cond.declares ({ cls := "DoubledBridge$Bridge", name := "takes", desc := "(ILDoubledBridge$Trace;)I" } : Jvm.MethodName)) ∈ lw_tbl := List.mem_append_right _ (x_t5 (List.mem_of_getElem? (i := 87) rfl))
theorem ws_d3 : (Jvm.Cond.declares ({ cls := "DoubledBridge$Bridge", name := "tells", desc := "(ILDoubledBridge$Trace;)I" } : Jvm.MethodName)) ∈ lw_tbl := List.mem_append_right _ (x_t5 (List.mem_of_getElem? (i := 130) rfl))
theorem ws_d4 : (Jvm.Cond.declares ({ cls := "DoubledBridge$Bridge", name := "shares", desc := "(ILDoubledBridge$Trace;)I" } : Jvm.MethodName)) ∈ lw_tbl := List.mem_append_right _ (x_t5 (List.mem_of_getElem? (i := 133) rfl))
theorem ws_c0 : (Jvm.Cond.castable "DoubledBridge$Stream" "DoubledBridge$Bridge") ∈ lw_tbl := List.mem_append_right _ (x_t8 (List.mem_of_getElem? (i := 49) rfl))
theorem ws_c1 : (Jvm.Cond.castable "DoubledBridge$Mill" "DoubledBridge$Bridge") ∈ lw_tbl := List.mem_append_right _ (x_t8 (List.mem_of_getElem? (i := 50) rfl))
theorem ws_c2 : (Jvm.Cond.castable "DoubledBridge$Egg" "DoubledBridge$Bridge") ∈ lw_tbl := List.mem_append_right _ (x_t8 (List.mem_of_getElem? (i := 51) rfl))
theorem ws_c3 : (Jvm.Cond.castable "DoubledBridge$Market" "DoubledBridge$Bridge") ∈ lw_tbl := List.mem_append_right _ (x_t8 (List.mem_of_getElem? (i := 52) rfl))
theorem ws_c4 : (Jvm.Cond.castable "DoubledBridge$Plain" "DoubledBridge$Bridge") ∈ lw_tbl := List.mem_append_right _ (x_t8 (List.mem_of_getElem? (i := 53) rfl))
theorem ws_o0 : (Jvm.Cond.arrayOver (Jvm.ClassFile.FieldType.object "DoubledBridge$Bridge")) ∈ lw_tbl := List.mem_append_right _ (x_t1 (List.mem_of_getElem? (i := 36) rfl))
theorem ws_o1 : (Jvm.Cond.arrayOver (Jvm.ClassFile.FieldType.object "DoubledBridge$Row")) ∈ lw_tbl := List.mem_append_right _ (x_t1 (List.mem_of_getElem? (i := 121) rfl))
theorem ws_l0 : (Jvm.Cond.stringRef "DoubledBridge$LawReader" (111 : Nat) "bridge") ∈ lw_tbl := List.mem_append_right _ (x_t2 (List.mem_of_getElem? (i := 232) rfl))
theorem ws_l1 : (Jvm.Cond.stringRef "DoubledBridge$LawReader" (113 : Nat) "plain") ∈ lw_tbl := List.mem_append_right _ (x_t3 (List.mem_of_getElem? (i := 45) rfl))
theorem ws_l2 : (Jvm.Cond.stringRef "DoubledBridge$LawReader" (115 : Nat) "stream") ∈ lw_tbl := List.mem_append_right _ (x_t3 (List.mem_of_getElem? (i := 46) rfl))
theorem ws_l3 : (Jvm.Cond.stringRef "DoubledBridge$LawReader" (117 : Nat) "mill") ∈ lw_tbl := List.mem_append_right _ (x_t3 (List.mem_of_getElem? (i := 47) rfl))
theorem ws_l4 : (Jvm.Cond.stringRef "DoubledBridge$LawReader" (119 : Nat) "egg") ∈ lw_tbl := List.mem_append_right _ (x_t3 (List.mem_of_getElem? (i := 48) rfl))
theorem ws_l5 : (Jvm.Cond.stringRef "DoubledBridge$LawReader" (121 : Nat) "market") ∈ lw_tbl := List.mem_append_right _ (x_t3 (List.mem_of_getElem? (i := 49) rfl))
theorem ws_l6 : (Jvm.Cond.stringRef "DoubledBridge$LawReader" (59 : Nat) "if") ∈ lw_tbl := List.mem_append_right _ (x_t3 (List.mem_of_getElem? (i := 55) rfl))
theorem ws_l7 : (Jvm.Cond.stringRef "DoubledBridge$LawReader" (100 : Nat) "not") ∈ lw_tbl := List.mem_append_right _ (x_t3 (List.mem_of_getElem? (i := 68) rfl))
theorem ws_l8 : (Jvm.Cond.stringRef "DoubledBridge$LawReader" (131 : Nat) "day") ∈ lw_tbl := List.mem_append_right _ (x_t3 (List.mem_of_getElem? (i := 89) rfl))
theorem ws_l9 : (Jvm.Cond.stringRef "DoubledBridge$LawReader" (133 : Nat) "times") ∈ lw_tbl := List.mem_append_right _ (x_t3 (List.mem_of_getElem? (i := 90) rfl))
theorem ws_l10 : (Jvm.Cond.stringRef "DoubledBridge$LawReader" (135 : Nat) "toll") ∈ lw_tbl := List.mem_append_right _ (x_t3 (List.mem_of_getElem? (i := 91) rfl))
theorem ws_l11 : (Jvm.Cond.stringRef "DoubledBridge$LawReader" (137 : Nat) "feast") ∈ lw_tbl := List.mem_append_right _ (x_t3 (List.mem_of_getElem? (i := 92) rfl))
theorem ws_l12 : (Jvm.Cond.stringRef "DoubledBridge$LawReader" (139 : Nat) "number") ∈ lw_tbl := List.mem_append_right _ (x_t3 (List.mem_of_getElem? (i := 93) rfl))
theorem ws_l13 : (Jvm.Cond.stringRef "DoubledBridge$LawReader" (98 : Nat) "and") ∈ lw_tbl := List.mem_append_right _ (x_t3 (List.mem_of_getElem? (i := 98) rfl))
theorem ws_l14 : (Jvm.Cond.stringRef "DoubledBridge$LawReader" (89 : Nat) "or") ∈ lw_tbl := List.mem_append_right _ (x_t3 (List.mem_of_getElem? (i := 99) rfl))
theorem ws_l15 : (Jvm.Cond.stringRef "DoubledBridge$LawReader" (123 : Nat) "free") ∈ lw_tbl := List.mem_append_right _ (x_t3 (List.mem_of_getElem? (i := 104) rfl))
theorem ws_l16 : (Jvm.Cond.stringRef "DoubledBridge$LawReader" (125 : Nat) "dear") ∈ lw_tbl := List.mem_append_right _ (x_t3 (List.mem_of_getElem? (i := 105) rfl))
theorem ws_l17 : (Jvm.Cond.stringRef "DoubledBridge$LawReader" (127 : Nat) "double") ∈ lw_tbl := List.mem_append_right _ (x_t3 (List.mem_of_getElem? (i := 106) rfl))
theorem ws_l18 : (Jvm.Cond.stringRef "DoubledBridge$LawReader" (129 : Nat) "shut") ∈ lw_tbl := List.mem_append_right _ (x_t3 (List.mem_of_getElem? (i := 107) rfl))
theorem ws_s0 : (Jvm.Cond.laysStatic "java/lang/String" "COMPACT_STRINGS" "Z") ∈ lw_tbl := List.mem_append_right _ (x_t3 (List.mem_of_getElem? (i := 6) rfl))
theorem ws_s1 : (Jvm.Cond.laysStatic "jdk/internal/util/Preconditions" "SIOOBE_FORMATTER" "Ljava/util/function/BiFunction;") ∈ lw_tbl := List.mem_append_right _ (x_t3 (List.mem_of_getElem? (i := 22) rfl))
theorem ws_nest : ∀ x ∈ xNest, Cond.methodLinkNest x.1 x.2.1 x.2.2 "DoubledBridge" ∈ lw_tbl := List.forall_mem_cons.mpr ⟨ws_n0, List.forall_mem_cons.mpr ⟨ws_n1, List.forall_mem_cons.mpr ⟨ws_n2, List.forall_mem_cons.mpr ⟨ws_n3, List.forall_mem_cons.mpr ⟨ws_n4, List.forall_mem_cons.mpr ⟨ws_n5, List.forall_mem_cons.mpr ⟨ws_n6, List.forall_mem_cons.mpr ⟨ws_n7, fun _ h => absurd h List.not_mem_nil⟩⟩⟩⟩⟩⟩⟩⟩
theorem ws_decl : ∀ x ∈ xDecl, Cond.declares x ∈ lw_tbl := List.forall_mem_cons.mpr ⟨ws_d0, List.forall_mem_cons.mpr ⟨ws_d1, List.forall_mem_cons.mpr ⟨ws_d2, List.forall_mem_cons.mpr ⟨ws_d3, List.forall_mem_cons.mpr ⟨ws_d4, fun _ h => absurd h List.not_mem_nil⟩⟩⟩⟩⟩
theorem ws_cast : ∀ x ∈ xCast, Cond.castable x "DoubledBridge$Bridge" ∈ lw_tbl := List.forall_mem_cons.mpr ⟨ws_c0, List.forall_mem_cons.mpr ⟨ws_c1, List.forall_mem_cons.mpr ⟨ws_c2, List.forall_mem_cons.mpr ⟨ws_c3, List.forall_mem_cons.mpr ⟨ws_c4, fun _ h => absurd h List.not_mem_nil⟩⟩⟩⟩⟩
theorem ws_lit : ∀ x ∈ xLit, Cond.stringRef RX3 x.1 x.2 ∈ lw_tbl := List.forall_mem_cons.mpr ⟨ws_l0, List.forall_mem_cons.mpr ⟨ws_l1, List.forall_mem_cons.mpr ⟨ws_l2, List.forall_mem_cons.mpr ⟨ws_l3, List.forall_mem_cons.mpr ⟨ws_l4, List.forall_mem_cons.mpr ⟨ws_l5, List.forall_mem_cons.mpr ⟨ws_l6, List.forall_mem_cons.mpr ⟨ws_l7, List.forall_mem_cons.mpr ⟨ws_l8, List.forall_mem_cons.mpr ⟨ws_l9, List.forall_mem_cons.mpr ⟨ws_l10, List.forall_mem_cons.mpr ⟨ws_l11, List.forall_mem_cons.mpr ⟨ws_l12, List.forall_mem_cons.mpr ⟨ws_l13, List.forall_mem_cons.mpr ⟨ws_l14, List.forall_mem_cons.mpr ⟨ws_l15, List.forall_mem_cons.mpr ⟨ws_l16, List.forall_mem_cons.mpr ⟨ws_l17, List.forall_mem_cons.mpr ⟨ws_l18, fun _ h => absurd h List.not_mem_nil⟩⟩⟩⟩⟩⟩⟩⟩⟩⟩⟩⟩⟩⟩⟩⟩⟩⟩⟩
def wsB : List Nat := [30, 40, 50, 62, 73, 84, 99, 111, 125, 140, 158, 176, 196, 218, 238, 258, 281, 305, 332]
def wsT (i : Nat) : Term := .string RX3 (xLit.getD i (0, "")).1
def wsF : List Cond := flatC (Jvm.Cond.and given_1 narrow_1)
theorem ws_ex : ∀ i, i < 19 → wsF[wsB.getD i 0]? = some (Cond.exactly (wsT i) "java/lang/String") := by decide +kernel
theorem ws_co : ∀ i, i < 19 → wsF[wsB.getD i 0 + 1]? = some (Cond.eq (.field (wsT i) "java/lang/String" "coder" "B") (.int 0)) := by decide +kernel
theorem ws_ar : ∀ i, i < 19 → wsF[wsB.getD i 0 + 2]? = some (Cond.arrayOf (.field (wsT i) "java/lang/String" "value" "[B") .byte) := by decide +kernel
theorem ws_le : ∀ i, i < 19 → wsF[wsB.getD i 0 + 3]? = some (Cond.eq (.length (.field (wsT i) "java/lang/String" "value" "[B")) (.int (Int32.ofNat (xLen.getD i 0)))) := by decide +kernel
theorem ws_el : ∀ i, i < 19 → ∀ j, j < xLen.getD i 0 → wsF[wsB.getD i 0 + 4 + j]? = some (Cond.eq (.elem (.field (wsT i) "java/lang/String" "value" "[B") (.int (Int32.ofNat j))) (.int ((xByt.getD i []).getD j 0))) := by decide +kernel
theorem ws_ne : ∀ i, i < 19 → ∀ j, j < i → wsF[wsB.getD i 0 + 4 + xLen.getD i 0 + j]? = some (Cond.not (Cond.eq (wsT j) (wsT i))) := by decide +kernel
theorem ws_cs : wsF[4]? = some (Cond.eq (.static "java/lang/String" "COMPACT_STRINGS" "Z") (.int 1)) := by decide +kernel
theorem ws_si : wsF[5]? = some (Cond.isRef (.static "jdk/internal/util/Preconditions" "SIOOBE_FORMATTER" "Ljava/util/function/BiFunction;")) := by decide +kernel
theorem ws_ln : ∀ i, i < 19 → xLen.getD i 0 < 2 ^ 31 := by decide +kernel
theorem ws_xl : xLit.length = 19 := rfl
/-- the classes -/
theorem w_classes {s : State} {b : Nat} (hts : ∀ w ∈ lw_tbl, w.before #[Value.ref b] s = true) : ∃ f : Nat → ClassId × (Nat → Nat), ∀ (c : Nat) (q : vw_C), vwCl[c]? = some q → u_Kn s q.1 q.2.1 q.2.2 (f c).1 (f c).2 := by
  have hU : ∀ w ∈ xU, w.before #[Value.ref b] s = true := fun w h => hts w (x_tbl h)
  have h0 : ∀ c : Nat, ∃ y : ClassId × (Nat → Nat), ∀ q : vw_C, vwCl[c]? = some q → u_Kn s q.1 q.2.1 q.2.2 y.1 y.2 := by
    obtain ⟨d0, e0, k0⟩ := u_known hU inX1u (hU _ kw2_48)
    intro c
    match c with
    | 0 => exact ⟨(d0, e0), fun q hq => by cases hq; exact k0⟩
    | 1 =>
      obtain ⟨d, e, k⟩ := u_known hU inX2u (hU _ kw1_38)
      exact ⟨(d, e), fun q hq => by cases hq; exact k⟩
    | 2 =>
      obtain ⟨d, e, k⟩ := u_known hU inX3u (hU _ kw2_184)
      exact ⟨(d, e), fun q hq => by cases hq; exact k⟩
    | 3 =>
      obtain ⟨d, e, k⟩ := u_known hU inX4u (hU _ kw2_63)
      exact ⟨(d, e), fun q hq => by cases hq; exact k⟩
    | 4 =>
      obtain ⟨d, e, k⟩ := u_known hU inX5u (hU _ kw2_33)
      exact ⟨(d, e), fun q hq => by cases hq; exact k⟩
    | 5 =>
      obtain ⟨d, e, k⟩ := u_known hU inX6u (hU _ kw2_78)
      exact ⟨(d, e), fun q hq => by cases hq; exact k⟩
    | 6 =>
      obtain ⟨d, e, k⟩ := u_known hU inX7u (hU _ kw1_30)
      exact ⟨(d, e), fun q hq => by cases hq; exact k⟩
    | 7 =>
      obtain ⟨d, e, k⟩ := u_known hU inX8u (hU _ kw4_228)
      exact ⟨(d, e), fun q hq => by cases hq; exact k⟩
    | 8 =>
      obtain ⟨d, e, k⟩ := u_known hU inX9u (hU _ kw1_210)
      exact ⟨(d, e), fun q hq => by cases hq; exact k⟩
    | 9 =>
      obtain ⟨d, e, k⟩ := u_known hU inX10u (hU _ kw1_123)
      exact ⟨(d, e), fun q hq => by cases hq; exact k⟩
    | 10 =>
      obtain ⟨d, e, k⟩ := u_known hU inX11u (hU _ kw1_22)
      exact ⟨(d, e), fun q hq => by cases hq; exact k⟩
    | 11 =>
      obtain ⟨d, e, k⟩ := u_known hU inX12u (hU _ kw5_168)
      exact ⟨(d, e), fun q hq => by cases hq; exact k⟩
    | n + 12 => exact ⟨(d0, e0), fun q hq => absurd (List.getElem?_eq_some_iff.mp hq).1 (show ¬ n + 12 < 12 by omega)⟩
  exact Classical.axiomOfChoice h0
theorem w_arr {s : State} {b : Nat} {ty : FieldType} (h : (Cond.arrayClass ty).before #[Value.ref b] s = true) (hv : ∀ (cA : ClassId), s.vm.findClass ("[" ++ ty.toString) = some cA → va_RA s cA ty) : ∃ cA : ClassId, ArrOfT s cA ty ∧ va_RA s cA ty := by
  obtain ⟨c, k, comp, h1, h2, h3⟩ := Cond.arrayClass_spec h
  exact ⟨c, fun N z => ⟨(fun k h => by cases h), k, h2, comp, h3⟩, hv c h1⟩
theorem w_over {s : State} {b : Nat} {C : String} (h : (Cond.arrayOver (.object C)).before #[Value.ref b] s = true) : ∃ cA : ClassId, ArrOfT s cA (.object C) ∧ va_RA s cA (.object C) := by
  obtain ⟨comp, c, k, h1, h2, h3, h4, h5⟩ := Cond.arrayOver_spec h
  exact ⟨c, fun N z => ⟨(fun k h => by cases h), k, h3, comp, h4⟩, k, comp, h3, h4, h1, h5⟩
/-- the start's tables, as the walks want them -/
theorem w_start {s : State} {b : Nat} (hts : ∀ w ∈ lw_tbl, w.before #[Value.ref b] s = true) (hgv : (Jvm.Cond.and given_1 narrow_1).before #[Value.ref b] s = true) : ∃ G : xG, xK G s ∧ xHz G = s.heap := by
  have hU : ∀ w ∈ xU, w.before #[Value.ref b] s = true := fun w h => hts w (x_tbl h)
  have hs : ∀ (k : Nat) (c : Cond), wsF[k]? = some c → c.before #[Value.ref b] s = true := fun k c h => flat_of_before _ hgv c (List.mem_of_getElem? h)
  have hA : ∀ a : Nat, a < s.heap.size → ¬ (fun q : Nat => s.heap.size ≤ q) a := fun a h g => Nat.lt_irrefl _ (Nat.lt_of_lt_of_le h g)
  obtain ⟨f, hf⟩ := w_classes hts
  obtain ⟨cI, aI, rI⟩ := w_arr (ty := .int) (hU _ kw1_77) (fun _ h => h)
  obtain ⟨cJ, aJ, rJ⟩ := w_arr (ty := .long) (hU _ kw6_45) (fun _ h => h)
  obtain ⟨cB, aB, rB⟩ := w_over (C := RX0) (hts _ ws_o0)
  obtain ⟨cR, aR, rR⟩ := w_over (C := RX8) (hts _ ws_o1)
  obtain ⟨adK, adV, hS, hev⟩ := vk_Sof (args := #[Value.ref b]) (s := s) (N := 19) (tm := wsT) (len := xLen) (byt := xByt) (A := fun q : Nat => s.heap.size ≤ q) ws_ln (fun i hi => hs _ _ (ws_ex i hi)) (fun i hi => hs _ _ (ws_co i hi)) (fun i hi => hs _ _ (ws_ar i hi)) (fun i hi => hs _ _ (ws_le i hi)) (fun i hi j hj => hs _ _ (ws_el i hi j hj)) (fun i j hi hj hn => by
    rcases Nat.lt_or_gt_of_ne hn with h | h
    · exact Or.inl (hs _ _ (ws_ne j hj i h))
    · exact Or.inr (hs _ _ (ws_ne i hi j h))) hA
  refine ⟨((fun c => (f c).1, fun c => (f c).2), cI, cJ, cB, cR, s.heap, adK, adV), ⟨⟨hf, fun k q hq => ?_⟩, fun x hx => va_Nw.of rfl (hts _ (ws_nest x hx)), fun x hx => va_Nw.of rfl (hts _ (ws_decl x hx)), fun x hx => va_Nw.of rfl (hts _ (ws_cast x hx)), va_AO.of (hts _ ws_o0), va_AO.of (hts _ ws_o1), hS, fun i x hx => ?_, ?_, ?_⟩, rfl⟩
  · match k, hq with
    | 0, hq => cases hq; exact ⟨aI, rI⟩
    | 1, hq => cases hq; exact ⟨aJ, rJ⟩
    | 2, hq => cases hq; exact ⟨aB, rB⟩
    | 3, hq => cases hq; exact ⟨aR, rR⟩
    | n + 4, hq => exact absurd (List.getElem?_eq_some_iff.mp hq).1 (show ¬ n + 4 < 4 by omega)
  · have hi : i < 19 := (List.getElem?_eq_some_iff.mp hx).1
    have hm : x ∈ xLit := List.mem_of_getElem? hx
    have e1 : wsT i = Term.string RX3 x.1 := by
      show Term.string RX3 (xLit.getD i (0, "")).1 = _
      rw [List.getD_eq_getElem?_getD, hx]; rfl
    have := hev i hi
    rw [e1] at this
    exact vk_R.of (hts _ (ws_lit x hm)) this
  · exact va_Zof (hts _ ws_s0) (hU _ kw1_13) (va_eqt (hs _ _ ws_cs)) hA
  · exact va_Zqof (hts _ ws_s1) (hU _ kw1_15) (hs _ _ ws_si) hA
