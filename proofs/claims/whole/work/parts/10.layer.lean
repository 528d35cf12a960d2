/-! ===== LAYER: worlds as partial functions from addresses to cells; one form of contract; rows over it ===== -/
abbrev vwCl : List vw_C := [(RX1, TX1, 8), (RX2, TX2, 10), (RX3, TX3, 7), (RX4, TX4, 8), (RX5, TX5, 8), (RX6, TX6, 8), (RX7, TX7, 11), (RX8, TX8, 2), (RX9, TX9, 8), (RX10, TX10, 3), (RX11, TX11, 14), (RX12, TX12, 37)]
theorem x_in {ws : List Cond} (h : ∀ w ∈ ws, w ∈ xU) : GoodIn xU ws := fun w hw => ⟨h w hw, good_of_word (List.all_eq_true.mp xU_good w (h w hw))⟩
theorem x_inA {ws : List Cond} {cd : Cond} (h : ∀ w ∈ ws ++ [cd], w ∈ xU) : GoodIn xU (ws ++ (cd :: xU)) := x_in (fun w hw => by
  rcases List.mem_append.mp hw with q | q
  · exact h w (List.mem_append_left _ q)
  · rcases List.mem_cons.mp q with r | r
    · exact h w (List.mem_append_right _ (by rw [r]; exact List.mem_cons_self))
    · exact r)
abbrev xG : Type := va_G × ClassId × ClassId × ClassId × ClassId × Heap × (Nat → Nat) × (Nat → Nat)
def xHz (G : xG) : Heap := G.2.2.2.2.2.1
def xZ (G : xG) : Nat := G.2.2.2.2.2.1.size
abbrev xW : Type := Nat → Option va_E
def xty (G : xG) : List (ClassId × FieldType) := [(G.2.1, .int), (G.2.2.1, .long), (G.2.2.2.1, .object RX0), (G.2.2.2.2.1, .object RX8)]
/-- what a walk needs of the machine's tables beyond the words: private members of nest mates, abstract methods, casts, arrays of references, the literals -/
def xNest : List (String × Nat × MethodName) := [("DoubledBridge", 9, ⟨"DoubledBridge$Road", "<init>", "()V"⟩), ("DoubledBridge$Road", 26, ⟨"DoubledBridge$Law", "<init>", "()V"⟩), ("DoubledBridge", 51, ⟨"DoubledBridge$Trace", "<init>", "()V"⟩), ("DoubledBridge$Road", 53, ⟨"DoubledBridge", "made", "(IIIII)LDoubledBridge$Bridge;"⟩), ("DoubledBridge$Law", 52, ⟨"DoubledBridge", "isUnder", "(II)Z"⟩), ("DoubledBridge$LawReader", 11, ⟨"DoubledBridge$Law", "<init>", "()V"⟩), ("DoubledBridge$LawReader", 75, ⟨"DoubledBridge", "isToll", "(I)Z"⟩), ("DoubledBridge$Bridge", 27, ⟨"DoubledBridge", "made", "(IIIII)LDoubledBridge$Bridge;"⟩)]
def xDecl : List MethodName := [⟨"DoubledBridge$Bridge", "quotientUp", "(J)J"⟩, ⟨"DoubledBridge$Bridge", "makes", "(ILDoubledBridge$Trace;)I"⟩, ⟨"DoubledBridge$Bridge", "takes", "(ILDoubledBridge$Trace;)I"⟩, ⟨"DoubledBridge$Bridge", "tells", "(ILDoubledBridge$Trace;)I"⟩, ⟨"DoubledBridge$Bridge", "shares", "(ILDoubledBridge$Trace;)I"⟩]
def xCast : List String := ["DoubledBridge$Stream", "DoubledBridge$Mill", "DoubledBridge$Egg", "DoubledBridge$Market", "DoubledBridge$Plain"]
def xLit : List (Nat × String) := [(111, "bridge"), (113, "plain"), (115, "stream"), (117, "mill"), (119, "egg"), (121, "market"), (59, "if"), (100, "not"), (131, "day"), (133, "times"), (135, "toll"), (137, "feast"), (139, "number"), (98, "and"), (89, "or"), (123, "free"), (125, "dear"), (127, "double"), (129, "shut")]
def xLen : List Nat := [6, 5, 6, 4, 3, 6, 2, 3, 3, 5, 4, 5, 6, 3, 2, 4, 4, 6, 4]
def xByt : List (List Int32) := [[98, 114, 105, 100, 103, 101], [112, 108, 97, 105, 110], [115, 116, 114, 101, 97, 109], [109, 105, 108, 108], [101, 103, 103], [109, 97, 114, 107, 101, 116], [105, 102], [110, 111, 116], [100, 97, 121], [116, 105, 109, 101, 115], [116, 111, 108, 108], [102, 101, 97, 115, 116], [110, 117, 109, 98, 101, 114], [97, 110, 100], [111, 114], [102, 114, 101, 101], [100, 101, 97, 114], [100, 111, 117, 98, 108, 101], [115, 104, 117, 116]]
def xX (G : xG) (U : State) : Prop := (∀ x ∈ xNest, va_Nw (.methodLinkNest x.1 x.2.1 x.2.2 "DoubledBridge") U) ∧ (∀ x ∈ xDecl, va_Nw (.declares x) U) ∧ (∀ x ∈ xCast, va_Nw (.castable x "DoubledBridge$Bridge") U) ∧ va_AO RX0 U ∧ va_AO RX8 U ∧
  vk_S 19 xLen xByt G.2.2.2.2.2.2.1 G.2.2.2.2.2.2.2 (fun q => xZ G ≤ q) U (xHz G) ∧ (∀ i x, xLit[i]? = some x → vk_R RX3 x.1 x.2 (G.2.2.2.2.2.2.1 i) U) ∧
  va_Z "java/lang/String" "COMPACT_STRINGS" "Z" (.int 1) (fun q => xZ G ≤ q) U (xHz G) ∧ va_Zq "jdk/internal/util/Preconditions" "SIOOBE_FORMATTER" "Ljava/util/function/BiFunction;" (fun q => xZ G ≤ q) U (xHz G)
theorem xX.warm {G : xG} {s U : State} (hW : s.WarmedH U.vm) (h : xX G s) : xX G U := by
  obtain ⟨h1, h2, h3, h4, h5, h6, h7, h8, h9⟩ := h
  exact ⟨fun x hx => va_Nw.warmM hW (h1 x hx), fun x hx => va_Nw.warmD hW (h2 x hx), fun x hx => va_Nw.warmC hW (h3 x hx), h4.moved hW.alike, h5.moved hW.alike, h6.moved hW.alike, fun i x hx => (h7 i x hx).warm hW, h8.moved hW.alike, h9.moved hW.alike⟩
theorem xX.same {G : xG} {u U : State} (hv : U.vm = u.vm) (h : xX G u) : xX G U := by
  obtain ⟨h1, h2, h3, h4, h5, h6, h7, h8, h9⟩ := h
  have ha : u.vm.Alike U.vm := by rw [hv]; exact Vm.Alike.refl _
  exact ⟨fun x hx => va_Nw.same rfl hv.symm (h1 x hx), fun x hx => va_Nw.same rfl hv.symm (h2 x hx), fun x hx => va_Nw.same rfl hv.symm (h3 x hx), h4.moved ha, h5.moved ha, h6.moved ha, fun i x hx => (h7 i x hx).same hv, h8.moved ha, h9.moved ha⟩
def xK (G : xG) (U : State) : Prop := va_K G.1 vwCl (xty G) U ∧ xX G U
def xH (G : xG) (w : xW) (H : Heap) : Prop := (∀ (q : Nat) (e : va_E), w q = some e → xZ G ≤ q ∧ va_at G.1 vwCl (q, e) H) ∧ (∀ q : Nat, q < xZ G → H[q]? = (xHz G)[q]?) ∧ xZ G ≤ H.size
def xA (w : xW) (sz : Nat) : Nat → Prop := fun q => w q ≠ none ∨ sz ≤ q
def xD (G : xG) (A : Nat → Prop) (H0 : Heap) (w : xW) (sz : Nat) (H : Heap) (locs : List Loc) : Prop := xH G w H ∧ (∀ q, w q ≠ none → A q) ∧ va_S A H0 H locs ∧ (∀ q, H0.size ≤ q → A q) ∧ H.size = sz
abbrev xR (d c k : Nat) : Room := { frames := d, cells := c, slots := k, locals := 40 * d }
def xPc (G : xG) (w : xW) (sz : Nat) (av : List Value) : Array Value → State → Prop := va_Pc av (fun U => U.heap.size = sz ∧ xH G w U.heap ∧ xK G U)
def xB (G : xG) (w0 : xW) (sz : Nat) (u : xW × Nat) (t : State) : Prop := xH G u.1 t.heap ∧ (∀ q, u.1 q ≠ none → xA w0 sz q) ∧ t.heap.size = u.2
def xMi (l : Launch) (G : xG) (y : MethodName) (b : ByteArray) (n : Nat) (ret : Option FieldType) (d c k : Nat) (av : List Value) (w : xW) (sz : Nat) (post : Int32 → xW × Nat → Prop) : Prop := Met l y (Cond.code y b n ret :: xU) (xR d c k) (xPc G w sz av) (va_Qi post (xB G w sz) (xA w sz)) c k (xA w sz)
def xMl (l : Launch) (G : xG) (y : MethodName) (b : ByteArray) (n : Nat) (ret : Option FieldType) (d c k : Nat) (av : List Value) (w : xW) (sz : Nat) (post : Int64 → xW × Nat → Prop) : Prop := Met l y (Cond.code y b n ret :: xU) (xR d c k) (xPc G w sz av) (va_Ql post (xB G w sz) (xA w sz)) c k (xA w sz)
def xMv (l : Launch) (G : xG) (y : MethodName) (b : ByteArray) (n : Nat) (ret : Option FieldType) (d c k : Nat) (av : List Value) (w : xW) (sz : Nat) (post : xW × Nat → Prop) : Prop := Met l y (Cond.code y b n ret :: xU) (xR d c k) (xPc G w sz av) (va_Qv post (xB G w sz) (xA w sz)) c k (xA w sz)
def xMq (l : Launch) (G : xG) (y : MethodName) (b : ByteArray) (n : Nat) (ret : Option FieldType) (d c k : Nat) (av : List Value) (w : xW) (sz : Nat) (post : Option Nat → xW × Nat → Prop) : Prop := Met l y (Cond.code y b n ret :: xU) (xR d c k) (xPc G w sz av) (va_Qq post (xB G w sz) (xA w sz)) c k (xA w sz)
def xQi (G : xG) (w0 : xW) (post : Int32 → xW × Nat → Prop) (below : List Frame) (args : Array Value) (s : State) (c k : Nat) : State → Prop := MQ below (va_Qi post (xB G w0 s.heap.size) (xA w0 s.heap.size)) args s c k (xA w0 s.heap.size)
def xQl (G : xG) (w0 : xW) (post : Int64 → xW × Nat → Prop) (below : List Frame) (args : Array Value) (s : State) (c k : Nat) : State → Prop := MQ below (va_Ql post (xB G w0 s.heap.size) (xA w0 s.heap.size)) args s c k (xA w0 s.heap.size)
def xQv (G : xG) (w0 : xW) (post : xW × Nat → Prop) (below : List Frame) (args : Array Value) (s : State) (c k : Nat) : State → Prop := MQ below (va_Qv post (xB G w0 s.heap.size) (xA w0 s.heap.size)) args s c k (xA w0 s.heap.size)
def xQq (G : xG) (w0 : xW) (post : Option Nat → xW × Nat → Prop) (below : List Frame) (args : Array Value) (s : State) (c k : Nat) : State → Prop := MQ below (va_Qq post (xB G w0 s.heap.size) (xA w0 s.heap.size)) args s c k (xA w0 s.heap.size)
/-- what stays in a method's walk: the machine, the code, the class, the words, the tables -/
def xE (p : Program) (s : State) (m : MethodId) (args : Array Value) (meth : Method) (c : Code) (cc : ByteArray) (own : String) (G : xG) (nL : Nat) (ret : Option FieldType) : Prop :=
  p.tables.exec = Jvm.exec ∧ c.code = cc ∧ s.vm.findClass own = some m.cls ∧ (∀ w ∈ xU, w.before args s = true) ∧ xK G s ∧ meth.locks = false ∧ c.maxLocals = nL ∧ meth.sig.returnType = ret
theorem xPc_blind (G : xG) (w : xW) (sz : Nat) (av : List Value) : FrameBlind (xPc G w sz av) := fun a U g mk q => by
  obtain ⟨h1, h2, h3, h4⟩ := q
  exact ⟨h1, h2, h3, va_K.moved (u := U) (U := U.calling g mk a) (Vm.Alike.refl U.vm) h4.1, xX.same (u := U) (U := U.calling g mk a) rfl h4.2⟩
theorem xH.one {G : xG} {w : xW} {H : Heap} {a : Nat} {e : va_E} (h : xH G w H) (hw : w a = some e) : va_P G.1 vwCl [(a, e)] H := fun k q hk => by
  cases k with
  | zero => cases hk; exact (h.1 a e hw).2
  | succ k => simp at hk
theorem xD.put {G : xG} {A : Nat → Prop} {H0 H H1 : Heap} {w : xW} {sz : Nat} {locs : List Loc} {a j : Nat} {e0 e : va_E} (hD : xD G A H0 w sz H locs) (hw : w a = some e0) (he : va_at G.1 vwCl (a, e) H1) (z : H1.size = H.size) (oq : ∀ q : Nat, q ≠ a → H1[q]? = H[q]?) : xD G A H0 (va_up w a (some e)) sz H1 (locs ++ [⟨a, j⟩]) := by
  obtain ⟨h1, h2, h3, h4, h5⟩ := hD
  have ha : A a := h2 a (by rw [hw]; exact fun h => by cases h)
  have hz := (h1.1 a e0 hw).1
  refine ⟨⟨fun q x hq => ?_, fun q hq => (oq q (by omega)).trans (h1.2.1 q hq), by rw [z]; exact h1.2.2⟩, fun q hq => ?_, h3.put z oq ha, h4, z.trans h5⟩
  · by_cases h : q = a
    · subst h
      rw [va_up_self] at hq
      cases hq
      exact ⟨hz, he⟩
    · rw [va_up_ne _ _ h] at hq
      exact ⟨(h1.1 q x hq).1, (h1.1 q x hq).2.kept (oq q h)⟩
  · by_cases h : q = a
    · subst h; exact ha
    · rw [va_up_ne _ _ h] at hq
      exact h2 q hq
theorem xD.push {G : xG} {A : Nat → Prop} {H0 H H1 : Heap} {w : xW} {sz : Nat} {locs : List Loc} {e : va_E} (hD : xD G A H0 w sz H locs) (he : va_at G.1 vwCl (sz, e) H1) (z : H1.size = sz + 1) (oq : ∀ q : Nat, q < sz → H1[q]? = H[q]?) : xD G A H0 (va_up w sz (some e)) (sz + 1) H1 locs := by
  obtain ⟨h1, h2, h3, h4, h5⟩ := hD
  subst h5
  have ha : A H.size := h4 _ h3.1
  have hz := h1.2.2
  refine ⟨⟨fun q x hq => ?_, fun q hq => (oq q (by omega)).trans (h1.2.1 q hq), by omega⟩, fun q hq => ?_, ⟨Nat.le_trans h3.1 (by omega), fun q g1 g2 => (oq q (Nat.lt_of_lt_of_le g1 h3.1)).trans (h3.2.1 q g1 g2), h3.2.2⟩, h4, z⟩
  · by_cases h : q = H.size
    · subst h
      rw [va_up_self] at hq
      cases hq
      exact ⟨hz, he⟩
    · rw [va_up_ne _ _ h] at hq
      have := (h1.1 q x hq).2
      exact ⟨(h1.1 q x hq).1, this.kept (oq q this.lt)⟩
  · by_cases h : q = H.size
    · subst h; exact ha
    · rw [va_up_ne _ _ h] at hq
      exact h2 q hq
section XR
variable {p : Program} {l : Launch} {e : Env} {R : Room} {s : State} {m : MethodId} {args : Array Value} {below : List Frame} {meth : Method} {c : Code} {H : Heap} {locs : List Loc} {cells slots : Nat} {Q : State → Prop}
variable {cc : ByteArray} {own : String} {pc : Nat} {ls : Array Slot} {rest : List Value} {G : xG} {A : Nat → Prop} {a nL sz : Nat} {w w0 : xW} {H0 : Heap} {ret : Option FieldType}
theorem x_get (hE : xE p s m args meth c cc own G nL ret) (hD : xD G A H0 w sz H locs) {ref C : String} {T : u_T} {N ci index : Nat} {fs : List Value} (hw : w a = some (.inr (ci, fs))) (hc : vwCl[ci]? = some (C, T, N)) (hin : ∀ w ∈ u_ws C T N, w ∈ xU) (k : Nat) (hk : k < N) (hlink : Cond.fieldLink own index ref (T k).2.1 (T k).2.2.1 ∈ xU) (hsame : ∀ x, s.fieldFound? (T k).1 (T k).2.1 (T k).2.2.1 = some x → s.fieldFound? ref (T k).2.1 (T k).2.2.1 = some x) {v : Value} (hv : fs[k]? = some v) (hdg : decode cc pc = .ok (.getfield index, 3))
    (kk : W p l e R s m args below meth c H locs cells slots Q (F0 m (pc + 3) ls (v :: rest))) : W p l e R s m args below meth c H locs cells slots Q (F0 m pc ls (.ref a :: rest)) :=
  va_get (ws := [(a, .inr (ci, fs))]) hE.1 hE.2.1 hE.2.2.2.1 hin hE.2.2.1 hE.2.2.2.2.1.1 (hD.1.one hw) 0 rfl hc k hk (hE.2.2.2.1 _ hlink) hsame hv hdg kk
theorem x_put (hE : xE p s m args meth c cc own G nL ret) (hD : xD G A H0 w sz H locs) {ref C : String} {T : u_T} {N ci index : Nat} {fs : List Value} (hw : w a = some (.inr (ci, fs))) (hc : vwCl[ci]? = some (C, T, N)) (hin : ∀ w ∈ u_ws C T N, w ∈ xU) (ty0 : Nat → FieldType) (hty : ∀ k, k < N → parseFieldDescriptor (T k).2.2.1 = some (ty0 k)) (hnm : ∀ a, a < N → ∀ b, b < N → a ≠ b → (T a).2.1 ≠ (T b).2.1) (k : Nat) (hk : k < N) (hlink : Cond.fieldLink own index ref (T k).2.1 (T k).2.2.1 ∈ xU) (hsame : ∀ x, s.fieldFound? (T k).1 (T k).2.1 (T k).2.2.1 = some x → s.fieldFound? ref (T k).2.1 (T k).2.2.1 = some x) (hfin : (T k).2.2.2 = false) {ty : FieldType} {v : Value} (hd : parseFieldDescriptor (T k).2.2.1 = some ty) (hn : narrow ty v = v) (hfit : fits ty v = true) (hl : k < fs.length) (hdg : decode cc pc = .ok (.putfield index, 3))
    (kk : ∀ (H1 : Heap) (locs1 : List Loc), xD G A H0 (va_up w a (some (.inr (ci, fs.set k v)))) sz H1 locs1 → W p l e R s m args below meth c H1 locs1 cells slots Q (F0 m (pc + 3) ls rest)) : W p l e R s m args below meth c H locs cells slots Q (F0 m pc ls (v :: .ref a :: rest)) := by
  obtain ⟨hexec, hb, hown, hts, ⟨hK, -⟩, -⟩ := id hE
  have hap := va_apart (own := own) (s := s) hts hin ty0 hty hnm hK hc
  obtain ⟨r, h1, cell, q1, q2, q3, q4⟩ := (hD.1.1 _ _ hw).2
  have hr : r = (C, T, N) := Option.some.inj (h1.symm.trans hc)
  subst hr
  obtain ⟨hS, hfc, kC, hkC, hkind⟩ := hK.1 ci _ hc
  obtain ⟨cf, kf, fi, f, hi, hsl⟩ := hS k hk
  have hlay := hts _ (hin _ (u_in_lay hk))
  unfold u_lay at hlay
  rw [if_neg (by rw [hfin]; decide)] at hlay
  have hst := (u_facts hfc hkC (u_lays hts hin hk) hi).1
  have h6 := u_store hfc hkC hkind hlay hi hd hn hfit
  refine W.putK hexec hb (f := f) ⟨hown, hts _ hlink, ⟨_, _, _, hsame _ hi⟩, hst⟩ (by rw [q2]; exact h6) q1 q3 (by rw [hsl]; exact k2_hasslot (q4 k hk)) rfl rfl hdg fun H' e1 e2 e3 => ?_
  rw [hsl] at e1 ⊢
  exact kk H' _ (hD.put hw ⟨_, hc, t_OB.to (V := updV (vp_V fs) k v) ⟨_, e1, q2, q3, t_set q4 hap hk v⟩ (fun j _ => vp_updV_set hl v j)⟩ e2 e3)
theorem x_putF (hE : xE p s m args meth c cc own G nL ret) (hD : xD G A H0 w sz H locs) {ref C : String} {T : u_T} {N ci index : Nat} {fs : List Value} (hw : w a = some (.inr (ci, fs))) (hc : vwCl[ci]? = some (C, T, N)) (hin : ∀ w ∈ u_ws C T N, w ∈ xU) (ty0 : Nat → FieldType) (hty : ∀ k, k < N → parseFieldDescriptor (T k).2.2.1 = some (ty0 k)) (hnm : ∀ a, a < N → ∀ b, b < N → a ≠ b → (T a).2.1 ≠ (T b).2.1) (k : Nat) (hk : k < N) (hlink : Cond.fieldLink own index ref (T k).2.1 (T k).2.2.1 ∈ xU) (hsame : ∀ x, s.fieldFound? (T k).1 (T k).2.1 (T k).2.2.1 = some x → s.fieldFound? ref (T k).2.1 (T k).2.2.1 = some x) (hfin : (T k).2.2.2 = true) (hin2 : meth.name = "<init>") (hdecl : (T k).1 = own) {ty : FieldType} {v : Value} (hd : parseFieldDescriptor (T k).2.2.1 = some ty) (hn : narrow ty v = v) (hfit : fits ty v = true) (hl : k < fs.length) (hdg : decode cc pc = .ok (.putfield index, 3))
    (kk : ∀ (H1 : Heap) (locs1 : List Loc), xD G A H0 (va_up w a (some (.inr (ci, fs.set k v)))) sz H1 locs1 → W p l e R s m args below meth c H1 locs1 cells slots Q (F0 m (pc + 3) ls rest)) : W p l e R s m args below meth c H locs cells slots Q (F0 m pc ls (v :: .ref a :: rest)) := by
  obtain ⟨hexec, hb, hown, hts, ⟨hK, -⟩, -⟩ := id hE
  have hap := va_apart (own := own) (s := s) hts hin ty0 hty hnm hK hc
  obtain ⟨r, h1, cell, q1, q2, q3, q4⟩ := (hD.1.1 _ _ hw).2
  have hr : r = (C, T, N) := Option.some.inj (h1.symm.trans hc)
  subst hr
  obtain ⟨hS, hfc, kC, hkC, hkind⟩ := hK.1 ci _ hc
  obtain ⟨cf, kf, fi, f, hi, hsl⟩ := hS k hk
  have hlay := hts _ (hin _ (u_in_lay hk))
  unfold u_lay at hlay
  rw [if_pos hfin] at hlay
  have hst := (u_facts hfc hkC (u_lays hts hin hk) hi).1
  have hcf : m.cls = cf := by
    obtain ⟨_, _, c', _, _, _, -, -, hf', -, -, -, hown2, -⟩ := Cond.laysFinal_spec hlay
    have e1 : c' = cf := by have := hi.symm.trans hf'; simp at this; exact this.1.symm
    rw [hdecl] at hown2
    rw [← e1]; exact Option.some.inj (hown.symm.trans hown2)
  have h6 := u_fits hfc hkC hkind (Or.inr hlay) hi hd hn hfit
  refine W.putFinK hexec hb hown (hts _ hlink) (hsame _ hi) hst hcf hin2 (by rw [q2]; exact h6) q1 q3 (by rw [hsl]; exact k2_hasslot (q4 k hk)) rfl rfl hdg fun H' e1 e2 e3 => ?_
  rw [hsl] at e1 ⊢
  exact kk H' _ (hD.put hw ⟨_, hc, t_OB.to (V := updV (vp_V fs) k v) ⟨_, e1, q2, q3, t_set q4 hap hk v⟩ (fun j _ => vp_updV_set hl v j)⟩ e2 e3)
theorem x_iald (hE : xE p s m args meth c cc own G nL ret) (hD : xD G A H0 w sz H locs) {n : Nat} {f : Nat → Int32} (hw : w a = some (.inl (G.2.1, n, .inl f))) {i : Int32} (hin : vp_in i n) (hdg : decode cc pc = .ok (.iaload, 1))
    (kk : W p l e R s m args below meth c H locs cells slots Q (F0 m (pc + 1) ls (.int (f i.toNatClampNeg) :: rest))) : W p l e R s m args below meth c H locs cells slots Q (F0 m pc ls (.int i :: .ref a :: rest)) :=
  va_iald (ws := [(a, .inl (G.2.1, n, .inl f))]) hE.1 hE.2.1 hE.2.2.2.2.1.1 (hD.1.one hw) 0 0 rfl rfl hin hdg kk
theorem x_lald (hE : xE p s m args meth c cc own G nL ret) (hD : xD G A H0 w sz H locs) {n : Nat} {f : Nat → Int64} (hw : w a = some (.inl (G.2.2.1, n, .inr (.inl f)))) {i : Int32} (hin : vp_in i n) (hdg : decode cc pc = .ok (.laload, 1))
    (kk : W p l e R s m args below meth c H locs cells slots Q (F0 m (pc + 1) ls (.long (f i.toNatClampNeg) :: rest))) : W p l e R s m args below meth c H locs cells slots Q (F0 m pc ls (.int i :: .ref a :: rest)) :=
  va_lald (ws := [(a, .inl (G.2.2.1, n, .inr (.inl f)))]) hE.1 hE.2.1 hE.2.2.2.2.1.1 (hD.1.one hw) 0 1 rfl rfl hin hdg kk
theorem x_aldB (hE : xE p s m args meth c cc own G nL ret) (hD : xD G A H0 w sz H locs) {n : Nat} {f : Nat → Option Nat} (hw : w a = some (.inl (G.2.2.2.1, n, .inr (.inr (.inr (.inr f)))))) {i : Int32} (hin : vp_in i n) (hdg : decode cc pc = .ok (.aaload, 1))
    (kk : W p l e R s m args below meth c H locs cells slots Q (F0 m (pc + 1) ls (va_rf (f i.toNatClampNeg) :: rest))) : W p l e R s m args below meth c H locs cells slots Q (F0 m pc ls (.int i :: .ref a :: rest)) :=
  va_aldq (C := RX0) (ws := [(a, .inl (G.2.2.2.1, n, .inr (.inr (.inr (.inr f)))))]) hE.1 hE.2.1 hE.2.2.2.2.1.1 (hD.1.one hw) 0 2 rfl rfl hin hdg kk
theorem x_aldR (hE : xE p s m args meth c cc own G nL ret) (hD : xD G A H0 w sz H locs) {n : Nat} {f : Nat → Option Nat} (hw : w a = some (.inl (G.2.2.2.2.1, n, .inr (.inr (.inr (.inr f)))))) {i : Int32} (hin : vp_in i n) (hdg : decode cc pc = .ok (.aaload, 1))
    (kk : W p l e R s m args below meth c H locs cells slots Q (F0 m (pc + 1) ls (va_rf (f i.toNatClampNeg) :: rest))) : W p l e R s m args below meth c H locs cells slots Q (F0 m pc ls (.int i :: .ref a :: rest)) :=
  va_aldq (C := RX8) (ws := [(a, .inl (G.2.2.2.2.1, n, .inr (.inr (.inr (.inr f)))))]) hE.1 hE.2.1 hE.2.2.2.2.1.1 (hD.1.one hw) 0 3 rfl rfl hin hdg kk
theorem x_alen (hE : xE p s m args meth c cc own G nL ret) (hD : xD G A H0 w sz H locs) {x : vp_A} {cA : ClassId} {ty : FieldType} (t0 : Nat) (hw : w a = some (.inl (cA, x))) (ht : (xty G)[t0]? = some (cA, ty)) {v : Int32} (hv : Int32.ofNat x.1 = v) (hdg : decode cc pc = .ok (.arraylength, 1))
    (kk : W p l e R s m args below meth c H locs cells slots Q (F0 m (pc + 1) ls (.int v :: rest))) : W p l e R s m args below meth c H locs cells slots Q (F0 m pc ls (.ref a :: rest)) :=
  va_alen (ws := [(a, .inl (cA, x))]) hE.1 hE.2.1 hE.2.2.2.2.1.1 (hD.1.one hw) 0 t0 rfl ht hv hdg kk
theorem x_iast (hE : xE p s m args meth c cc own G nL ret) (hD : xD G A H0 w sz H locs) {n : Nat} {f : Nat → Int32} (hw : w a = some (.inl (G.2.1, n, .inl f))) {i x : Int32} (hin : vp_in i n) (hdg : decode cc pc = .ok (.iastore, 1))
    (kk : ∀ (H1 : Heap) (locs1 : List Loc), xD G A H0 (va_up w a (some (.inl (G.2.1, n, .inl (upd f i.toNatClampNeg x))))) sz H1 locs1 → W p l e R s m args below meth c H1 locs1 cells slots Q (F0 m (pc + 1) ls rest)) : W p l e R s m args below meth c H locs cells slots Q (F0 m pc ls (.int x :: .int i :: .ref a :: rest)) := by
  refine W.iast hE.1 hE.2.1 (hD.1.1 _ _ hw).2 ((hE.2.2.2.2.1.1.2 0 _ rfl).1 n (fun j => .int (f j))) (fun q => by cases q) (by show ¬ (i < 0 ∨ (arrV _ _ _).slots.size ≤ _); rw [arrV_size]; exact hin) rfl rfl hdg fun H1 e z oq => ?_
  refine kk H1 _ (hD.put hw ?_ z oq)
  show H1[a]? = some (vp_cell _ _)
  rw [e]
  rw [vp_cell_i, vp_cell_i, arrV_store]
  congr 2
  funext q
  by_cases hq : q = i.toNatClampNeg
  · subst hq
    simp [updV, upd]
  · simp [updV, upd, hq]
theorem x_last (hE : xE p s m args meth c cc own G nL ret) (hD : xD G A H0 w sz H locs) {n : Nat} {f : Nat → Int64} (hw : w a = some (.inl (G.2.2.1, n, .inr (.inl f)))) {i : Int32} {x : Int64} (hin : vp_in i n) (hdg : decode cc pc = .ok (.lastore, 1))
    (kk : ∀ (H1 : Heap) (locs1 : List Loc), xD G A H0 (va_up w a (some (.inl (G.2.2.1, n, .inr (.inl (vp_updL f i.toNatClampNeg x)))))) sz H1 locs1 → W p l e R s m args below meth c H1 locs1 cells slots Q (F0 m (pc + 1) ls rest)) : W p l e R s m args below meth c H locs cells slots Q (F0 m pc ls (.long x :: .int i :: .ref a :: rest)) := by
  refine W.last hE.1 hE.2.1 (hD.1.1 _ _ hw).2 ((hE.2.2.2.2.1.1.2 1 _ rfl).1 n (fun j => .long (f j))) (fun q => by cases q) (by show ¬ (i < 0 ∨ (arrV _ _ _).slots.size ≤ _); rw [arrV_size]; exact hin) rfl rfl hdg fun H1 e z oq => ?_
  refine kk H1 _ (hD.put hw ?_ z oq)
  show H1[a]? = some (vp_cell _ _)
  rw [e]
  rw [vp_cell_l, vp_cell_l, arrV_store]
  congr 2
  funext q
  by_cases hq : q = i.toNatClampNeg
  · subst hq
    simp [updV, vp_updL]
  · simp [updV, vp_updL, hq]
/-- a call's way back into the layer -/
theorem xD.back {H1 : Heap} {locs1 : List Loc} {u : xW × Nat} {t : State} (hD : xD G A H0 w sz H locs) (hB : xB G w sz u t) (ht : t.heap = H1) (hS : va_S A H0 H1 locs1) : xD G A H0 u.1 u.2 H1 locs1 := by
  obtain ⟨h1, h2, h3, h4, h5⟩ := hD
  refine ⟨by rw [← ht]; exact hB.1, fun q hq => ?_, hS, h4, by rw [← ht]; exact hB.2.2⟩
  rcases hB.2.1 q hq with g | g
  · exact h2 q g
  · exact h4 q (Nat.le_trans h3.1 (by rw [h5]; exact g))
theorem xD.freeA (hD : xD G A H0 w sz H locs) : ∀ q, xA w sz q → A q := fun q h => by
  obtain ⟨h1, h2, h3, h4, h5⟩ := hD
  rcases h with g | g
  · exact h2 q g
  · exact h4 q (Nat.le_trans h3.1 (by rw [h5]; exact g))
theorem x_pre (hE : xE p s m args meth c cc own G nL ret) (hD : xD G A H0 w sz H locs) (av : List Value) : ∀ U : State, U.heap = H → s.WarmedH U.vm → xPc G w sz av av.toArray U := fun U hU hW => ⟨rfl, by rw [hU]; exact hD.2.2.2.2, by rw [hU]; exact hD.1, va_K.moved hW.alike hE.2.2.2.2.1.1, hE.2.2.2.2.1.2.warm hW⟩
theorem x_recv (hE : xE p s m args meth c cc own G nL ret) (hD : xD G A H0 w sz H locs) {ci : Nat} {q : vw_C} {fs : List Value} (hw : w a = some (.inr (ci, fs))) (hc : vwCl[ci]? = some q) : ∃ cell : Cell, H[a]? = some cell ∧ cell.vm.isStatics = false ∧ s.vm.findClass q.1 = some cell.cls :=
  va_recv hE.2.2.2.2.1.1 (hD.1.one hw) hc (q0 := 0) rfl
variable {y : MethodName} {b : ByteArray} {n d c1 k1 index nA : Nat} {ry : Option FieldType} {As st0 : List Value} {lv : List (Nat × Value)}
/-- a run of a call: of its own class's method -/
def xLV (own : String) (index : Nat) (y : MethodName) (b : ByteArray) (n : Nat) (ry : Option FieldType) (nA : Nat) : Prop := (∀ w ∈ ([.methodLink own index y, .instanceMethod y, .selects y.cls y y, .initialized y.cls] : List Cond) ++ [Cond.code y b n ry], w ∈ xU) ∧ y.cls ≠ "java/lang/invoke/MethodHandle" ∧ y.cls ≠ "java/lang/invoke/VarHandle" ∧ (parseMethodDescriptor y.desc).map (fun d => d.parameters.length) = some nA
def xLS (own : String) (index : Nat) (y : MethodName) (b : ByteArray) (n : Nat) (ry : Option FieldType) (nA : Nat) : Prop := (∀ w ∈ ([.methodLink own index y, .static y, .initialized y.cls] : List Cond) ++ [Cond.code y b n ry], w ∈ xU) ∧ y.cls ≠ "java/lang/invoke/MethodHandle" ∧ y.cls ≠ "java/lang/invoke/VarHandle" ∧ (parseMethodDescriptor y.desc).map (fun d => d.parameters.length) = some nA
theorem x_runV (hE : xE p s m args meth c cc own G nL ret) (hl : lv_has ls nL lv) (hD : xD G A H0 w sz H locs) {Qc : Array Value → State → Outcome → State → Prop} (hM : Met l y (Cond.code y b n ry :: xU) (xR d c1 k1) (xPc G w sz (.ref a :: As)) Qc c1 k1 (xA w sz)) (hk : xLV own index y b n ry nA) {ci : Nat} {q : vw_C} {fs : List Value} (hw : w a = some (.inr (ci, fs))) (hc : vwCl[ci]? = some q) (hq : q.1 = y.cls) (hn : As.length = nA) (hst : st0 = As.reverse ++ .ref a :: rest) (hr : (rest.map fun v => v.category).sum ≤ 8) (hdg : decode cc pc = .ok (.invokevirtual index, 3)) (hR : d + 1 ≤ R.frames ∧ 8 + (n + 11) + 40 * d ≤ R.locals) (hR2 : cells + c1 ≤ R.cells ∧ slots + k1 ≤ R.slots) :
    va_Run p l e R s m args below meth c H locs cells slots c1 k1 (F0 m pc ls st0) rest (Qc (Value.ref a :: As).toArray) (xA w sz) := by
  obtain ⟨hexec, hb, hown, hts, hK, hlk, hml, -⟩ := id hE
  exact va_runV (C := y.cls) ⟨hexec, hb, hml, hown, hts⟩ hM (cwV nA hts (x_inA hk.1) rfl rfl rfl ⟨rfl, hk.2⟩ hR) ⟨xPc_blind _ _ _ _, by rw [← hq]; exact x_recv hE hD hw hc, x_pre hE hD _⟩ rfl hn hl.1 hst (lv_room hr) hdg hR2
theorem x_runS (hE : xE p s m args meth c cc own G nL ret) (hl : lv_has ls nL lv) (hD : xD G A H0 w sz H locs) {Qc : Array Value → State → Outcome → State → Prop} (hM : Met l y (Cond.code y b n ry :: xU) (xR d c1 k1) (xPc G w sz As) Qc c1 k1 (xA w sz)) (hk : xLS own index y b n ry nA) (hn : As.length = nA) (hst : st0 = As.reverse ++ rest) (hr : (rest.map fun v => v.category).sum ≤ 8) (hdg : decode cc pc = .ok (.invokestatic index, 3)) (hR : d + 1 ≤ R.frames ∧ 8 + (n + 11) + 40 * d ≤ R.locals) (hR2 : cells + c1 ≤ R.cells ∧ slots + k1 ≤ R.slots) :
    va_Run p l e R s m args below meth c H locs cells slots c1 k1 (F0 m pc ls st0) rest (Qc As.toArray) (xA w sz) := by
  obtain ⟨hexec, hb, hown, hts, hK, hlk, hml, -⟩ := id hE
  exact va_runS ⟨hexec, hb, hml, hown, hts⟩ hM (va_cwS nA hts (x_inA hk.1) rfl rfl rfl hk.2 hR) ⟨xPc_blind _ _ _ _, x_pre hE hD _⟩ rfl hn hl.1 hst (lv_room hr) hdg hR2
theorem x_ci {post : Int32 → xW × Nat → Prop} {av : Array Value} (hD : xD G A H0 w sz H locs) (hr : va_Run p l e R s m args below meth c H locs cells slots c1 k1 (F0 m pc ls st0) rest (va_Qi post (xB G w sz) (xA w sz) av) (xA w sz))
    (kk : ∀ (r : Int32) (u : xW × Nat) (H1 : Heap) (locs1 : List Loc), post r u → xD G A H0 u.1 u.2 H1 locs1 → W p l e R s m args below meth c H1 locs1 (cells + c1) (slots + k1) Q (F0 m (pc + 3) ls (.int r :: rest))) : W p l e R s m args below meth c H locs cells slots Q (F0 m pc ls st0) :=
  va_calli hr hD.2.2.1 (fun q _ h => hD.freeA q h) hD.freeA (fun r u t H1 locs1 ht _ hp hB _ _ hS => kk r u H1 locs1 hp (hD.back hB ht hS))
theorem x_cl {post : Int64 → xW × Nat → Prop} {av : Array Value} (hD : xD G A H0 w sz H locs) (hr : va_Run p l e R s m args below meth c H locs cells slots c1 k1 (F0 m pc ls st0) rest (va_Ql post (xB G w sz) (xA w sz) av) (xA w sz))
    (kk : ∀ (r : Int64) (u : xW × Nat) (H1 : Heap) (locs1 : List Loc), post r u → xD G A H0 u.1 u.2 H1 locs1 → W p l e R s m args below meth c H1 locs1 (cells + c1) (slots + k1) Q (F0 m (pc + 3) ls (.long r :: rest))) : W p l e R s m args below meth c H locs cells slots Q (F0 m pc ls st0) :=
  va_calll hr hD.2.2.1 (fun q _ h => hD.freeA q h) hD.freeA (fun r u t H1 locs1 ht _ hp hB _ _ hS => kk r u H1 locs1 hp (hD.back hB ht hS))
theorem x_cv {post : xW × Nat → Prop} {av : Array Value} (hD : xD G A H0 w sz H locs) (hr : va_Run p l e R s m args below meth c H locs cells slots c1 k1 (F0 m pc ls st0) rest (va_Qv post (xB G w sz) (xA w sz) av) (xA w sz))
    (kk : ∀ (u : xW × Nat) (H1 : Heap) (locs1 : List Loc), post u → xD G A H0 u.1 u.2 H1 locs1 → W p l e R s m args below meth c H1 locs1 (cells + c1) (slots + k1) Q (F0 m (pc + 3) ls rest)) : W p l e R s m args below meth c H locs cells slots Q (F0 m pc ls st0) :=
  va_callv hr hD.2.2.1 (fun q _ h => hD.freeA q h) hD.freeA (fun u t H1 locs1 ht _ hp hB _ _ hS => kk u H1 locs1 hp (hD.back hB ht hS))
theorem x_cq {post : Option Nat → xW × Nat → Prop} {av : Array Value} (hD : xD G A H0 w sz H locs) (hr : va_Run p l e R s m args below meth c H locs cells slots c1 k1 (F0 m pc ls st0) rest (va_Qq post (xB G w sz) (xA w sz) av) (xA w sz))
    (kk : ∀ (r : Option Nat) (u : xW × Nat) (H1 : Heap) (locs1 : List Loc), post r u → xD G A H0 u.1 u.2 H1 locs1 → W p l e R s m args below meth c H1 locs1 (cells + c1) (slots + k1) Q (F0 m (pc + 3) ls (va_rf r :: rest))) : W p l e R s m args below meth c H locs cells slots Q (F0 m pc ls st0) :=
  va_callq hr hD.2.2.1 (fun q _ h => hD.freeA q h) hD.freeA (fun r u t H1 locs1 ht _ hp hB _ _ hS => kk r u H1 locs1 hp (hD.back hB ht hS))
theorem x_endB (hD : xD G (xA w0 s.heap.size) s.heap w sz H locs) {t : State} (ht : t.heap = H) : xB G w0 s.heap.size (w, sz) t ∧ va_F (xA w0 s.heap.size) s t := ⟨⟨by rw [ht]; exact hD.1, hD.2.1, by rw [ht]; exact hD.2.2.2.2⟩, hD.2.2.1.F ht⟩
theorem x_iret {post : Int32 → xW × Nat → Prop} {c2 k2 : Nat} {v : Int32} (hE : xE p s m args meth c cc own G nL (some .int)) (hD : xD G (xA w0 s.heap.size) s.heap w sz H locs) (hp : post v (w, sz)) (hc : cells ≤ c2) (hk : slots ≤ k2) (hdg : decode cc pc = .ok (.ireturn, 1)) : W p l e R s m args below meth c H locs cells slots (xQi G w0 post below args s c2 k2) (F0 m pc ls [.int v]) :=
  W.widen hc hk (W.iret (v := v) hE.1 hE.2.1 hE.2.2.2.2.2.2.2 (fun t ht _ => ⟨⟨v, (w, sz), rfl, hp, (x_endB hD ht).1⟩, (x_endB hD ht).2⟩) hD.2.2.1.2.2 hdg hE.2.2.2.2.2.1)
theorem x_zret {post : Int32 → xW × Nat → Prop} {c2 k2 : Nat} {v : Int32} (hE : xE p s m args meth c cc own G nL (some .boolean)) (hD : xD G (xA w0 s.heap.size) s.heap w sz H locs) (hv : v = 0 ∨ v = 1) (hp : post v (w, sz)) (hc : cells ≤ c2) (hk : slots ≤ k2) (hdg : decode cc pc = .ok (.ireturn, 1)) : W p l e R s m args below meth c H locs cells slots (xQi G w0 post below args s c2 k2) (F0 m pc ls [.int v]) :=
  W.widen hc hk (W.zret (v := v) hE.1 hE.2.1 hE.2.2.2.2.2.2.2 (by rcases hv with h | h <;> subst h <;> rfl) (fun t ht _ => ⟨⟨v, (w, sz), rfl, hp, (x_endB hD ht).1⟩, (x_endB hD ht).2⟩) hD.2.2.1.2.2 hdg hE.2.2.2.2.2.1)
theorem x_lret {post : Int64 → xW × Nat → Prop} {c2 k2 : Nat} {v : Int64} (hE : xE p s m args meth c cc own G nL (some .long)) (hD : xD G (xA w0 s.heap.size) s.heap w sz H locs) (hp : post v (w, sz)) (hc : cells ≤ c2) (hk : slots ≤ k2) (hdg : decode cc pc = .ok (.lreturn, 1)) : W p l e R s m args below meth c H locs cells slots (xQl G w0 post below args s c2 k2) (F0 m pc ls [.long v]) :=
  W.widen hc hk (W.lret (v := v) hE.1 hE.2.1 hE.2.2.2.2.2.2.2 (fun t ht _ => ⟨⟨v, (w, sz), rfl, hp, (x_endB hD ht).1⟩, (x_endB hD ht).2⟩) hD.2.2.1.2.2 hdg hE.2.2.2.2.2.1)
theorem x_vret {post : xW × Nat → Prop} {c2 k2 : Nat} (hE : xE p s m args meth c cc own G nL none) (hD : xD G (xA w0 s.heap.size) s.heap w sz H locs) (hp : post (w, sz)) (hc : cells ≤ c2) (hk : slots ≤ k2) (hdg : decode cc pc = .ok (.return_, 1)) : W p l e R s m args below meth c H locs cells slots (xQv G w0 post below args s c2 k2) (F0 m pc ls []) :=
  W.widen hc hk (W.vret hE.1 hE.2.1 hE.2.2.2.2.2.2.2 (fun t ht _ => ⟨⟨(w, sz), rfl, hp, (x_endB hD ht).1⟩, (x_endB hD ht).2⟩) hD.2.2.1.2.2 hdg hE.2.2.2.2.2.1)
theorem x_qret {post : Option Nat → xW × Nat → Prop} {c2 k2 : Nat} {v : Option Nat} {C : String} (hE : xE p s m args meth c cc own G nL (some (.object C))) (hD : xD G (xA w0 s.heap.size) s.heap w sz H locs) (hp : post v (w, sz)) (hc : cells ≤ c2) (hk : slots ≤ k2) (hdg : decode cc pc = .ok (.areturn, 1)) : W p l e R s m args below meth c H locs cells slots (xQq G w0 post below args s c2 k2) (F0 m pc ls [va_rf v]) :=
  W.widen hc hk (W.aret (v := va_rf v) hE.1 hE.2.1 hE.2.2.2.2.2.2.2 (Or.inl ⟨C, rfl⟩) (by cases v with | none => exact Or.inl rfl | some a => exact Or.inr ⟨a, rfl⟩) (fun t ht _ => ⟨⟨v, (w, sz), rfl, hp, (x_endB hD ht).1⟩, (x_endB hD ht).2⟩) hD.2.2.1.2.2 hdg hE.2.2.2.2.2.1)
end XR
theorem x_start {l : Launch} {y : MethodName} {b : ByteArray} {n : Nat} {ret : Option FieldType} {d c k : Nat} {G : xG} {w : xW} {sz : Nat} {av : List Value} {Qc : Nat → Array Value → State → Outcome → State → Prop} (hy : plainName y.cls = true) (hav : (lg_sl av).length ≤ n)
    (body : ∀ (p : Program) (e : Env) (s : State) (m : MethodId) (args : Array Value) (below : List Frame) (meth : Method) (cd : Code) (ls : Array Slot), xE p s m args meth cd b y.cls G n ret → meth.name = y.name → lv_has ls n (lv_args 0 av) → xD G (xA w s.heap.size) s.heap w sz s.heap [] →
      W p l e (xR d c k) s m args below meth cd s.heap [] 0 0 (MQ below (Qc s.heap.size) args s c k (xA w s.heap.size)) (F0 m 0 ls [])) : Met l y (Cond.code y b n ret :: xU) (xR d c k) (xPc G w sz av) (Qc sz) c k (xA w sz) := by
  refine Met.ofW (cc := b) (maxL := n) (ret := ret) hy rfl ?_
  intro p e s m args below meth c₀ s₁ B hml hv
  obtain ⟨rfl, hsz, hH, hK⟩ := hv
  subst hsz
  have hts := atoms_spec (ws := Cond.code y b n ret :: xU) B.pre
  have hl := lv_entry av (n := n) hav
  rw [lg_entry_eq]
  exact body p e s m _ below meth c₀ _ ⟨B.exec, B.bytes, findClass_of_methodNamed B.named, fun w hw => hts w (List.mem_cons_of_mem _ hw), hK, B.notSynchronized, hml, B.returns⟩ (name_of_methodNamed B.named B.method).1 hl ⟨hH, fun q h => Or.inl h, va_S.rf, fun q h => Or.inr h, rfl⟩
theorem x_startI {l : Launch} {y : MethodName} {b : ByteArray} {n : Nat} {ret : Option FieldType} {d c k : Nat} {G : xG} {w : xW} {sz : Nat} {av : List Value} {post : Int32 → xW × Nat → Prop} (hy : plainName y.cls = true) (hav : (lg_sl av).length ≤ n)
    (body : ∀ (p : Program) (e : Env) (s : State) (m : MethodId) (args : Array Value) (below : List Frame) (meth : Method) (cd : Code) (ls : Array Slot), xE p s m args meth cd b y.cls G n ret → meth.name = y.name → lv_has ls n (lv_args 0 av) → xD G (xA w s.heap.size) s.heap w sz s.heap [] →
      W p l e (xR d c k) s m args below meth cd s.heap [] 0 0 (xQi G w post below args s c k) (F0 m 0 ls [])) : xMi l G y b n ret d c k av w sz post :=
  x_start (Qc := fun z => va_Qi post (xB G w z) (xA w z)) hy hav body
theorem x_startL {l : Launch} {y : MethodName} {b : ByteArray} {n : Nat} {ret : Option FieldType} {d c k : Nat} {G : xG} {w : xW} {sz : Nat} {av : List Value} {post : Int64 → xW × Nat → Prop} (hy : plainName y.cls = true) (hav : (lg_sl av).length ≤ n)
    (body : ∀ (p : Program) (e : Env) (s : State) (m : MethodId) (args : Array Value) (below : List Frame) (meth : Method) (cd : Code) (ls : Array Slot), xE p s m args meth cd b y.cls G n ret → meth.name = y.name → lv_has ls n (lv_args 0 av) → xD G (xA w s.heap.size) s.heap w sz s.heap [] →
      W p l e (xR d c k) s m args below meth cd s.heap [] 0 0 (xQl G w post below args s c k) (F0 m 0 ls [])) : xMl l G y b n ret d c k av w sz post :=
  x_start (Qc := fun z => va_Ql post (xB G w z) (xA w z)) hy hav body
theorem x_startV {l : Launch} {y : MethodName} {b : ByteArray} {n : Nat} {ret : Option FieldType} {d c k : Nat} {G : xG} {w : xW} {sz : Nat} {av : List Value} {post : xW × Nat → Prop} (hy : plainName y.cls = true) (hav : (lg_sl av).length ≤ n)
    (body : ∀ (p : Program) (e : Env) (s : State) (m : MethodId) (args : Array Value) (below : List Frame) (meth : Method) (cd : Code) (ls : Array Slot), xE p s m args meth cd b y.cls G n ret → meth.name = y.name → lv_has ls n (lv_args 0 av) → xD G (xA w s.heap.size) s.heap w sz s.heap [] →
      W p l e (xR d c k) s m args below meth cd s.heap [] 0 0 (xQv G w post below args s c k) (F0 m 0 ls [])) : xMv l G y b n ret d c k av w sz post :=
  x_start (Qc := fun z => va_Qv post (xB G w z) (xA w z)) hy hav body
theorem x_startQ {l : Launch} {y : MethodName} {b : ByteArray} {n : Nat} {ret : Option FieldType} {d c k : Nat} {G : xG} {w : xW} {sz : Nat} {av : List Value} {post : Option Nat → xW × Nat → Prop} (hy : plainName y.cls = true) (hav : (lg_sl av).length ≤ n)
    (body : ∀ (p : Program) (e : Env) (s : State) (m : MethodId) (args : Array Value) (below : List Frame) (meth : Method) (cd : Code) (ls : Array Slot), xE p s m args meth cd b y.cls G n ret → meth.name = y.name → lv_has ls n (lv_args 0 av) → xD G (xA w s.heap.size) s.heap w sz s.heap [] →
      W p l e (xR d c k) s m args below meth cd s.heap [] 0 0 (xQq G w post below args s c k) (F0 m 0 ls [])) : xMq l G y b n ret d c k av w sz post :=
  x_start (Qc := fun z => va_Qq post (xB G w z) (xA w z)) hy hav body
