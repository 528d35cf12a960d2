/-! ===== the law: walk over a relation of the two states and its steps (printed by wip/whole/gen/run6.py) ===== -/
section LR
variable {p : Program} {l : Launch} {e : Env} {R : Room} {s : State} {m : MethodId} {args : Array Value} {below : List Frame} {meth : Method} {c : Code} {H : Heap} {locs : List Loc} {cells slots : Nat} {Q : State → Prop}
variable {cc : ByteArray} {own : String} {pc : Nat} {ls : Array Slot} {rest : List Value} {G : xG} {A : Nat → Prop} {a nL sz : Nat} {w w2 : xW} {H0 : Heap} {ret : Option FieldType}
variable {y : MethodName} {b : ByteArray} {n d c1 k1 index nA : Nat} {ry : Option FieldType} {As st0 : List Value} {lv : List (Nat × Value)}
theorem xD.side {u : xW × Nat} {t : State} {H1 : Heap} {locs1 : List Loc} (hD : xD G A H0 w sz H locs) (hD2 : xD G A H0 w2 sz H locs) (hd : ∀ q, w q = none ∨ w2 q = none) (hB : xB G w sz u t) (ht : t.heap = H1) (hk : ∀ q : Nat, q < H.size → ¬ xA w sz q → H1[q]? = H[q]?) (hz : H.size ≤ H1.size) (hS : va_S A H0 H1 locs1) : xD G A H0 w2 u.2 H1 locs1 ∧ ∀ q, u.1 q = none ∨ w2 q = none := by
  have hn := hD.back hB ht hS
  have hsz := hD2.2.2.2.2
  have key : ∀ (q : Nat) (x : va_E), w2 q = some x → ¬ xA w sz q ∧ q < H.size := fun q x hq => by
    have hlt := (hD2.1.1 q x hq).2.lt
    refine ⟨fun h => ?_, hlt⟩
    rcases h with h | h
    · rcases hd q with g | g
      · exact h g
      · rw [g] at hq; cases hq
    · exact Nat.lt_irrefl _ (Nat.lt_of_lt_of_le hlt (by rw [hsz]; exact h))
  refine ⟨⟨⟨fun q x hq => ⟨(hD2.1.1 q x hq).1, (hD2.1.1 q x hq).2.kept (hk q (key q x hq).2 (key q x hq).1)⟩, hn.1.2.1, hn.1.2.2⟩, hD2.2.1, hS, hD2.2.2.2.1, hn.2.2.2.2⟩, fun q => ?_⟩
  cases hw2 : w2 q with
  | none => exact Or.inr rfl
  | some x =>
    left
    cases hu : u.1 q with
    | none => rfl
    | some z => exact absurd (hB.2.1 q (by rw [hu]; exact fun h => by cases h)) (key q x hw2).1
theorem kFi (hE : xE p s m args meth c cc own G nL ret) (hl : lv_has ls nL lv) (hD : xD G A H0 w sz H locs) (hD2 : xD G A H0 w2 sz H locs) (hd : ∀ q, w q = none ∨ w2 q = none) {v : Int32} {u' : xW × Nat} (hM : xMi l G y b n ry d c1 k1 (.ref a :: As) w sz (fun r u => r = v ∧ u = u')) (hk : xLV own index y b n ry nA) {ci : Nat} {q : vw_C} {fs : List Value} (hw : w a = some (.inr (ci, fs))) (hc : vwCl[ci]? = some q) (hq : q.1 = y.cls) (hn : As.length = nA) (hst : st0 = As.reverse ++ .ref a :: rest) (hr : (rest.map fun v => v.category).sum ≤ 8) (hdg : decode cc pc = .ok (.invokevirtual index, 3)) (hR : d + 1 ≤ R.frames ∧ 8 + (n + 11) + 40 * d ≤ R.locals) (hR2 : cells + c1 ≤ R.cells ∧ slots + k1 ≤ R.slots) (kk : ∀ (H1 : Heap) (locs1 : List Loc), xD G A H0 u'.1 u'.2 H1 locs1 → xD G A H0 w2 u'.2 H1 locs1 → (∀ q, u'.1 q = none ∨ w2 q = none) → W p l e R s m args below meth c H1 locs1 (cells + c1) (slots + k1) Q (F0 m (pc + 3) ls (.int v :: rest))) : W p l e R s m args below meth c H locs cells slots Q (F0 m pc ls st0) :=
  va_calli (x_runV hE hl hD hM hk hw hc hq hn hst hr hdg hR hR2) hD.2.2.1 (fun q _ h => hD.freeA q h) hD.freeA (fun r u t H1 locs1 ht _ hp hB hz hk1 hS => by
    obtain ⟨rfl, rfl⟩ := hp
    have hs := hD.side hD2 hd hB ht hk1 hz hS
    exact kk H1 locs1 (hD.back hB ht hS) hs.1 hs.2)
theorem kFl (hE : xE p s m args meth c cc own G nL ret) (hl : lv_has ls nL lv) (hD : xD G A H0 w sz H locs) (hD2 : xD G A H0 w2 sz H locs) (hd : ∀ q, w q = none ∨ w2 q = none) {v : Int64} {u' : xW × Nat} (hM : xMl l G y b n ry d c1 k1 (.ref a :: As) w sz (fun r u => r = v ∧ u = u')) (hk : xLV own index y b n ry nA) {ci : Nat} {q : vw_C} {fs : List Value} (hw : w a = some (.inr (ci, fs))) (hc : vwCl[ci]? = some q) (hq : q.1 = y.cls) (hn : As.length = nA) (hst : st0 = As.reverse ++ .ref a :: rest) (hr : (rest.map fun v => v.category).sum ≤ 8) (hdg : decode cc pc = .ok (.invokevirtual index, 3)) (hR : d + 1 ≤ R.frames ∧ 8 + (n + 11) + 40 * d ≤ R.locals) (hR2 : cells + c1 ≤ R.cells ∧ slots + k1 ≤ R.slots) (kk : ∀ (H1 : Heap) (locs1 : List Loc), xD G A H0 u'.1 u'.2 H1 locs1 → xD G A H0 w2 u'.2 H1 locs1 → (∀ q, u'.1 q = none ∨ w2 q = none) → W p l e R s m args below meth c H1 locs1 (cells + c1) (slots + k1) Q (F0 m (pc + 3) ls (.long v :: rest))) : W p l e R s m args below meth c H locs cells slots Q (F0 m pc ls st0) :=
  va_calll (x_runV hE hl hD hM hk hw hc hq hn hst hr hdg hR hR2) hD.2.2.1 (fun q _ h => hD.freeA q h) hD.freeA (fun r u t H1 locs1 ht _ hp hB hz hk1 hS => by
    obtain ⟨rfl, rfl⟩ := hp
    have hs := hD.side hD2 hd hB ht hk1 hz hS
    exact kk H1 locs1 (hD.back hB ht hS) hs.1 hs.2)
theorem kFIv (hE : xE p s m args meth c cc own G nL ret) (hl : lv_has ls nL lv) (hD : xD G A H0 w sz H locs) (hD2 : xD G A H0 w2 sz H locs) (hd : ∀ q, w q = none ∨ w2 q = none) {u' : xW × Nat} (hM : xMv l G y b n none d c1 k1 (.ref a :: As) w sz (fun u => u = u')) (hk : xLI own index y b n nA) (hn : As.length = nA) (hst : st0 = As.reverse ++ .ref a :: rest) (hr : (rest.map fun v => v.category).sum ≤ 8) (hdg : decode cc pc = .ok (.invokespecial index, 3)) (hR : d + 1 ≤ R.frames ∧ 8 + (n + 11) + 40 * d ≤ R.locals) (hR2 : cells + c1 ≤ R.cells ∧ slots + k1 ≤ R.slots) (kk : ∀ (H1 : Heap) (locs1 : List Loc), xD G A H0 u'.1 u'.2 H1 locs1 → xD G A H0 w2 u'.2 H1 locs1 → (∀ q, u'.1 q = none ∨ w2 q = none) → W p l e R s m args below meth c H1 locs1 (cells + c1) (slots + k1) Q (F0 m (pc + 3) ls rest)) : W p l e R s m args below meth c H locs cells slots Q (F0 m pc ls st0) :=
  va_callv (x_runI hE hl hD hM hk hn hst hr hdg hR hR2) hD.2.2.1 (fun q _ h => hD.freeA q h) hD.freeA (fun u t H1 locs1 ht _ hp hB hz hk1 hS => by
    subst hp
    have hs := hD.side hD2 hd hB ht hk1 hz hS
    exact kk H1 locs1 (hD.back hB ht hS) hs.1 hs.2)
/-- a new object beside another world -/
theorem x_newF (hE : xE p s m args meth c cc own G nL ret) (hD : xD G A H0 w sz H locs) (hD2 : xD G A H0 w2 sz H locs) {C : String} {T : u_T} {N ci index : Nat} (ty : Nat → FieldType) (hty : ∀ k, k < N → parseFieldDescriptor (T k).2.2.1 = some (ty k)) (hin : ∀ w ∈ u_ws C T N, w ∈ xU) (hcl : Cond.classLink own index C ∈ xU) (hinst : Cond.instantiable C N ∈ xU) (hini : Cond.initialized C ∈ xU) (hc : vwCl[ci]? = some (C, T, N)) {fs : List Value} (hfs : ∀ j, j < N → defaultValue (ty j) = vp_V fs j) (hcells : cells + 1 ≤ R.cells) (hslots : slots + N ≤ R.slots) (hdg : decode cc pc = .ok (.new index, 3))
    (kk : ∀ H1 : Heap, xD G A H0 (va_up w sz (some (.inr (ci, fs)))) (sz + 1) H1 locs → xD G A H0 w2 (sz + 1) H1 locs → W p l e R s m args below meth c H1 locs (cells + 1) (slots + N) Q (F0 m (pc + 3) ls (.ref sz :: rest))) : W p l e R s m args below meth c H locs cells slots Q (F0 m pc ls rest) := by
  obtain ⟨hexec, hb, hown, hts, ⟨hK, -⟩, -⟩ := id hE
  have hsz := hD.2.2.2.2
  have hKn := hK.1 ci _ hc
  refine W.newcK hexec hb hown (hts _ hcl) (hts _ hinst) (hts _ hini) rfl hdg hcells hslots hKn.2.1 hsz fun H1 kC hkC e1 z1 o1 => ?_
  have hn := hD.push (e := .inr (ci, fs)) ⟨_, hc, (u_born ty hts hin hKn hkC e1 hty).to hfs⟩ z1 o1
  refine kk H1 hn ⟨⟨fun q x hq => ⟨(hD2.1.1 q x hq).1, (hD2.1.1 q x hq).2.kept (o1 q (by rw [← hsz]; exact (hD2.1.1 q x hq).2.lt))⟩, hn.1.2.1, hn.1.2.2⟩, hD2.2.1, hn.2.2.1, hn.2.2.2.1, z1⟩
end LR
def sT_bridge (RR : xT → Nat → xS → Prop) : Prop := ∀ (t : xT) (a : Nat) (u : xS) (z0 : Int32) (z1 : Int32) (z2 : Int32) (z3 : Int32), RR t a u → ∃ (v : Int32) (t' : xT) (u' : xS), F_X11_bridge t a z0 z1 z2 z3 = some (v, t') ∧ F_X12_bridge u z0 z1 z2 z3 = some (v, u') ∧ RR t' a u'
def sT_bridgeOf (RR : xT → Nat → xS → Prop) : Prop := ∀ (t : xT) (a : Nat) (u : xS) (z0 : Int32) (z1 : Int32), RR t a u → ∃ (v : Int32) (u' : xS), F_X11_bridgeOf t a z0 z1 = some v ∧ F_X12_bridgeOf u z0 z1 = some (v, u') ∧ RR t a u'
def sT_change (RR : xT → Nat → xS → Prop) : Prop := ∀ (t : xT) (a : Nat) (u : xS) (z0 : Int32) (z1 : Int32) (z2 : Int32), RR t a u → ∃ (v : Int32) (t' : xT) (u' : xS), F_X11_change t a z0 z1 z2 = some (v, t') ∧ F_X12_change u z0 z1 z2 = some (v, u') ∧ RR t' a u'
def sT_mend (RR : xT → Nat → xS → Prop) : Prop := ∀ (t : xT) (a : Nat) (u : xS) (z0 : Int32) (z1 : Int32), RR t a u → ∃ (v : Int32) (t' : xT) (u' : xS), F_X11_mend t a z0 z1 = some (v, t') ∧ F_X12_mend u z0 z1 = some (v, u') ∧ RR t' a u'
def sT_day (RR : xT → Nat → xS → Prop) : Prop := ∀ (t : xT) (a : Nat) (u : xS) (z0 : Int32), RR t a u → ∃ (v : Int32) (t' : xT) (u' : xS), F_X11_day t a z0 = some (v, t') ∧ F_X12_day u z0 = some (v, u') ∧ RR t' a u'
def sT_feed (RR : xT → Nat → xS → Prop) : Prop := ∀ (t : xT) (a : Nat) (u : xS) (z0 : Int64) (z1 : Int32), RR t a u → ∃ (v : Int32) (t' : xT) (u' : xS), F_X11_feed t a z0 z1 = some (v, t') ∧ F_X12_feed u z0 z1 = some (v, u') ∧ RR t' a u'
def sT_law (RR : xT → Nat → xS → Prop) : Prop := ∀ (t : xT) (a : Nat) (u : xS) , RR t a u → ∃ (v : Int32) (t' : xT) (u' : xS), F_X11_law t a = some (v, t') ∧ F_X12_law u = some (v, u') ∧ RR t' a u'
def sT_person (RR : xT → Nat → xS → Prop) : Prop := ∀ (t : xT) (a : Nat) (u : xS) (z0 : Int32), RR t a u → ∃ (v : Int32) (t' : xT) (u' : xS), F_X11_person t a z0 = some (v, t') ∧ F_X12_person u z0 = some (v, u') ∧ RR t' a u'
def sT_personOf (RR : xT → Nat → xS → Prop) : Prop := ∀ (t : xT) (a : Nat) (u : xS) (z0 : Int32) (z1 : Int32), RR t a u → ∃ (v : Int32), F_X11_personOf t a z0 z1 = some v ∧ F_X12_personOf u z0 z1 = some v ∧ RR t a u
def sT_purse (RR : xT → Nat → xS → Prop) : Prop := ∀ (t : xT) (a : Nat) (u : xS) (z0 : Int32) (z1 : Int32), RR t a u → ∃ (v : Int32) (t' : xT) (u' : xS), F_X11_purse t a z0 z1 = some (v, t') ∧ F_X12_purse u z0 z1 = some (v, u') ∧ RR t' a u'
def sT_cross (RR : xT → Nat → xS → Prop) : Prop := ∀ (t : xT) (a : Nat) (u : xS) (z0 : Int32) (z1 : Int32), RR t a u → ∃ (v : Int32) (t' : xT) (u' : xS), F_X11_cross t a z0 z1 = some (v, t') ∧ F_X12_cross u z0 z1 = some (v, u') ∧ RR t' a u'
def sT_pool (RR : xT → Nat → xS → Prop) : Prop := ∀ (t : xT) (a : Nat) (u : xS) (z0 : Int32) (z1 : Int32) (z2 : Int32), RR t a u → ∃ (v : Int32) (t' : xT) (u' : xS), F_X11_pool t a z0 z1 z2 = some (v, t') ∧ F_X12_pool u z0 z1 z2 = some (v, u') ∧ RR t' a u'
def sT_gives (RR : xT → Nat → xS → Prop) : Prop := ∀ (t : xT) (a : Nat) (u : xS) (z0 : Int32) (z1 : Int32) (z2 : Int32), RR t a u → ∃ (v : Int32) (t' : xT) (u' : xS), F_X11_gives t a z0 z1 z2 = some (v, t') ∧ F_X12_gives u z0 z1 z2 = some (v, u') ∧ RR t' a u'
def sT_after (RR : xT → Nat → xS → Prop) : Prop := ∀ (t : xT) (a : Nat) (u : xS) (z0 : Int32) (z1 : Int32) (z2 : Int32), RR t a u → ∃ (v : Int32) (u' : xS), F_X11_after t a z0 z1 z2 = some v ∧ F_X12_after u z0 z1 z2 = some (v, u') ∧ RR t a u'
def sT_need (RR : xT → Nat → xS → Prop) : Prop := ∀ (t : xT) (a : Nat) (u : xS) (z0 : Int32) (z1 : Int32), RR t a u → ∃ (v : Int32) (u' : xS), F_X11_need t a z0 z1 = some v ∧ F_X12_need u z0 z1 = some (v, u') ∧ RR t a u'
def sT_ever (RR : xT → Nat → xS → Prop) : Prop := ∀ (t : xT) (a : Nat) (u : xS) (z0 : Int32), RR t a u → ∃ (v : Int32) (u' : xS), F_X11_ever t a z0 = some v ∧ F_X12_ever u z0 = some (v, u') ∧ RR t a u'
def sT_same (RR : xT → Nat → xS → Prop) : Prop := ∀ (t : xT) (a : Nat) (u : xS) (z0 : Int32), RR t a u → ∃ (v : Int32) (u' : xS), F_X11_same t a z0 = some v ∧ F_X12_same u z0 = some (v, u') ∧ RR t a u'
def sT_few (RR : xT → Nat → xS → Prop) : Prop := ∀ (t : xT) (a : Nat) (u : xS) (z0 : Int32) (z1 : Int32) (z2 : Int32), RR t a u → ∃ (v : Int32) (u' : xS), F_X11_few t a z0 z1 z2 = some v ∧ F_X12_few u z0 z1 z2 = some (v, u') ∧ RR t a u'
def sT_back (RR : xT → Nat → xS → Prop) : Prop := ∀ (t : xT) (a : Nat) (u : xS) (z0 : Int32) (z1 : Int32) (z2 : Int32) (z3 : Int32), RR t a u → ∃ (v : Int32) (u' : xS), F_X11_back t a z0 z1 z2 z3 = some v ∧ F_X12_back u z0 z1 z2 z3 = some (v, u') ∧ RR t a u'
def sT_rich (RR : xT → Nat → xS → Prop) : Prop := ∀ (t : xT) (a : Nat) (u : xS) (z0 : Int32) (z1 : Int32), RR t a u → ∃ (v : Int32) (t' : xT) (u' : xS), F_X11_rich t a z0 z1 = some (v, t') ∧ F_X12_rich u z0 z1 = some (v, u') ∧ RR t' a u'
def sT_order (RR : xT → Nat → xS → Prop) : Prop := ∀ (t : xT) (a : Nat) (u : xS) (z0 : Int32) (z1 : Int32) (z2 : Int32), RR t a u → ∃ (v : Int32) (t' : xT) (u' : xS), F_X11_order t a z0 z1 z2 = some (v, t') ∧ F_X12_order u z0 z1 z2 = some (v, u') ∧ RR t' a u'
def sT_poor (RR : xT → Nat → xS → Prop) : Prop := ∀ (t : xT) (a : Nat) (u : xS) (z0 : Int32), RR t a u → ∃ (v : Int32) (t' : xT) (u' : xS), F_X11_poor t a z0 = some (v, t') ∧ F_X12_poor u z0 = some (v, u') ∧ RR t' a u'
def sT_fast (RR : xT → Nat → xS → Prop) : Prop := ∀ (t : xT) (a : Nat) (u : xS) (z0 : Int32) (z1 : Int32), RR t a u → ∃ (v : Int32) (u' : xS), F_X11_fast t a z0 z1 = some v ∧ F_X12_fast u z0 z1 = some (v, u') ∧ RR t a u'
def sT_by (RR : xT → Nat → xS → Prop) : Prop := ∀ (t : xT) (a : Nat) (u : xS) (z0 : Int32) (z1 : Int32) (z2 : Int32), RR t a u → ∃ (v : Int32) (t' : xT) (u' : xS), F_X11_by t a z0 z1 z2 = some (v, t') ∧ F_X12_by u z0 z1 z2 = some (v, u') ∧ RR t' a u'
def sT_swap (RR : xT → Nat → xS → Prop) : Prop := ∀ (t : xT) (a : Nat) (u : xS) (z0 : Int32) (z1 : Int32) (z2 : Int32), RR t a u → ∃ (v : Int32) (u' : xS), F_X11_swap t a z0 z1 z2 = some v ∧ F_X12_swap u z0 z1 z2 = some (v, u') ∧ RR t a u'
def sT_devil (RR : xT → Nat → xS → Prop) : Prop := ∀ (t : xT) (a : Nat) (u : xS) (z0 : Int32) (z1 : Int32) (z2 : Int32), RR t a u → ∃ (v : Int32) (t' : xT) (u' : xS), F_X11_devil t a z0 z1 z2 = some (v, t') ∧ F_X12_devil u z0 z1 z2 = some (v, u') ∧ RR t' a u'
def sT_rate (RR : xT → Nat → xS → Prop) : Prop := ∀ (t : xT) (a : Nat) (u : xS) (z0 : Int32) (z1 : Int32) (z2 : Int32), RR t a u → ∃ (v : Int32) (u' : xS), F_X11_rate t a z0 z1 z2 = some v ∧ F_X12_rate u z0 z1 z2 = some (v, u') ∧ RR t a u'
def sT_worth (RR : xT → Nat → xS → Prop) : Prop := ∀ (t : xT) (a : Nat) (u : xS) (z0 : Int32) (z1 : Int32) (z2 : Int32) (z3 : Int32), RR t a u → ∃ (v : Int64) (u' : xS), F_X11_worth t a z0 z1 z2 z3 = some v ∧ F_X12_worth u z0 z1 z2 z3 = some (v, u') ∧ RR t a u'
def sT_stops (RR : xT → Nat → xS → Prop) : Prop := ∀ (t : xT) (a : Nat) (u : xS) (z0 : Int32) (z1 : Int32) (z2 : Int32) (z3 : Int32), RR t a u → ∃ (v : Int32) (u' : xS), F_X11_stops t a z0 z1 z2 z3 = some v ∧ F_X12_stops u z0 z1 z2 z3 = some (v, u') ∧ RR t a u'
def sT_meet (RR : xT → Nat → xS → Prop) : Prop := ∀ (t : xT) (a : Nat) (u : xS) (z0 : Int32) (z1 : Int32) (z2 : Int32) (z3 : Int32), RR t a u → ∃ (v : Int32) (u' : xS), F_X11_meet t a z0 z1 z2 z3 = some v ∧ F_X12_meet u z0 z1 z2 z3 = some (v, u') ∧ RR t a u'
def sT_tale (RR : xT → Nat → xS → Prop) : Prop := ∀ (t : xT) (a : Nat) (u : xS) (z0 : Int32) (z1 : Int32), RR t a u → ∃ (v : Int32) (t' : xT) (u' : xS), F_X11_tale t a z0 z1 = some (v, t') ∧ F_X12_tale u z0 z1 = some (v, u') ∧ RR t' a u'
def sT_forget (RR : xT → Nat → xS → Prop) : Prop := ∀ (t : xT) (a : Nat) (u : xS) , RR t a u → ∃ (v : Int32) (t' : xT) (u' : xS), F_X11_forget t a = some (v, t') ∧ F_X12_forget u = some (v, u') ∧ RR t' a u'
def sT_fits (RR : xT → Nat → xS → Prop) : Prop := ∀ (t : xT) (a : Nat) (u : xS) (z0 : Int32) (z1 : Int32), RR t a u → ∃ (v : Int32) (t' : xT) (u' : xS), F_X11_fits t a z0 z1 = some (v, t') ∧ F_X12_fits u z0 z1 = some (v, u') ∧ RR t' a u'
def sT_liar (RR : xT → Nat → xS → Prop) : Prop := ∀ (t : xT) (a : Nat) (u : xS) (z0 : Int32), RR t a u → ∃ (v : Int32) (t' : xT) (u' : xS), F_X11_liar t a z0 = some (v, t') ∧ F_X12_liar u z0 = some (v, u') ∧ RR t' a u'
def sT_prove (RR : xT → Nat → xS → Prop) : Prop := ∀ (t : xT) (a : Nat) (u : xS) (z0 : Int32) (z1 : Int32) (z2 : Int32), RR t a u → ∃ (v : Int32) (t' : xT) (u' : xS), F_X11_prove t a z0 z1 z2 = some (v, t') ∧ F_X12_prove u z0 z1 z2 = some (v, u') ∧ RR t' a u'
def sT_row (RR : xT → Nat → xS → Prop) : Prop := ∀ (t : xT) (a : Nat) (u : xS) (z0 : Int32) (z1 : Int32), RR t a u → ∃ (v : Int32), F_X11_row t a z0 z1 = some v ∧ F_X12_row u z0 z1 = some v ∧ RR t a u
def sT_alterRow (RR : xT → Nat → xS → Prop) : Prop := ∀ (t : xT) (a : Nat) (u : xS) (z0 : Int32) (z1 : Int32) (z2 : Int32), RR t a u → ∃ (v : Int32) (t' : xT) (u' : xS), F_X11_alterRow t a z0 z1 z2 = some (v, t') ∧ F_X12_alterRow u z0 z1 z2 = some (v, u') ∧ RR t' a u'
def sT_judge (RR : xT → Nat → xS → Prop) : Prop := ∀ (t : xT) (a : Nat) (u : xS) (z0 : Int32), RR t a u → ∃ (v : Int32) (u' : xS), F_X11_judge t a z0 = some v ∧ F_X12_judge u z0 = some (v, u') ∧ RR t a u'
def sT_sheet (RR : xT → Nat → xS → Prop) : Prop := ∀ (t : xT) (a : Nat) (u : xS) (z0 : Int32) (z1 : Int32) (z2 : Int32), RR t a u → ∃ (v : Int32) (t' : xT) (u' : xS), F_X11_sheet t a z0 z1 z2 = some (v, t') ∧ F_X12_sheet u z0 z1 z2 = some (v, u') ∧ RR t' a u'
def sT_write (RR : xT → Nat → xS → Prop) : Prop := ∀ (t : xT) (a : Nat) (u : xS) (z0 : Int32) (z1 : Int32) (z2 : Int32), RR t a u → ∃ (v : Int32) (t' : xT) (u' : xS), F_X11_write t a z0 z1 z2 = some (v, t') ∧ F_X12_write u z0 z1 z2 = some (v, u') ∧ RR t' a u'
def sT_item (RR : xT → Nat → xS → Prop) : Prop := ∀ (t : xT) (a : Nat) (u : xS) (z0 : Int32) (z1 : Int32) (z2 : Int32), RR t a u → ∃ (v : Int32), F_X11_item t a z0 z1 z2 = some v ∧ F_X12_item u z0 z1 z2 = some v ∧ RR t a u
def sT_walks (RR : xT → Nat → xS → Prop) : Prop := ∀ (t : xT) (a : Nat) (u : xS) (z0 : Int32) (z1 : Int32) (z2 : Int32) (z3 : Int32), RR t a u → ∃ (v : Int32) (t' : xT) (u' : xS), F_X11_walks t a z0 z1 z2 z3 = some (v, t') ∧ F_X12_walks u z0 z1 z2 z3 = some (v, u') ∧ RR t' a u'
def sT_shelf (RR : xT → Nat → xS → Prop) : Prop := ∀ (t : xT) (a : Nat) (u : xS) (z0 : Int32) (z1 : Int32) (z2 : Int32), RR t a u → ∃ (v : Int32) (t' : xT) (u' : xS), F_X11_shelf t a z0 z1 z2 = some (v, t') ∧ F_X12_shelf u z0 z1 z2 = some (v, u') ∧ RR t' a u'
def sT_taken (RR : xT → Nat → xS → Prop) : Prop := ∀ (t : xT) (a : Nat) (u : xS) (z0 : Int32) (z1 : Int32), RR t a u → ∃ (v : Int32), F_X11_taken t a z0 z1 = some v ∧ F_X12_taken u z0 z1 = some v ∧ RR t a u
def sT_act (RR : xT → Nat → xS → Prop) : Prop := ∀ (t : xT) (a : Nat) (u : xS) (z0 : Int32) (z1 : Int32) (z2 : Int32), RR t a u → ∃ (v : Int32) (t' : xT) (u' : xS), F_X11_act t a z0 z1 z2 = some (v, t') ∧ F_X12_act u z0 z1 z2 = some (v, u') ∧ RR t' a u'
def sT_trace (RR : xT → Nat → xS → Prop) : Prop := ∀ (t : xT) (a : Nat) (u : xS) (z0 : Int32), RR t a u → ∃ (v : Int32), F_X11_trace t a z0 = some v ∧ F_X12_trace u z0 = some v ∧ RR t a u
def sT_many (RR : xT → Nat → xS → Prop) : Prop := ∀ (t : xT) (a : Nat) (u : xS) (z0 : Int32), RR t a u → ∃ (v : Int32), F_X11_many t a z0 = some v ∧ F_X12_many u z0 = some v ∧ RR t a u
def sT_keep (RR : xT → Nat → xS → Prop) : Prop := ∀ (t : xT) (a : Nat) (u : xS) , RR t a u → ∃ (v : Int32) (t' : xT) (u' : xS), F_X11_keep t a = some (v, t') ∧ F_X12_keep u = some (v, u') ∧ RR t' a u'
def sT_again (RR : xT → Nat → xS → Prop) : Prop := ∀ (t : xT) (a : Nat) (u : xS) , RR t a u → ∃ (v : Int32) (t' : xT) (u' : xS), F_X11_again t a = some (v, t') ∧ F_X12_again u = some (v, u') ∧ RR t' a u'
theorem lg_cmp_self (v : Int64) : lg_cmp v v = 0 := by simp [lg_cmp]
def xSteps (RR : xT → Nat → xS → Prop) : Prop := sT_bridge RR ∧ sT_bridgeOf RR ∧ sT_change RR ∧ sT_mend RR ∧ sT_day RR ∧ sT_feed RR ∧ sT_law RR ∧ sT_person RR ∧ sT_personOf RR ∧ sT_purse RR ∧ sT_cross RR ∧ sT_pool RR ∧ sT_gives RR ∧ sT_after RR ∧ sT_need RR ∧ sT_ever RR ∧ sT_same RR ∧ sT_few RR ∧ sT_back RR ∧ sT_rich RR ∧ sT_order RR ∧ sT_poor RR ∧ sT_fast RR ∧ sT_by RR ∧ sT_swap RR ∧ sT_devil RR ∧ sT_rate RR ∧ sT_worth RR ∧ sT_stops RR ∧ sT_meet RR ∧ sT_tale RR ∧ sT_forget RR ∧ sT_fits RR ∧ sT_liar RR ∧ sT_prove RR ∧ sT_row RR ∧ sT_alterRow RR ∧ sT_judge RR ∧ sT_sheet RR ∧ sT_write RR ∧ sT_item RR ∧ sT_walks RR ∧ sT_shelf RR ∧ sT_taken RR ∧ sT_act RR ∧ sT_trace RR ∧ sT_many RR ∧ sT_keep RR ∧ sT_again RR
set_option maxHeartbeats 1000000 in
theorem lc_bridge {RR : xT → Nat → xS → Prop} {p : Program} {l : Launch} {e : Env} {s : State} {m : MethodId} {below : List Frame} {meth : Method} {cd : Code} {G : xG} {b0 L : Nat} {xs : Nat → Int32} {A : Nat → Prop} {Q : State → Prop} {t : xT} {a b : Nat} {u : xS} {H : Heap} {locs : List Loc} {ls : Array Slot} {cells slots : Nat} {xi : Int32} (hst : sT_bridge RR) (hkx : ∀ {t : xT} {u : xS}, RR t a u → tK t a = 11) (hE : xE p s m #[Value.ref b0] meth cd cL_law RL G 4 ret) (hX : va_X b0 L xs s s.heap) (hbl : b0 < s.heap.size) (hbA : ¬ A b0) (h1 : vp_in (xi + (1 : Int32)) L) (h2 : vp_in (xi + (2 : Int32)) L) (h3 : vp_in (xi + (3 : Int32)) L) (h4 : vp_in (xi + (4 : Int32)) L) (hD1 : xD G A s.heap (tE G t) t.1 H locs) (hD2 : xD G A s.heap (mW G b u) t.1 H locs) (hdj : ∀ q, tE G t q = none ∨ mW G b u q = none) (hRR : RR t a u) (hl : lv_has ls 4 [(0, .ref b0), (1, .ref a), (2, .ref b), (3, .int xi)]) (hc : cells + 10 ≤ 600000) (hk : slots + 357 ≤ 7302250) (kk : ∀ {t1 : xT} {u1 : xS} {H1 : Heap} {locs1 : List Loc} {cells1 slots1 : Nat}, xD G A s.heap (tE G t1) t1.1 H1 locs1 → xD G A s.heap (mW G b u1) t1.1 H1 locs1 → (∀ q, tE G t1 q = none ∨ mW G b u1 q = none) → RR t1 a u1 → cells1 ≤ cells + 10 → slots1 ≤ slots + 357 → W p l e room_1 s m #[Value.ref b0] below meth cd H1 locs1 cells1 slots1 Q (F0 m 2012 ls [])) : W p l e room_1 s m #[Value.ref b0] below meth cd H locs cells slots Q (F0 m 244 ls []) := by
  have hx := hE.1; have hb := hE.2.1
  obtain ⟨v, t2, u2, hF1, hF2, hR2⟩ := hst t a u (xs (xi + (1 : Int32)).toNatClampNeg) (xs (xi + (2 : Int32)).toNatClampNeg) (xs (xi + (3 : Int32)).toNatClampNeg) (xs (xi + (4 : Int32)).toNatClampNeg) hRR
  refine lv_aload_n hx hb dL_law_244 rfl (lv_at hl 1 rfl) ?_
  refine lv_aload_n hx hb dL_law_245 rfl (lv_at hl 0 rfl) ?_
  refine lv_iload_n hx hb dL_law_246 rfl (lv_at hl 3 rfl) ?_
  refine lv_iconst (v := (1 : Int32)) hx hb dL_law_247 (by decide) ?_
  refine lv_iadd hx hb dL_law_248 ?_
  refine va_sld hx hb hX hbl hbA hD1.2.2.1 h1 dL_law_249 ?_
  refine lv_aload_n hx hb dL_law_250 rfl (lv_at hl 0 rfl) ?_
  refine lv_iload_n hx hb dL_law_251 rfl (lv_at hl 3 rfl) ?_
  refine lv_iconst (v := (2 : Int32)) hx hb dL_law_252 (by decide) ?_
  refine lv_iadd hx hb dL_law_253 ?_
  refine va_sld hx hb hX hbl hbA hD1.2.2.1 h2 dL_law_254 ?_
  refine lv_aload_n hx hb dL_law_255 rfl (lv_at hl 0 rfl) ?_
  refine lv_iload_n hx hb dL_law_256 rfl (lv_at hl 3 rfl) ?_
  refine lv_iconst (v := (3 : Int32)) hx hb dL_law_257 (by decide) ?_
  refine lv_iadd hx hb dL_law_258 ?_
  refine va_sld hx hb hX hbl hbA hD1.2.2.1 h3 dL_law_259 ?_
  refine lv_aload_n hx hb dL_law_260 rfl (lv_at hl 0 rfl) ?_
  refine lv_iload_n hx hb dL_law_261 rfl (lv_at hl 3 rfl) ?_
  refine lv_iconst (v := (4 : Int32)) hx hb dL_law_262 (by decide) ?_
  refine lv_iadd hx hb dL_law_263 ?_
  refine va_sld hx hb hX hbl hbA hD1.2.2.1 h4 dL_law_264 ?_
  refine kFi (As := [.int (xs (xi + (1 : Int32)).toNatClampNeg), .int (xs (xi + (2 : Int32)).toNatClampNeg), .int (xs (xi + (3 : Int32)).toNatClampNeg), .int (xs (xi + (4 : Int32)).toNatClampNeg)]) (rest := []) hE hl hD1 hD2 hdj (c_X11_bridge hF1) kl_L_13 (tE_11 (hkx hRR)) rfl rfl rfl rfl (Nat.le_of_ble_eq_true rfl) dL_law_265 ⟨Nat.le_of_ble_eq_true rfl, Nat.le_of_ble_eq_true rfl⟩ ⟨by show cells + 1 ≤ 600000; omega, by show slots + 8 ≤ 7302250; omega⟩ (fun H locs (hD1 : xD G A s.heap (tE G t2) t2.1 H locs) (hD2 : xD G A s.heap (mW G b u) t2.1 H locs) (hdj : ∀ q, tE G t2 q = none ∨ mW G b u q = none) => ?_)
  refine lv_aload_n hx hb dL_law_268 rfl (lv_at hl 2 rfl) ?_
  refine lv_aload_n hx hb dL_law_269 rfl (lv_at hl 0 rfl) ?_
  refine lv_iload_n hx hb dL_law_270 rfl (lv_at hl 3 rfl) ?_
  refine lv_iconst (v := (1 : Int32)) hx hb dL_law_271 (by decide) ?_
  refine lv_iadd hx hb dL_law_272 ?_
  refine va_sld hx hb hX hbl hbA hD1.2.2.1 h1 dL_law_273 ?_
  refine lv_aload_n hx hb dL_law_274 rfl (lv_at hl 0 rfl) ?_
  refine lv_iload_n hx hb dL_law_275 rfl (lv_at hl 3 rfl) ?_
  refine lv_iconst (v := (2 : Int32)) hx hb dL_law_276 (by decide) ?_
  refine lv_iadd hx hb dL_law_277 ?_
  refine va_sld hx hb hX hbl hbA hD1.2.2.1 h2 dL_law_278 ?_
  refine lv_aload_n hx hb dL_law_279 rfl (lv_at hl 0 rfl) ?_
  refine lv_iload_n hx hb dL_law_280 rfl (lv_at hl 3 rfl) ?_
  refine lv_iconst (v := (3 : Int32)) hx hb dL_law_281 (by decide) ?_
  refine lv_iadd hx hb dL_law_282 ?_
  refine va_sld hx hb hX hbl hbA hD1.2.2.1 h3 dL_law_283 ?_
  refine lv_aload_n hx hb dL_law_284 rfl (lv_at hl 0 rfl) ?_
  refine lv_iload_n hx hb dL_law_285 rfl (lv_at hl 3 rfl) ?_
  refine lv_iconst (v := (4 : Int32)) hx hb dL_law_286 (by decide) ?_
  refine lv_iadd hx hb dL_law_287 ?_
  refine va_sld hx hb hX hbl hbA hD1.2.2.1 h4 dL_law_288 ?_
  refine kFi (As := [.int (xs (xi + (1 : Int32)).toNatClampNeg), .int (xs (xi + (2 : Int32)).toNatClampNeg), .int (xs (xi + (3 : Int32)).toNatClampNeg), .int (xs (xi + (4 : Int32)).toNatClampNeg)]) (rest := [.int v]) hE hl hD2 hD1 (fun q => (hdj q).symm) (c_X12_bridge (b := b) hF2) kl_L_17 (mW_0 _ _ _) rfl rfl rfl rfl (Nat.le_of_ble_eq_true rfl) dL_law_289 ⟨Nat.le_of_ble_eq_true rfl, Nat.le_of_ble_eq_true rfl⟩ ⟨by show cells + 1 + 0 ≤ 600000; omega, by show slots + 8 + 0 ≤ 7302250; omega⟩ (fun H locs (hD2 : xD G A s.heap (mW G b u2) t2.1 H locs) (hD1 : xD G A s.heap (tE G t2) t2.1 H locs) (hdj : ∀ q, mW G b u2 q = none ∨ tE G t2 q = none) => ?_)
  refine lv_icmp_eq (tgt := 2012) hx hb dL_law_292 (by decide) (fun _ => ?_) (fun c => absurd rfl c)
  exact kk hD1 hD2 (fun q => (hdj q).symm) hR2 (by omega) (by omega)
set_option maxHeartbeats 1000000 in
theorem lc_bridgeOf {RR : xT → Nat → xS → Prop} {p : Program} {l : Launch} {e : Env} {s : State} {m : MethodId} {below : List Frame} {meth : Method} {cd : Code} {G : xG} {b0 L : Nat} {xs : Nat → Int32} {A : Nat → Prop} {Q : State → Prop} {t : xT} {a b : Nat} {u : xS} {H : Heap} {locs : List Loc} {ls : Array Slot} {cells slots : Nat} {xi : Int32} (hst : sT_bridgeOf RR) (hkx : ∀ {t : xT} {u : xS}, RR t a u → tK t a = 11) (hE : xE p s m #[Value.ref b0] meth cd cL_law RL G 4 ret) (hX : va_X b0 L xs s s.heap) (hbl : b0 < s.heap.size) (hbA : ¬ A b0) (h1 : vp_in (xi + (1 : Int32)) L) (h2 : vp_in (xi + (2 : Int32)) L) (h3 : vp_in (xi + (3 : Int32)) L) (h4 : vp_in (xi + (4 : Int32)) L) (hD1 : xD G A s.heap (tE G t) t.1 H locs) (hD2 : xD G A s.heap (mW G b u) t.1 H locs) (hdj : ∀ q, tE G t q = none ∨ mW G b u q = none) (hRR : RR t a u) (hl : lv_has ls 4 [(0, .ref b0), (1, .ref a), (2, .ref b), (3, .int xi)]) (hc : cells + 10 ≤ 600000) (hk : slots + 357 ≤ 7302250) (kk : ∀ {t1 : xT} {u1 : xS} {H1 : Heap} {locs1 : List Loc} {cells1 slots1 : Nat}, xD G A s.heap (tE G t1) t1.1 H1 locs1 → xD G A s.heap (mW G b u1) t1.1 H1 locs1 → (∀ q, tE G t1 q = none ∨ mW G b u1 q = none) → RR t1 a u1 → cells1 ≤ cells + 10 → slots1 ≤ slots + 357 → W p l e room_1 s m #[Value.ref b0] below meth cd H1 locs1 cells1 slots1 Q (F0 m 2012 ls [])) : W p l e room_1 s m #[Value.ref b0] below meth cd H locs cells slots Q (F0 m 297 ls []) := by
  have hx := hE.1; have hb := hE.2.1
  obtain ⟨v, u2, hF1, hF2, hR2⟩ := hst t a u (xs (xi + (1 : Int32)).toNatClampNeg) (xs (xi + (2 : Int32)).toNatClampNeg) hRR
  refine lv_aload_n hx hb dL_law_297 rfl (lv_at hl 1 rfl) ?_
  refine lv_aload_n hx hb dL_law_298 rfl (lv_at hl 0 rfl) ?_
  refine lv_iload_n hx hb dL_law_299 rfl (lv_at hl 3 rfl) ?_
  refine lv_iconst (v := (1 : Int32)) hx hb dL_law_300 (by decide) ?_
  refine lv_iadd hx hb dL_law_301 ?_
  refine va_sld hx hb hX hbl hbA hD1.2.2.1 h1 dL_law_302 ?_
  refine lv_aload_n hx hb dL_law_303 rfl (lv_at hl 0 rfl) ?_
  refine lv_iload_n hx hb dL_law_304 rfl (lv_at hl 3 rfl) ?_
  refine lv_iconst (v := (2 : Int32)) hx hb dL_law_305 (by decide) ?_
  refine lv_iadd hx hb dL_law_306 ?_
  refine va_sld hx hb hX hbl hbA hD1.2.2.1 h2 dL_law_307 ?_
  refine kFi (As := [.int (xs (xi + (1 : Int32)).toNatClampNeg), .int (xs (xi + (2 : Int32)).toNatClampNeg)]) (rest := []) hE hl hD1 hD2 hdj (c_X11_bridgeOf hF1) kl_L_18 (tE_11 (hkx hRR)) rfl rfl rfl rfl (Nat.le_of_ble_eq_true rfl) dL_law_308 ⟨Nat.le_of_ble_eq_true rfl, Nat.le_of_ble_eq_true rfl⟩ ⟨by show cells + 0 ≤ 600000; omega, by show slots + 0 ≤ 7302250; omega⟩ (fun H locs (hD1 : xD G A s.heap (tE G t) t.1 H locs) (hD2 : xD G A s.heap (mW G b u) t.1 H locs) (hdj : ∀ q, tE G t q = none ∨ mW G b u q = none) => ?_)
  refine lv_aload_n hx hb dL_law_311 rfl (lv_at hl 2 rfl) ?_
  refine lv_aload_n hx hb dL_law_312 rfl (lv_at hl 0 rfl) ?_
  refine lv_iload_n hx hb dL_law_313 rfl (lv_at hl 3 rfl) ?_
  refine lv_iconst (v := (1 : Int32)) hx hb dL_law_314 (by decide) ?_
  refine lv_iadd hx hb dL_law_315 ?_
  refine va_sld hx hb hX hbl hbA hD1.2.2.1 h1 dL_law_316 ?_
  refine lv_aload_n hx hb dL_law_317 rfl (lv_at hl 0 rfl) ?_
  refine lv_iload_n hx hb dL_law_318 rfl (lv_at hl 3 rfl) ?_
  refine lv_iconst (v := (2 : Int32)) hx hb dL_law_319 (by decide) ?_
  refine lv_iadd hx hb dL_law_320 ?_
  refine va_sld hx hb hX hbl hbA hD1.2.2.1 h2 dL_law_321 ?_
  refine kFi (As := [.int (xs (xi + (1 : Int32)).toNatClampNeg), .int (xs (xi + (2 : Int32)).toNatClampNeg)]) (rest := [.int v]) hE hl hD2 hD1 (fun q => (hdj q).symm) (c_X12_bridgeOf (b := b) hF2) kl_L_22 (mW_0 _ _ _) rfl rfl rfl rfl (Nat.le_of_ble_eq_true rfl) dL_law_322 ⟨Nat.le_of_ble_eq_true rfl, Nat.le_of_ble_eq_true rfl⟩ ⟨by show cells + 0 + 0 ≤ 600000; omega, by show slots + 0 + 0 ≤ 7302250; omega⟩ (fun H locs (hD2 : xD G A s.heap (mW G b u2) t.1 H locs) (hD1 : xD G A s.heap (tE G t) t.1 H locs) (hdj : ∀ q, mW G b u2 q = none ∨ tE G t q = none) => ?_)
  refine lv_icmp_eq (tgt := 2012) hx hb dL_law_325 (by decide) (fun _ => ?_) (fun c => absurd rfl c)
  exact kk hD1 hD2 (fun q => (hdj q).symm) hR2 (by omega) (by omega)
set_option maxHeartbeats 1000000 in
theorem lc_change {RR : xT → Nat → xS → Prop} {p : Program} {l : Launch} {e : Env} {s : State} {m : MethodId} {below : List Frame} {meth : Method} {cd : Code} {G : xG} {b0 L : Nat} {xs : Nat → Int32} {A : Nat → Prop} {Q : State → Prop} {t : xT} {a b : Nat} {u : xS} {H : Heap} {locs : List Loc} {ls : Array Slot} {cells slots : Nat} {xi : Int32} (hst : sT_change RR) (hkx : ∀ {t : xT} {u : xS}, RR t a u → tK t a = 11) (hE : xE p s m #[Value.ref b0] meth cd cL_law RL G 4 ret) (hX : va_X b0 L xs s s.heap) (hbl : b0 < s.heap.size) (hbA : ¬ A b0) (h1 : vp_in (xi + (1 : Int32)) L) (h2 : vp_in (xi + (2 : Int32)) L) (h3 : vp_in (xi + (3 : Int32)) L) (h4 : vp_in (xi + (4 : Int32)) L) (hD1 : xD G A s.heap (tE G t) t.1 H locs) (hD2 : xD G A s.heap (mW G b u) t.1 H locs) (hdj : ∀ q, tE G t q = none ∨ mW G b u q = none) (hRR : RR t a u) (hl : lv_has ls 4 [(0, .ref b0), (1, .ref a), (2, .ref b), (3, .int xi)]) (hc : cells + 10 ≤ 600000) (hk : slots + 357 ≤ 7302250) (kk : ∀ {t1 : xT} {u1 : xS} {H1 : Heap} {locs1 : List Loc} {cells1 slots1 : Nat}, xD G A s.heap (tE G t1) t1.1 H1 locs1 → xD G A s.heap (mW G b u1) t1.1 H1 locs1 → (∀ q, tE G t1 q = none ∨ mW G b u1 q = none) → RR t1 a u1 → cells1 ≤ cells + 10 → slots1 ≤ slots + 357 → W p l e room_1 s m #[Value.ref b0] below meth cd H1 locs1 cells1 slots1 Q (F0 m 2012 ls [])) : W p l e room_1 s m #[Value.ref b0] below meth cd H locs cells slots Q (F0 m 330 ls []) := by
  have hx := hE.1; have hb := hE.2.1
  obtain ⟨v, t2, u2, hF1, hF2, hR2⟩ := hst t a u (xs (xi + (1 : Int32)).toNatClampNeg) (xs (xi + (2 : Int32)).toNatClampNeg) (xs (xi + (3 : Int32)).toNatClampNeg) hRR
  refine lv_aload_n hx hb dL_law_330 rfl (lv_at hl 1 rfl) ?_
  refine lv_aload_n hx hb dL_law_331 rfl (lv_at hl 0 rfl) ?_
  refine lv_iload_n hx hb dL_law_332 rfl (lv_at hl 3 rfl) ?_
  refine lv_iconst (v := (1 : Int32)) hx hb dL_law_333 (by decide) ?_
  refine lv_iadd hx hb dL_law_334 ?_
  refine va_sld hx hb hX hbl hbA hD1.2.2.1 h1 dL_law_335 ?_
  refine lv_aload_n hx hb dL_law_336 rfl (lv_at hl 0 rfl) ?_
  refine lv_iload_n hx hb dL_law_337 rfl (lv_at hl 3 rfl) ?_
  refine lv_iconst (v := (2 : Int32)) hx hb dL_law_338 (by decide) ?_
  refine lv_iadd hx hb dL_law_339 ?_
  refine va_sld hx hb hX hbl hbA hD1.2.2.1 h2 dL_law_340 ?_
  refine lv_aload_n hx hb dL_law_341 rfl (lv_at hl 0 rfl) ?_
  refine lv_iload_n hx hb dL_law_342 rfl (lv_at hl 3 rfl) ?_
  refine lv_iconst (v := (3 : Int32)) hx hb dL_law_343 (by decide) ?_
  refine lv_iadd hx hb dL_law_344 ?_
  refine va_sld hx hb hX hbl hbA hD1.2.2.1 h3 dL_law_345 ?_
  refine kFi (As := [.int (xs (xi + (1 : Int32)).toNatClampNeg), .int (xs (xi + (2 : Int32)).toNatClampNeg), .int (xs (xi + (3 : Int32)).toNatClampNeg)]) (rest := []) hE hl hD1 hD2 hdj (c_X11_change hF1) kl_L_23 (tE_11 (hkx hRR)) rfl rfl rfl rfl (Nat.le_of_ble_eq_true rfl) dL_law_346 ⟨Nat.le_of_ble_eq_true rfl, Nat.le_of_ble_eq_true rfl⟩ ⟨by show cells + 0 ≤ 600000; omega, by show slots + 0 ≤ 7302250; omega⟩ (fun H locs (hD1 : xD G A s.heap (tE G t2) t2.1 H locs) (hD2 : xD G A s.heap (mW G b u) t2.1 H locs) (hdj : ∀ q, tE G t2 q = none ∨ mW G b u q = none) => ?_)
  refine lv_aload_n hx hb dL_law_349 rfl (lv_at hl 2 rfl) ?_
  refine lv_aload_n hx hb dL_law_350 rfl (lv_at hl 0 rfl) ?_
  refine lv_iload_n hx hb dL_law_351 rfl (lv_at hl 3 rfl) ?_
  refine lv_iconst (v := (1 : Int32)) hx hb dL_law_352 (by decide) ?_
  refine lv_iadd hx hb dL_law_353 ?_
  refine va_sld hx hb hX hbl hbA hD1.2.2.1 h1 dL_law_354 ?_
  refine lv_aload_n hx hb dL_law_355 rfl (lv_at hl 0 rfl) ?_
  refine lv_iload_n hx hb dL_law_356 rfl (lv_at hl 3 rfl) ?_
  refine lv_iconst (v := (2 : Int32)) hx hb dL_law_357 (by decide) ?_
  refine lv_iadd hx hb dL_law_358 ?_
  refine va_sld hx hb hX hbl hbA hD1.2.2.1 h2 dL_law_359 ?_
  refine lv_aload_n hx hb dL_law_360 rfl (lv_at hl 0 rfl) ?_
  refine lv_iload_n hx hb dL_law_361 rfl (lv_at hl 3 rfl) ?_
  refine lv_iconst (v := (3 : Int32)) hx hb dL_law_362 (by decide) ?_
  refine lv_iadd hx hb dL_law_363 ?_
  refine va_sld hx hb hX hbl hbA hD1.2.2.1 h3 dL_law_364 ?_
  refine kFi (As := [.int (xs (xi + (1 : Int32)).toNatClampNeg), .int (xs (xi + (2 : Int32)).toNatClampNeg), .int (xs (xi + (3 : Int32)).toNatClampNeg)]) (rest := [.int v]) hE hl hD2 hD1 (fun q => (hdj q).symm) (c_X12_change (b := b) hF2) kl_L_27 (mW_0 _ _ _) rfl rfl rfl rfl (Nat.le_of_ble_eq_true rfl) dL_law_365 ⟨Nat.le_of_ble_eq_true rfl, Nat.le_of_ble_eq_true rfl⟩ ⟨by show cells + 0 + 0 ≤ 600000; omega, by show slots + 0 + 0 ≤ 7302250; omega⟩ (fun H locs (hD2 : xD G A s.heap (mW G b u2) t2.1 H locs) (hD1 : xD G A s.heap (tE G t2) t2.1 H locs) (hdj : ∀ q, mW G b u2 q = none ∨ tE G t2 q = none) => ?_)
  refine lv_icmp_eq (tgt := 2012) hx hb dL_law_368 (by decide) (fun _ => ?_) (fun c => absurd rfl c)
  exact kk hD1 hD2 (fun q => (hdj q).symm) hR2 (by omega) (by omega)
set_option maxHeartbeats 1000000 in
theorem lc_mend {RR : xT → Nat → xS → Prop} {p : Program} {l : Launch} {e : Env} {s : State} {m : MethodId} {below : List Frame} {meth : Method} {cd : Code} {G : xG} {b0 L : Nat} {xs : Nat → Int32} {A : Nat → Prop} {Q : State → Prop} {t : xT} {a b : Nat} {u : xS} {H : Heap} {locs : List Loc} {ls : Array Slot} {cells slots : Nat} {xi : Int32} (hst : sT_mend RR) (hkx : ∀ {t : xT} {u : xS}, RR t a u → tK t a = 11) (hE : xE p s m #[Value.ref b0] meth cd cL_law RL G 4 ret) (hX : va_X b0 L xs s s.heap) (hbl : b0 < s.heap.size) (hbA : ¬ A b0) (h1 : vp_in (xi + (1 : Int32)) L) (h2 : vp_in (xi + (2 : Int32)) L) (h3 : vp_in (xi + (3 : Int32)) L) (h4 : vp_in (xi + (4 : Int32)) L) (hD1 : xD G A s.heap (tE G t) t.1 H locs) (hD2 : xD G A s.heap (mW G b u) t.1 H locs) (hdj : ∀ q, tE G t q = none ∨ mW G b u q = none) (hRR : RR t a u) (hl : lv_has ls 4 [(0, .ref b0), (1, .ref a), (2, .ref b), (3, .int xi)]) (hc : cells + 10 ≤ 600000) (hk : slots + 357 ≤ 7302250) (kk : ∀ {t1 : xT} {u1 : xS} {H1 : Heap} {locs1 : List Loc} {cells1 slots1 : Nat}, xD G A s.heap (tE G t1) t1.1 H1 locs1 → xD G A s.heap (mW G b u1) t1.1 H1 locs1 → (∀ q, tE G t1 q = none ∨ mW G b u1 q = none) → RR t1 a u1 → cells1 ≤ cells + 10 → slots1 ≤ slots + 357 → W p l e room_1 s m #[Value.ref b0] below meth cd H1 locs1 cells1 slots1 Q (F0 m 2012 ls [])) : W p l e room_1 s m #[Value.ref b0] below meth cd H locs cells slots Q (F0 m 373 ls []) := by
  have hx := hE.1; have hb := hE.2.1
  obtain ⟨v, t2, u2, hF1, hF2, hR2⟩ := hst t a u (xs (xi + (1 : Int32)).toNatClampNeg) (xs (xi + (2 : Int32)).toNatClampNeg) hRR
  refine lv_aload_n hx hb dL_law_373 rfl (lv_at hl 1 rfl) ?_
  refine lv_aload_n hx hb dL_law_374 rfl (lv_at hl 0 rfl) ?_
  refine lv_iload_n hx hb dL_law_375 rfl (lv_at hl 3 rfl) ?_
  refine lv_iconst (v := (1 : Int32)) hx hb dL_law_376 (by decide) ?_
  refine lv_iadd hx hb dL_law_377 ?_
  refine va_sld hx hb hX hbl hbA hD1.2.2.1 h1 dL_law_378 ?_
  refine lv_aload_n hx hb dL_law_379 rfl (lv_at hl 0 rfl) ?_
  refine lv_iload_n hx hb dL_law_380 rfl (lv_at hl 3 rfl) ?_
  refine lv_iconst (v := (2 : Int32)) hx hb dL_law_381 (by decide) ?_
  refine lv_iadd hx hb dL_law_382 ?_
  refine va_sld hx hb hX hbl hbA hD1.2.2.1 h2 dL_law_383 ?_
  refine kFi (As := [.int (xs (xi + (1 : Int32)).toNatClampNeg), .int (xs (xi + (2 : Int32)).toNatClampNeg)]) (rest := []) hE hl hD1 hD2 hdj (c_X11_mend hF1) kl_L_28 (tE_11 (hkx hRR)) rfl rfl rfl rfl (Nat.le_of_ble_eq_true rfl) dL_law_384 ⟨Nat.le_of_ble_eq_true rfl, Nat.le_of_ble_eq_true rfl⟩ ⟨by show cells + 1 ≤ 600000; omega, by show slots + 8 ≤ 7302250; omega⟩ (fun H locs (hD1 : xD G A s.heap (tE G t2) t2.1 H locs) (hD2 : xD G A s.heap (mW G b u) t2.1 H locs) (hdj : ∀ q, tE G t2 q = none ∨ mW G b u q = none) => ?_)
  refine lv_aload_n hx hb dL_law_387 rfl (lv_at hl 2 rfl) ?_
  refine lv_aload_n hx hb dL_law_388 rfl (lv_at hl 0 rfl) ?_
  refine lv_iload_n hx hb dL_law_389 rfl (lv_at hl 3 rfl) ?_
  refine lv_iconst (v := (1 : Int32)) hx hb dL_law_390 (by decide) ?_
  refine lv_iadd hx hb dL_law_391 ?_
  refine va_sld hx hb hX hbl hbA hD1.2.2.1 h1 dL_law_392 ?_
  refine lv_aload_n hx hb dL_law_393 rfl (lv_at hl 0 rfl) ?_
  refine lv_iload_n hx hb dL_law_394 rfl (lv_at hl 3 rfl) ?_
  refine lv_iconst (v := (2 : Int32)) hx hb dL_law_395 (by decide) ?_
  refine lv_iadd hx hb dL_law_396 ?_
  refine va_sld hx hb hX hbl hbA hD1.2.2.1 h2 dL_law_397 ?_
  refine kFi (As := [.int (xs (xi + (1 : Int32)).toNatClampNeg), .int (xs (xi + (2 : Int32)).toNatClampNeg)]) (rest := [.int v]) hE hl hD2 hD1 (fun q => (hdj q).symm) (c_X12_mend (b := b) hF2) kl_L_31 (mW_0 _ _ _) rfl rfl rfl rfl (Nat.le_of_ble_eq_true rfl) dL_law_398 ⟨Nat.le_of_ble_eq_true rfl, Nat.le_of_ble_eq_true rfl⟩ ⟨by show cells + 1 + 0 ≤ 600000; omega, by show slots + 8 + 0 ≤ 7302250; omega⟩ (fun H locs (hD2 : xD G A s.heap (mW G b u2) t2.1 H locs) (hD1 : xD G A s.heap (tE G t2) t2.1 H locs) (hdj : ∀ q, mW G b u2 q = none ∨ tE G t2 q = none) => ?_)
  refine lv_icmp_eq (tgt := 2012) hx hb dL_law_401 (by decide) (fun _ => ?_) (fun c => absurd rfl c)
  exact kk hD1 hD2 (fun q => (hdj q).symm) hR2 (by omega) (by omega)
set_option maxHeartbeats 1000000 in
theorem lc_day {RR : xT → Nat → xS → Prop} {p : Program} {l : Launch} {e : Env} {s : State} {m : MethodId} {below : List Frame} {meth : Method} {cd : Code} {G : xG} {b0 L : Nat} {xs : Nat → Int32} {A : Nat → Prop} {Q : State → Prop} {t : xT} {a b : Nat} {u : xS} {H : Heap} {locs : List Loc} {ls : Array Slot} {cells slots : Nat} {xi : Int32} (hst : sT_day RR) (hkx : ∀ {t : xT} {u : xS}, RR t a u → tK t a = 11) (hE : xE p s m #[Value.ref b0] meth cd cL_law RL G 4 ret) (hX : va_X b0 L xs s s.heap) (hbl : b0 < s.heap.size) (hbA : ¬ A b0) (h1 : vp_in (xi + (1 : Int32)) L) (h2 : vp_in (xi + (2 : Int32)) L) (h3 : vp_in (xi + (3 : Int32)) L) (h4 : vp_in (xi + (4 : Int32)) L) (hD1 : xD G A s.heap (tE G t) t.1 H locs) (hD2 : xD G A s.heap (mW G b u) t.1 H locs) (hdj : ∀ q, tE G t q = none ∨ mW G b u q = none) (hRR : RR t a u) (hl : lv_has ls 4 [(0, .ref b0), (1, .ref a), (2, .ref b), (3, .int xi)]) (hc : cells + 10 ≤ 600000) (hk : slots + 357 ≤ 7302250) (kk : ∀ {t1 : xT} {u1 : xS} {H1 : Heap} {locs1 : List Loc} {cells1 slots1 : Nat}, xD G A s.heap (tE G t1) t1.1 H1 locs1 → xD G A s.heap (mW G b u1) t1.1 H1 locs1 → (∀ q, tE G t1 q = none ∨ mW G b u1 q = none) → RR t1 a u1 → cells1 ≤ cells + 10 → slots1 ≤ slots + 357 → W p l e room_1 s m #[Value.ref b0] below meth cd H1 locs1 cells1 slots1 Q (F0 m 2012 ls [])) : W p l e room_1 s m #[Value.ref b0] below meth cd H locs cells slots Q (F0 m 406 ls []) := by
  have hx := hE.1; have hb := hE.2.1
  obtain ⟨v, t2, u2, hF1, hF2, hR2⟩ := hst t a u (xs (xi + (1 : Int32)).toNatClampNeg) hRR
  refine lv_aload_n hx hb dL_law_406 rfl (lv_at hl 1 rfl) ?_
  refine lv_aload_n hx hb dL_law_407 rfl (lv_at hl 0 rfl) ?_
  refine lv_iload_n hx hb dL_law_408 rfl (lv_at hl 3 rfl) ?_
  refine lv_iconst (v := (1 : Int32)) hx hb dL_law_409 (by decide) ?_
  refine lv_iadd hx hb dL_law_410 ?_
  refine va_sld hx hb hX hbl hbA hD1.2.2.1 h1 dL_law_411 ?_
  refine kFi (As := [.int (xs (xi + (1 : Int32)).toNatClampNeg)]) (rest := []) hE hl hD1 hD2 hdj (c_X11_day hF1) kl_L_32 (tE_11 (hkx hRR)) rfl rfl rfl rfl (Nat.le_of_ble_eq_true rfl) dL_law_412 ⟨Nat.le_of_ble_eq_true rfl, Nat.le_of_ble_eq_true rfl⟩ ⟨by show cells + 0 ≤ 600000; omega, by show slots + 0 ≤ 7302250; omega⟩ (fun H locs (hD1 : xD G A s.heap (tE G t2) t2.1 H locs) (hD2 : xD G A s.heap (mW G b u) t2.1 H locs) (hdj : ∀ q, tE G t2 q = none ∨ mW G b u q = none) => ?_)
  refine lv_aload_n hx hb dL_law_415 rfl (lv_at hl 2 rfl) ?_
  refine lv_aload_n hx hb dL_law_416 rfl (lv_at hl 0 rfl) ?_
  refine lv_iload_n hx hb dL_law_417 rfl (lv_at hl 3 rfl) ?_
  refine lv_iconst (v := (1 : Int32)) hx hb dL_law_418 (by decide) ?_
  refine lv_iadd hx hb dL_law_419 ?_
  refine va_sld hx hb hX hbl hbA hD1.2.2.1 h1 dL_law_420 ?_
  refine kFi (As := [.int (xs (xi + (1 : Int32)).toNatClampNeg)]) (rest := [.int v]) hE hl hD2 hD1 (fun q => (hdj q).symm) (c_X12_day (b := b) hF2) kl_L_36 (mW_0 _ _ _) rfl rfl rfl rfl (Nat.le_of_ble_eq_true rfl) dL_law_421 ⟨Nat.le_of_ble_eq_true rfl, Nat.le_of_ble_eq_true rfl⟩ ⟨by show cells + 0 + 0 ≤ 600000; omega, by show slots + 0 + 0 ≤ 7302250; omega⟩ (fun H locs (hD2 : xD G A s.heap (mW G b u2) t2.1 H locs) (hD1 : xD G A s.heap (tE G t2) t2.1 H locs) (hdj : ∀ q, mW G b u2 q = none ∨ tE G t2 q = none) => ?_)
  refine lv_icmp_eq (tgt := 2012) hx hb dL_law_424 (by decide) (fun _ => ?_) (fun c => absurd rfl c)
  exact kk hD1 hD2 (fun q => (hdj q).symm) hR2 (by omega) (by omega)
set_option maxHeartbeats 1000000 in
theorem lc_feed {RR : xT → Nat → xS → Prop} {p : Program} {l : Launch} {e : Env} {s : State} {m : MethodId} {below : List Frame} {meth : Method} {cd : Code} {G : xG} {b0 L : Nat} {xs : Nat → Int32} {A : Nat → Prop} {Q : State → Prop} {t : xT} {a b : Nat} {u : xS} {H : Heap} {locs : List Loc} {ls : Array Slot} {cells slots : Nat} {xi : Int32} (hst : sT_feed RR) (hkx : ∀ {t : xT} {u : xS}, RR t a u → tK t a = 11) (hE : xE p s m #[Value.ref b0] meth cd cL_law RL G 4 ret) (hX : va_X b0 L xs s s.heap) (hbl : b0 < s.heap.size) (hbA : ¬ A b0) (h1 : vp_in (xi + (1 : Int32)) L) (h2 : vp_in (xi + (2 : Int32)) L) (h3 : vp_in (xi + (3 : Int32)) L) (h4 : vp_in (xi + (4 : Int32)) L) (hD1 : xD G A s.heap (tE G t) t.1 H locs) (hD2 : xD G A s.heap (mW G b u) t.1 H locs) (hdj : ∀ q, tE G t q = none ∨ mW G b u q = none) (hRR : RR t a u) (hl : lv_has ls 4 [(0, .ref b0), (1, .ref a), (2, .ref b), (3, .int xi)]) (hc : cells + 10 ≤ 600000) (hk : slots + 357 ≤ 7302250) (kk : ∀ {t1 : xT} {u1 : xS} {H1 : Heap} {locs1 : List Loc} {cells1 slots1 : Nat}, xD G A s.heap (tE G t1) t1.1 H1 locs1 → xD G A s.heap (mW G b u1) t1.1 H1 locs1 → (∀ q, tE G t1 q = none ∨ mW G b u1 q = none) → RR t1 a u1 → cells1 ≤ cells + 10 → slots1 ≤ slots + 357 → W p l e room_1 s m #[Value.ref b0] below meth cd H1 locs1 cells1 slots1 Q (F0 m 2012 ls [])) : W p l e room_1 s m #[Value.ref b0] below meth cd H locs cells slots Q (F0 m 429 ls []) := by
  have hx := hE.1; have hb := hE.2.1
  obtain ⟨v, t2, u2, hF1, hF2, hR2⟩ := hst t a u ((((xs (xi + (1 : Int32)).toNatClampNeg).toInt64) <<< ((32 : Int32).toInt64 &&& 63)) ||| (((xs (xi + (2 : Int32)).toNatClampNeg).toInt64) &&& (4294967295 : Int64))) (xs (xi + (3 : Int32)).toNatClampNeg) hRR
  refine lv_aload_n hx hb dL_law_429 rfl (lv_at hl 1 rfl) ?_
  refine lv_aload_n hx hb dL_law_430 rfl (lv_at hl 0 rfl) ?_
  refine lv_iload_n hx hb dL_law_431 rfl (lv_at hl 3 rfl) ?_
  refine lv_iconst (v := (1 : Int32)) hx hb dL_law_432 (by decide) ?_
  refine lv_iadd hx hb dL_law_433 ?_
  refine va_sld hx hb hX hbl hbA hD1.2.2.1 h1 dL_law_434 ?_
  refine lv_i2l (v := (xs (xi + (1 : Int32)).toNatClampNeg).toInt64) hx hb dL_law_435 rfl ?_
  refine lv_bipush (v := (32 : Int32)) hx hb dL_law_436 (by decide) ?_
  refine lv_lshl (v := (((xs (xi + (1 : Int32)).toNatClampNeg).toInt64) <<< ((32 : Int32).toInt64 &&& 63))) hx hb dL_law_438 rfl ?_
  refine lv_aload_n hx hb dL_law_439 rfl (lv_at hl 0 rfl) ?_
  refine lv_iload_n hx hb dL_law_440 rfl (lv_at hl 3 rfl) ?_
  refine lv_iconst (v := (2 : Int32)) hx hb dL_law_441 (by decide) ?_
  refine lv_iadd hx hb dL_law_442 ?_
  refine va_sld hx hb hX hbl hbA hD1.2.2.1 h2 dL_law_443 ?_
  refine lv_i2l (v := (xs (xi + (2 : Int32)).toNatClampNeg).toInt64) hx hb dL_law_444 rfl ?_
  refine lv_ldc2 (v := (4294967295 : Int64)) hx hb hE.2.2.1 (hE.2.2.2.1 _ kw8_41) dL_law_445 ?_
  refine lv_land hx hb dL_law_448 ?_
  refine lv_lor hx hb dL_law_449 ?_
  refine lv_aload_n hx hb dL_law_450 rfl (lv_at hl 0 rfl) ?_
  refine lv_iload_n hx hb dL_law_451 rfl (lv_at hl 3 rfl) ?_
  refine lv_iconst (v := (3 : Int32)) hx hb dL_law_452 (by decide) ?_
  refine lv_iadd hx hb dL_law_453 ?_
  refine va_sld hx hb hX hbl hbA hD1.2.2.1 h3 dL_law_454 ?_
  refine kFi (As := [.long ((((xs (xi + (1 : Int32)).toNatClampNeg).toInt64) <<< ((32 : Int32).toInt64 &&& 63)) ||| (((xs (xi + (2 : Int32)).toNatClampNeg).toInt64) &&& (4294967295 : Int64))), .int (xs (xi + (3 : Int32)).toNatClampNeg)]) (rest := []) hE hl hD1 hD2 hdj (c_X11_feed hF1) kl_L_39 (tE_11 (hkx hRR)) rfl rfl rfl rfl (Nat.le_of_ble_eq_true rfl) dL_law_455 ⟨Nat.le_of_ble_eq_true rfl, Nat.le_of_ble_eq_true rfl⟩ ⟨by show cells + 0 ≤ 600000; omega, by show slots + 0 ≤ 7302250; omega⟩ (fun H locs (hD1 : xD G A s.heap (tE G t2) t2.1 H locs) (hD2 : xD G A s.heap (mW G b u) t2.1 H locs) (hdj : ∀ q, tE G t2 q = none ∨ mW G b u q = none) => ?_)
  refine lv_aload_n hx hb dL_law_458 rfl (lv_at hl 2 rfl) ?_
  refine lv_aload_n hx hb dL_law_459 rfl (lv_at hl 0 rfl) ?_
  refine lv_iload_n hx hb dL_law_460 rfl (lv_at hl 3 rfl) ?_
  refine lv_iconst (v := (1 : Int32)) hx hb dL_law_461 (by decide) ?_
  refine lv_iadd hx hb dL_law_462 ?_
  refine va_sld hx hb hX hbl hbA hD1.2.2.1 h1 dL_law_463 ?_
  refine lv_i2l (v := (xs (xi + (1 : Int32)).toNatClampNeg).toInt64) hx hb dL_law_464 rfl ?_
  refine lv_bipush (v := (32 : Int32)) hx hb dL_law_465 (by decide) ?_
  refine lv_lshl (v := (((xs (xi + (1 : Int32)).toNatClampNeg).toInt64) <<< ((32 : Int32).toInt64 &&& 63))) hx hb dL_law_467 rfl ?_
  refine lv_aload_n hx hb dL_law_468 rfl (lv_at hl 0 rfl) ?_
  refine lv_iload_n hx hb dL_law_469 rfl (lv_at hl 3 rfl) ?_
  refine lv_iconst (v := (2 : Int32)) hx hb dL_law_470 (by decide) ?_
  refine lv_iadd hx hb dL_law_471 ?_
  refine va_sld hx hb hX hbl hbA hD1.2.2.1 h2 dL_law_472 ?_
  refine lv_i2l (v := (xs (xi + (2 : Int32)).toNatClampNeg).toInt64) hx hb dL_law_473 rfl ?_
  refine lv_ldc2 (v := (4294967295 : Int64)) hx hb hE.2.2.1 (hE.2.2.2.1 _ kw8_41) dL_law_474 ?_
  refine lv_land hx hb dL_law_477 ?_
  refine lv_lor hx hb dL_law_478 ?_
  refine lv_aload_n hx hb dL_law_479 rfl (lv_at hl 0 rfl) ?_
  refine lv_iload_n hx hb dL_law_480 rfl (lv_at hl 3 rfl) ?_
  refine lv_iconst (v := (3 : Int32)) hx hb dL_law_481 (by decide) ?_
  refine lv_iadd hx hb dL_law_482 ?_
  refine va_sld hx hb hX hbl hbA hD1.2.2.1 h3 dL_law_483 ?_
  refine kFi (As := [.long ((((xs (xi + (1 : Int32)).toNatClampNeg).toInt64) <<< ((32 : Int32).toInt64 &&& 63)) ||| (((xs (xi + (2 : Int32)).toNatClampNeg).toInt64) &&& (4294967295 : Int64))), .int (xs (xi + (3 : Int32)).toNatClampNeg)]) (rest := [.int v]) hE hl hD2 hD1 (fun q => (hdj q).symm) (c_X12_feed (b := b) hF2) kl_L_43 (mW_0 _ _ _) rfl rfl rfl rfl (Nat.le_of_ble_eq_true rfl) dL_law_484 ⟨Nat.le_of_ble_eq_true rfl, Nat.le_of_ble_eq_true rfl⟩ ⟨by show cells + 0 + 0 ≤ 600000; omega, by show slots + 0 + 0 ≤ 7302250; omega⟩ (fun H locs (hD2 : xD G A s.heap (mW G b u2) t2.1 H locs) (hD1 : xD G A s.heap (tE G t2) t2.1 H locs) (hdj : ∀ q, mW G b u2 q = none ∨ tE G t2 q = none) => ?_)
  refine lv_icmp_eq (tgt := 2012) hx hb dL_law_487 (by decide) (fun _ => ?_) (fun c => absurd rfl c)
  exact kk hD1 hD2 (fun q => (hdj q).symm) hR2 (by omega) (by omega)
set_option maxHeartbeats 1000000 in
theorem lc_law {RR : xT → Nat → xS → Prop} {p : Program} {l : Launch} {e : Env} {s : State} {m : MethodId} {below : List Frame} {meth : Method} {cd : Code} {G : xG} {b0 L : Nat} {xs : Nat → Int32} {A : Nat → Prop} {Q : State → Prop} {t : xT} {a b : Nat} {u : xS} {H : Heap} {locs : List Loc} {ls : Array Slot} {cells slots : Nat} {xi : Int32} (hst : sT_law RR) (hkx : ∀ {t : xT} {u : xS}, RR t a u → tK t a = 11) (hE : xE p s m #[Value.ref b0] meth cd cL_law RL G 4 ret) (hX : va_X b0 L xs s s.heap) (hbl : b0 < s.heap.size) (hbA : ¬ A b0) (h1 : vp_in (xi + (1 : Int32)) L) (h2 : vp_in (xi + (2 : Int32)) L) (h3 : vp_in (xi + (3 : Int32)) L) (h4 : vp_in (xi + (4 : Int32)) L) (hD1 : xD G A s.heap (tE G t) t.1 H locs) (hD2 : xD G A s.heap (mW G b u) t.1 H locs) (hdj : ∀ q, tE G t q = none ∨ mW G b u q = none) (hRR : RR t a u) (hl : lv_has ls 4 [(0, .ref b0), (1, .ref a), (2, .ref b), (3, .int xi)]) (hc : cells + 10 ≤ 600000) (hk : slots + 357 ≤ 7302250) (kk : ∀ {t1 : xT} {u1 : xS} {H1 : Heap} {locs1 : List Loc} {cells1 slots1 : Nat}, xD G A s.heap (tE G t1) t1.1 H1 locs1 → xD G A s.heap (mW G b u1) t1.1 H1 locs1 → (∀ q, tE G t1 q = none ∨ mW G b u1 q = none) → RR t1 a u1 → cells1 ≤ cells + 10 → slots1 ≤ slots + 357 → W p l e room_1 s m #[Value.ref b0] below meth cd H1 locs1 cells1 slots1 Q (F0 m 2012 ls [])) : W p l e room_1 s m #[Value.ref b0] below meth cd H locs cells slots Q (F0 m 492 ls []) := by
  have hx := hE.1; have hb := hE.2.1
  obtain ⟨v, t2, u2, hF1, hF2, hR2⟩ := hst t a u  hRR
  refine lv_aload_n hx hb dL_law_492 rfl (lv_at hl 1 rfl) ?_
  refine kFi (As := []) (rest := []) hE hl hD1 hD2 hdj (c_X11_law hF1) kl_L_44 (tE_11 (hkx hRR)) rfl rfl rfl rfl (Nat.le_of_ble_eq_true rfl) dL_law_493 ⟨Nat.le_of_ble_eq_true rfl, Nat.le_of_ble_eq_true rfl⟩ ⟨by show cells + 10 ≤ 600000; omega, by show slots + 357 ≤ 7302250; omega⟩ (fun H locs (hD1 : xD G A s.heap (tE G t2) t2.1 H locs) (hD2 : xD G A s.heap (mW G b u) t2.1 H locs) (hdj : ∀ q, tE G t2 q = none ∨ mW G b u q = none) => ?_)
  refine lv_aload_n hx hb dL_law_496 rfl (lv_at hl 2 rfl) ?_
  refine kFi (As := []) (rest := [.int v]) hE hl hD2 hD1 (fun q => (hdj q).symm) (c_X12_law (b := b) hF2) kl_L_48 (mW_0 _ _ _) rfl rfl rfl rfl (Nat.le_of_ble_eq_true rfl) dL_law_497 ⟨Nat.le_of_ble_eq_true rfl, Nat.le_of_ble_eq_true rfl⟩ ⟨by show cells + 10 + 0 ≤ 600000; omega, by show slots + 357 + 0 ≤ 7302250; omega⟩ (fun H locs (hD2 : xD G A s.heap (mW G b u2) t2.1 H locs) (hD1 : xD G A s.heap (tE G t2) t2.1 H locs) (hdj : ∀ q, mW G b u2 q = none ∨ tE G t2 q = none) => ?_)
  refine lv_icmp_eq (tgt := 2012) hx hb dL_law_500 (by decide) (fun _ => ?_) (fun c => absurd rfl c)
  exact kk hD1 hD2 (fun q => (hdj q).symm) hR2 (by omega) (by omega)
set_option maxHeartbeats 1000000 in
theorem lc_person {RR : xT → Nat → xS → Prop} {p : Program} {l : Launch} {e : Env} {s : State} {m : MethodId} {below : List Frame} {meth : Method} {cd : Code} {G : xG} {b0 L : Nat} {xs : Nat → Int32} {A : Nat → Prop} {Q : State → Prop} {t : xT} {a b : Nat} {u : xS} {H : Heap} {locs : List Loc} {ls : Array Slot} {cells slots : Nat} {xi : Int32} (hst : sT_person RR) (hkx : ∀ {t : xT} {u : xS}, RR t a u → tK t a = 11) (hE : xE p s m #[Value.ref b0] meth cd cL_law RL G 4 ret) (hX : va_X b0 L xs s s.heap) (hbl : b0 < s.heap.size) (hbA : ¬ A b0) (h1 : vp_in (xi + (1 : Int32)) L) (h2 : vp_in (xi + (2 : Int32)) L) (h3 : vp_in (xi + (3 : Int32)) L) (h4 : vp_in (xi + (4 : Int32)) L) (hD1 : xD G A s.heap (tE G t) t.1 H locs) (hD2 : xD G A s.heap (mW G b u) t.1 H locs) (hdj : ∀ q, tE G t q = none ∨ mW G b u q = none) (hRR : RR t a u) (hl : lv_has ls 4 [(0, .ref b0), (1, .ref a), (2, .ref b), (3, .int xi)]) (hc : cells + 10 ≤ 600000) (hk : slots + 357 ≤ 7302250) (kk : ∀ {t1 : xT} {u1 : xS} {H1 : Heap} {locs1 : List Loc} {cells1 slots1 : Nat}, xD G A s.heap (tE G t1) t1.1 H1 locs1 → xD G A s.heap (mW G b u1) t1.1 H1 locs1 → (∀ q, tE G t1 q = none ∨ mW G b u1 q = none) → RR t1 a u1 → cells1 ≤ cells + 10 → slots1 ≤ slots + 357 → W p l e room_1 s m #[Value.ref b0] below meth cd H1 locs1 cells1 slots1 Q (F0 m 2012 ls [])) : W p l e room_1 s m #[Value.ref b0] below meth cd H locs cells slots Q (F0 m 505 ls []) := by
  have hx := hE.1; have hb := hE.2.1
  obtain ⟨v, t2, u2, hF1, hF2, hR2⟩ := hst t a u (xs (xi + (1 : Int32)).toNatClampNeg) hRR
  refine lv_aload_n hx hb dL_law_505 rfl (lv_at hl 1 rfl) ?_
  refine lv_aload_n hx hb dL_law_506 rfl (lv_at hl 0 rfl) ?_
  refine lv_iload_n hx hb dL_law_507 rfl (lv_at hl 3 rfl) ?_
  refine lv_iconst (v := (1 : Int32)) hx hb dL_law_508 (by decide) ?_
  refine lv_iadd hx hb dL_law_509 ?_
  refine va_sld hx hb hX hbl hbA hD1.2.2.1 h1 dL_law_510 ?_
  refine kFi (As := [.int (xs (xi + (1 : Int32)).toNatClampNeg)]) (rest := []) hE hl hD1 hD2 hdj (c_X11_person hF1) kl_L_49 (tE_11 (hkx hRR)) rfl rfl rfl rfl (Nat.le_of_ble_eq_true rfl) dL_law_511 ⟨Nat.le_of_ble_eq_true rfl, Nat.le_of_ble_eq_true rfl⟩ ⟨by show cells + 0 ≤ 600000; omega, by show slots + 0 ≤ 7302250; omega⟩ (fun H locs (hD1 : xD G A s.heap (tE G t2) t2.1 H locs) (hD2 : xD G A s.heap (mW G b u) t2.1 H locs) (hdj : ∀ q, tE G t2 q = none ∨ mW G b u q = none) => ?_)
  refine lv_aload_n hx hb dL_law_514 rfl (lv_at hl 2 rfl) ?_
  refine lv_aload_n hx hb dL_law_515 rfl (lv_at hl 0 rfl) ?_
  refine lv_iload_n hx hb dL_law_516 rfl (lv_at hl 3 rfl) ?_
  refine lv_iconst (v := (1 : Int32)) hx hb dL_law_517 (by decide) ?_
  refine lv_iadd hx hb dL_law_518 ?_
  refine va_sld hx hb hX hbl hbA hD1.2.2.1 h1 dL_law_519 ?_
  refine kFi (As := [.int (xs (xi + (1 : Int32)).toNatClampNeg)]) (rest := [.int v]) hE hl hD2 hD1 (fun q => (hdj q).symm) (c_X12_person (b := b) hF2) kl_L_52 (mW_0 _ _ _) rfl rfl rfl rfl (Nat.le_of_ble_eq_true rfl) dL_law_520 ⟨Nat.le_of_ble_eq_true rfl, Nat.le_of_ble_eq_true rfl⟩ ⟨by show cells + 0 + 0 ≤ 600000; omega, by show slots + 0 + 0 ≤ 7302250; omega⟩ (fun H locs (hD2 : xD G A s.heap (mW G b u2) t2.1 H locs) (hD1 : xD G A s.heap (tE G t2) t2.1 H locs) (hdj : ∀ q, mW G b u2 q = none ∨ tE G t2 q = none) => ?_)
  refine lv_icmp_eq (tgt := 2012) hx hb dL_law_523 (by decide) (fun _ => ?_) (fun c => absurd rfl c)
  exact kk hD1 hD2 (fun q => (hdj q).symm) hR2 (by omega) (by omega)
set_option maxHeartbeats 1000000 in
theorem lc_personOf {RR : xT → Nat → xS → Prop} {p : Program} {l : Launch} {e : Env} {s : State} {m : MethodId} {below : List Frame} {meth : Method} {cd : Code} {G : xG} {b0 L : Nat} {xs : Nat → Int32} {A : Nat → Prop} {Q : State → Prop} {t : xT} {a b : Nat} {u : xS} {H : Heap} {locs : List Loc} {ls : Array Slot} {cells slots : Nat} {xi : Int32} (hst : sT_personOf RR) (hkx : ∀ {t : xT} {u : xS}, RR t a u → tK t a = 11) (hE : xE p s m #[Value.ref b0] meth cd cL_law RL G 4 ret) (hX : va_X b0 L xs s s.heap) (hbl : b0 < s.heap.size) (hbA : ¬ A b0) (h1 : vp_in (xi + (1 : Int32)) L) (h2 : vp_in (xi + (2 : Int32)) L) (h3 : vp_in (xi + (3 : Int32)) L) (h4 : vp_in (xi + (4 : Int32)) L) (hD1 : xD G A s.heap (tE G t) t.1 H locs) (hD2 : xD G A s.heap (mW G b u) t.1 H locs) (hdj : ∀ q, tE G t q = none ∨ mW G b u q = none) (hRR : RR t a u) (hl : lv_has ls 4 [(0, .ref b0), (1, .ref a), (2, .ref b), (3, .int xi)]) (hc : cells + 10 ≤ 600000) (hk : slots + 357 ≤ 7302250) (kk : ∀ {t1 : xT} {u1 : xS} {H1 : Heap} {locs1 : List Loc} {cells1 slots1 : Nat}, xD G A s.heap (tE G t1) t1.1 H1 locs1 → xD G A s.heap (mW G b u1) t1.1 H1 locs1 → (∀ q, tE G t1 q = none ∨ mW G b u1 q = none) → RR t1 a u1 → cells1 ≤ cells + 10 → slots1 ≤ slots + 357 → W p l e room_1 s m #[Value.ref b0] below meth cd H1 locs1 cells1 slots1 Q (F0 m 2012 ls [])) : W p l e room_1 s m #[Value.ref b0] below meth cd H locs cells slots Q (F0 m 528 ls []) := by
  have hx := hE.1; have hb := hE.2.1
  obtain ⟨v, hF1, hF2, hR2⟩ := hst t a u (xs (xi + (1 : Int32)).toNatClampNeg) (xs (xi + (2 : Int32)).toNatClampNeg) hRR
  refine lv_aload_n hx hb dL_law_528 rfl (lv_at hl 1 rfl) ?_
  refine lv_aload_n hx hb dL_law_529 rfl (lv_at hl 0 rfl) ?_
  refine lv_iload_n hx hb dL_law_530 rfl (lv_at hl 3 rfl) ?_
  refine lv_iconst (v := (1 : Int32)) hx hb dL_law_531 (by decide) ?_
  refine lv_iadd hx hb dL_law_532 ?_
  refine va_sld hx hb hX hbl hbA hD1.2.2.1 h1 dL_law_533 ?_
  refine lv_aload_n hx hb dL_law_534 rfl (lv_at hl 0 rfl) ?_
  refine lv_iload_n hx hb dL_law_535 rfl (lv_at hl 3 rfl) ?_
  refine lv_iconst (v := (2 : Int32)) hx hb dL_law_536 (by decide) ?_
  refine lv_iadd hx hb dL_law_537 ?_
  refine va_sld hx hb hX hbl hbA hD1.2.2.1 h2 dL_law_538 ?_
  refine kFi (As := [.int (xs (xi + (1 : Int32)).toNatClampNeg), .int (xs (xi + (2 : Int32)).toNatClampNeg)]) (rest := []) hE hl hD1 hD2 hdj (c_X11_personOf hF1) kl_L_53 (tE_11 (hkx hRR)) rfl rfl rfl rfl (Nat.le_of_ble_eq_true rfl) dL_law_539 ⟨Nat.le_of_ble_eq_true rfl, Nat.le_of_ble_eq_true rfl⟩ ⟨by show cells + 0 ≤ 600000; omega, by show slots + 0 ≤ 7302250; omega⟩ (fun H locs (hD1 : xD G A s.heap (tE G t) t.1 H locs) (hD2 : xD G A s.heap (mW G b u) t.1 H locs) (hdj : ∀ q, tE G t q = none ∨ mW G b u q = none) => ?_)
  refine lv_aload_n hx hb dL_law_542 rfl (lv_at hl 2 rfl) ?_
  refine lv_aload_n hx hb dL_law_543 rfl (lv_at hl 0 rfl) ?_
  refine lv_iload_n hx hb dL_law_544 rfl (lv_at hl 3 rfl) ?_
  refine lv_iconst (v := (1 : Int32)) hx hb dL_law_545 (by decide) ?_
  refine lv_iadd hx hb dL_law_546 ?_
  refine va_sld hx hb hX hbl hbA hD1.2.2.1 h1 dL_law_547 ?_
  refine lv_aload_n hx hb dL_law_548 rfl (lv_at hl 0 rfl) ?_
  refine lv_iload_n hx hb dL_law_549 rfl (lv_at hl 3 rfl) ?_
  refine lv_iconst (v := (2 : Int32)) hx hb dL_law_550 (by decide) ?_
  refine lv_iadd hx hb dL_law_551 ?_
  refine va_sld hx hb hX hbl hbA hD1.2.2.1 h2 dL_law_552 ?_
  refine kFi (As := [.int (xs (xi + (1 : Int32)).toNatClampNeg), .int (xs (xi + (2 : Int32)).toNatClampNeg)]) (rest := [.int v]) hE hl hD2 hD1 (fun q => (hdj q).symm) (c_X12_personOf (b := b) hF2) kl_L_56 (mW_0 _ _ _) rfl rfl rfl rfl (Nat.le_of_ble_eq_true rfl) dL_law_553 ⟨Nat.le_of_ble_eq_true rfl, Nat.le_of_ble_eq_true rfl⟩ ⟨by show cells + 0 + 0 ≤ 600000; omega, by show slots + 0 + 0 ≤ 7302250; omega⟩ (fun H locs (hD2 : xD G A s.heap (mW G b u) t.1 H locs) (hD1 : xD G A s.heap (tE G t) t.1 H locs) (hdj : ∀ q, mW G b u q = none ∨ tE G t q = none) => ?_)
  refine lv_icmp_eq (tgt := 2012) hx hb dL_law_556 (by decide) (fun _ => ?_) (fun c => absurd rfl c)
  exact kk hD1 hD2 (fun q => (hdj q).symm) hR2 (by omega) (by omega)
set_option maxHeartbeats 1000000 in
theorem lc_purse {RR : xT → Nat → xS → Prop} {p : Program} {l : Launch} {e : Env} {s : State} {m : MethodId} {below : List Frame} {meth : Method} {cd : Code} {G : xG} {b0 L : Nat} {xs : Nat → Int32} {A : Nat → Prop} {Q : State → Prop} {t : xT} {a b : Nat} {u : xS} {H : Heap} {locs : List Loc} {ls : Array Slot} {cells slots : Nat} {xi : Int32} (hst : sT_purse RR) (hkx : ∀ {t : xT} {u : xS}, RR t a u → tK t a = 11) (hE : xE p s m #[Value.ref b0] meth cd cL_law RL G 4 ret) (hX : va_X b0 L xs s s.heap) (hbl : b0 < s.heap.size) (hbA : ¬ A b0) (h1 : vp_in (xi + (1 : Int32)) L) (h2 : vp_in (xi + (2 : Int32)) L) (h3 : vp_in (xi + (3 : Int32)) L) (h4 : vp_in (xi + (4 : Int32)) L) (hD1 : xD G A s.heap (tE G t) t.1 H locs) (hD2 : xD G A s.heap (mW G b u) t.1 H locs) (hdj : ∀ q, tE G t q = none ∨ mW G b u q = none) (hRR : RR t a u) (hl : lv_has ls 4 [(0, .ref b0), (1, .ref a), (2, .ref b), (3, .int xi)]) (hc : cells + 10 ≤ 600000) (hk : slots + 357 ≤ 7302250) (kk : ∀ {t1 : xT} {u1 : xS} {H1 : Heap} {locs1 : List Loc} {cells1 slots1 : Nat}, xD G A s.heap (tE G t1) t1.1 H1 locs1 → xD G A s.heap (mW G b u1) t1.1 H1 locs1 → (∀ q, tE G t1 q = none ∨ mW G b u1 q = none) → RR t1 a u1 → cells1 ≤ cells + 10 → slots1 ≤ slots + 357 → W p l e room_1 s m #[Value.ref b0] below meth cd H1 locs1 cells1 slots1 Q (F0 m 2012 ls [])) : W p l e room_1 s m #[Value.ref b0] below meth cd H locs cells slots Q (F0 m 561 ls []) := by
  have hx := hE.1; have hb := hE.2.1
  obtain ⟨v, t2, u2, hF1, hF2, hR2⟩ := hst t a u (xs (xi + (1 : Int32)).toNatClampNeg) (xs (xi + (2 : Int32)).toNatClampNeg) hRR
  refine lv_aload_n hx hb dL_law_561 rfl (lv_at hl 1 rfl) ?_
  refine lv_aload_n hx hb dL_law_562 rfl (lv_at hl 0 rfl) ?_
  refine lv_iload_n hx hb dL_law_563 rfl (lv_at hl 3 rfl) ?_
  refine lv_iconst (v := (1 : Int32)) hx hb dL_law_564 (by decide) ?_
  refine lv_iadd hx hb dL_law_565 ?_
  refine va_sld hx hb hX hbl hbA hD1.2.2.1 h1 dL_law_566 ?_
  refine lv_aload_n hx hb dL_law_567 rfl (lv_at hl 0 rfl) ?_
  refine lv_iload_n hx hb dL_law_568 rfl (lv_at hl 3 rfl) ?_
  refine lv_iconst (v := (2 : Int32)) hx hb dL_law_569 (by decide) ?_
  refine lv_iadd hx hb dL_law_570 ?_
  refine va_sld hx hb hX hbl hbA hD1.2.2.1 h2 dL_law_571 ?_
  refine kFi (As := [.int (xs (xi + (1 : Int32)).toNatClampNeg), .int (xs (xi + (2 : Int32)).toNatClampNeg)]) (rest := []) hE hl hD1 hD2 hdj (c_X11_purse hF1) kl_L_57 (tE_11 (hkx hRR)) rfl rfl rfl rfl (Nat.le_of_ble_eq_true rfl) dL_law_572 ⟨Nat.le_of_ble_eq_true rfl, Nat.le_of_ble_eq_true rfl⟩ ⟨by show cells + 0 ≤ 600000; omega, by show slots + 0 ≤ 7302250; omega⟩ (fun H locs (hD1 : xD G A s.heap (tE G t2) t2.1 H locs) (hD2 : xD G A s.heap (mW G b u) t2.1 H locs) (hdj : ∀ q, tE G t2 q = none ∨ mW G b u q = none) => ?_)
  refine lv_aload_n hx hb dL_law_575 rfl (lv_at hl 2 rfl) ?_
  refine lv_aload_n hx hb dL_law_576 rfl (lv_at hl 0 rfl) ?_
  refine lv_iload_n hx hb dL_law_577 rfl (lv_at hl 3 rfl) ?_
  refine lv_iconst (v := (1 : Int32)) hx hb dL_law_578 (by decide) ?_
  refine lv_iadd hx hb dL_law_579 ?_
  refine va_sld hx hb hX hbl hbA hD1.2.2.1 h1 dL_law_580 ?_
  refine lv_aload_n hx hb dL_law_581 rfl (lv_at hl 0 rfl) ?_
  refine lv_iload_n hx hb dL_law_582 rfl (lv_at hl 3 rfl) ?_
  refine lv_iconst (v := (2 : Int32)) hx hb dL_law_583 (by decide) ?_
  refine lv_iadd hx hb dL_law_584 ?_
  refine va_sld hx hb hX hbl hbA hD1.2.2.1 h2 dL_law_585 ?_
  refine kFi (As := [.int (xs (xi + (1 : Int32)).toNatClampNeg), .int (xs (xi + (2 : Int32)).toNatClampNeg)]) (rest := [.int v]) hE hl hD2 hD1 (fun q => (hdj q).symm) (c_X12_purse (b := b) hF2) kl_L_60 (mW_0 _ _ _) rfl rfl rfl rfl (Nat.le_of_ble_eq_true rfl) dL_law_586 ⟨Nat.le_of_ble_eq_true rfl, Nat.le_of_ble_eq_true rfl⟩ ⟨by show cells + 0 + 0 ≤ 600000; omega, by show slots + 0 + 0 ≤ 7302250; omega⟩ (fun H locs (hD2 : xD G A s.heap (mW G b u2) t2.1 H locs) (hD1 : xD G A s.heap (tE G t2) t2.1 H locs) (hdj : ∀ q, mW G b u2 q = none ∨ tE G t2 q = none) => ?_)
  refine lv_icmp_eq (tgt := 2012) hx hb dL_law_589 (by decide) (fun _ => ?_) (fun c => absurd rfl c)
  exact kk hD1 hD2 (fun q => (hdj q).symm) hR2 (by omega) (by omega)
set_option maxHeartbeats 1000000 in
theorem lc_cross {RR : xT → Nat → xS → Prop} {p : Program} {l : Launch} {e : Env} {s : State} {m : MethodId} {below : List Frame} {meth : Method} {cd : Code} {G : xG} {b0 L : Nat} {xs : Nat → Int32} {A : Nat → Prop} {Q : State → Prop} {t : xT} {a b : Nat} {u : xS} {H : Heap} {locs : List Loc} {ls : Array Slot} {cells slots : Nat} {xi : Int32} (hst : sT_cross RR) (hkx : ∀ {t : xT} {u : xS}, RR t a u → tK t a = 11) (hE : xE p s m #[Value.ref b0] meth cd cL_law RL G 4 ret) (hX : va_X b0 L xs s s.heap) (hbl : b0 < s.heap.size) (hbA : ¬ A b0) (h1 : vp_in (xi + (1 : Int32)) L) (h2 : vp_in (xi + (2 : Int32)) L) (h3 : vp_in (xi + (3 : Int32)) L) (h4 : vp_in (xi + (4 : Int32)) L) (hD1 : xD G A s.heap (tE G t) t.1 H locs) (hD2 : xD G A s.heap (mW G b u) t.1 H locs) (hdj : ∀ q, tE G t q = none ∨ mW G b u q = none) (hRR : RR t a u) (hl : lv_has ls 4 [(0, .ref b0), (1, .ref a), (2, .ref b), (3, .int xi)]) (hc : cells + 10 ≤ 600000) (hk : slots + 357 ≤ 7302250) (kk : ∀ {t1 : xT} {u1 : xS} {H1 : Heap} {locs1 : List Loc} {cells1 slots1 : Nat}, xD G A s.heap (tE G t1) t1.1 H1 locs1 → xD G A s.heap (mW G b u1) t1.1 H1 locs1 → (∀ q, tE G t1 q = none ∨ mW G b u1 q = none) → RR t1 a u1 → cells1 ≤ cells + 10 → slots1 ≤ slots + 357 → W p l e room_1 s m #[Value.ref b0] below meth cd H1 locs1 cells1 slots1 Q (F0 m 2012 ls [])) : W p l e room_1 s m #[Value.ref b0] below meth cd H locs cells slots Q (F0 m 594 ls []) := by
  have hx := hE.1; have hb := hE.2.1
  obtain ⟨v, t2, u2, hF1, hF2, hR2⟩ := hst t a u (xs (xi + (1 : Int32)).toNatClampNeg) (xs (xi + (2 : Int32)).toNatClampNeg) hRR
  refine lv_aload_n hx hb dL_law_594 rfl (lv_at hl 1 rfl) ?_
  refine lv_aload_n hx hb dL_law_595 rfl (lv_at hl 0 rfl) ?_
  refine lv_iload_n hx hb dL_law_596 rfl (lv_at hl 3 rfl) ?_
  refine lv_iconst (v := (1 : Int32)) hx hb dL_law_597 (by decide) ?_
  refine lv_iadd hx hb dL_law_598 ?_
  refine va_sld hx hb hX hbl hbA hD1.2.2.1 h1 dL_law_599 ?_
  refine lv_aload_n hx hb dL_law_600 rfl (lv_at hl 0 rfl) ?_
  refine lv_iload_n hx hb dL_law_601 rfl (lv_at hl 3 rfl) ?_
  refine lv_iconst (v := (2 : Int32)) hx hb dL_law_602 (by decide) ?_
  refine lv_iadd hx hb dL_law_603 ?_
  refine va_sld hx hb hX hbl hbA hD1.2.2.1 h2 dL_law_604 ?_
  refine kFi (As := [.int (xs (xi + (1 : Int32)).toNatClampNeg), .int (xs (xi + (2 : Int32)).toNatClampNeg)]) (rest := []) hE hl hD1 hD2 hdj (c_X11_cross hF1) kl_L_61 (tE_11 (hkx hRR)) rfl rfl rfl rfl (Nat.le_of_ble_eq_true rfl) dL_law_605 ⟨Nat.le_of_ble_eq_true rfl, Nat.le_of_ble_eq_true rfl⟩ ⟨by show cells + 0 ≤ 600000; omega, by show slots + 0 ≤ 7302250; omega⟩ (fun H locs (hD1 : xD G A s.heap (tE G t2) t2.1 H locs) (hD2 : xD G A s.heap (mW G b u) t2.1 H locs) (hdj : ∀ q, tE G t2 q = none ∨ mW G b u q = none) => ?_)
  refine lv_aload_n hx hb dL_law_608 rfl (lv_at hl 2 rfl) ?_
  refine lv_aload_n hx hb dL_law_609 rfl (lv_at hl 0 rfl) ?_
  refine lv_iload_n hx hb dL_law_610 rfl (lv_at hl 3 rfl) ?_
  refine lv_iconst (v := (1 : Int32)) hx hb dL_law_611 (by decide) ?_
  refine lv_iadd hx hb dL_law_612 ?_
  refine va_sld hx hb hX hbl hbA hD1.2.2.1 h1 dL_law_613 ?_
  refine lv_aload_n hx hb dL_law_614 rfl (lv_at hl 0 rfl) ?_
  refine lv_iload_n hx hb dL_law_615 rfl (lv_at hl 3 rfl) ?_
  refine lv_iconst (v := (2 : Int32)) hx hb dL_law_616 (by decide) ?_
  refine lv_iadd hx hb dL_law_617 ?_
  refine va_sld hx hb hX hbl hbA hD1.2.2.1 h2 dL_law_618 ?_
  refine kFi (As := [.int (xs (xi + (1 : Int32)).toNatClampNeg), .int (xs (xi + (2 : Int32)).toNatClampNeg)]) (rest := [.int v]) hE hl hD2 hD1 (fun q => (hdj q).symm) (c_X12_cross (b := b) hF2) kl_L_64 (mW_0 _ _ _) rfl rfl rfl rfl (Nat.le_of_ble_eq_true rfl) dL_law_619 ⟨Nat.le_of_ble_eq_true rfl, Nat.le_of_ble_eq_true rfl⟩ ⟨by show cells + 0 + 0 ≤ 600000; omega, by show slots + 0 + 0 ≤ 7302250; omega⟩ (fun H locs (hD2 : xD G A s.heap (mW G b u2) t2.1 H locs) (hD1 : xD G A s.heap (tE G t2) t2.1 H locs) (hdj : ∀ q, mW G b u2 q = none ∨ tE G t2 q = none) => ?_)
  refine lv_icmp_eq (tgt := 2012) hx hb dL_law_622 (by decide) (fun _ => ?_) (fun c => absurd rfl c)
  exact kk hD1 hD2 (fun q => (hdj q).symm) hR2 (by omega) (by omega)
set_option maxHeartbeats 1000000 in
theorem lc_pool {RR : xT → Nat → xS → Prop} {p : Program} {l : Launch} {e : Env} {s : State} {m : MethodId} {below : List Frame} {meth : Method} {cd : Code} {G : xG} {b0 L : Nat} {xs : Nat → Int32} {A : Nat → Prop} {Q : State → Prop} {t : xT} {a b : Nat} {u : xS} {H : Heap} {locs : List Loc} {ls : Array Slot} {cells slots : Nat} {xi : Int32} (hst : sT_pool RR) (hkx : ∀ {t : xT} {u : xS}, RR t a u → tK t a = 11) (hE : xE p s m #[Value.ref b0] meth cd cL_law RL G 4 ret) (hX : va_X b0 L xs s s.heap) (hbl : b0 < s.heap.size) (hbA : ¬ A b0) (h1 : vp_in (xi + (1 : Int32)) L) (h2 : vp_in (xi + (2 : Int32)) L) (h3 : vp_in (xi + (3 : Int32)) L) (h4 : vp_in (xi + (4 : Int32)) L) (hD1 : xD G A s.heap (tE G t) t.1 H locs) (hD2 : xD G A s.heap (mW G b u) t.1 H locs) (hdj : ∀ q, tE G t q = none ∨ mW G b u q = none) (hRR : RR t a u) (hl : lv_has ls 4 [(0, .ref b0), (1, .ref a), (2, .ref b), (3, .int xi)]) (hc : cells + 10 ≤ 600000) (hk : slots + 357 ≤ 7302250) (kk : ∀ {t1 : xT} {u1 : xS} {H1 : Heap} {locs1 : List Loc} {cells1 slots1 : Nat}, xD G A s.heap (tE G t1) t1.1 H1 locs1 → xD G A s.heap (mW G b u1) t1.1 H1 locs1 → (∀ q, tE G t1 q = none ∨ mW G b u1 q = none) → RR t1 a u1 → cells1 ≤ cells + 10 → slots1 ≤ slots + 357 → W p l e room_1 s m #[Value.ref b0] below meth cd H1 locs1 cells1 slots1 Q (F0 m 2012 ls [])) : W p l e room_1 s m #[Value.ref b0] below meth cd H locs cells slots Q (F0 m 627 ls []) := by
  have hx := hE.1; have hb := hE.2.1
  obtain ⟨v, t2, u2, hF1, hF2, hR2⟩ := hst t a u (xs (xi + (1 : Int32)).toNatClampNeg) (xs (xi + (2 : Int32)).toNatClampNeg) (xs (xi + (3 : Int32)).toNatClampNeg) hRR
  refine lv_aload_n hx hb dL_law_627 rfl (lv_at hl 1 rfl) ?_
  refine lv_aload_n hx hb dL_law_628 rfl (lv_at hl 0 rfl) ?_
  refine lv_iload_n hx hb dL_law_629 rfl (lv_at hl 3 rfl) ?_
  refine lv_iconst (v := (1 : Int32)) hx hb dL_law_630 (by decide) ?_
  refine lv_iadd hx hb dL_law_631 ?_
  refine va_sld hx hb hX hbl hbA hD1.2.2.1 h1 dL_law_632 ?_
  refine lv_aload_n hx hb dL_law_633 rfl (lv_at hl 0 rfl) ?_
  refine lv_iload_n hx hb dL_law_634 rfl (lv_at hl 3 rfl) ?_
  refine lv_iconst (v := (2 : Int32)) hx hb dL_law_635 (by decide) ?_
  refine lv_iadd hx hb dL_law_636 ?_
  refine va_sld hx hb hX hbl hbA hD1.2.2.1 h2 dL_law_637 ?_
  refine lv_aload_n hx hb dL_law_638 rfl (lv_at hl 0 rfl) ?_
  refine lv_iload_n hx hb dL_law_639 rfl (lv_at hl 3 rfl) ?_
  refine lv_iconst (v := (3 : Int32)) hx hb dL_law_640 (by decide) ?_
  refine lv_iadd hx hb dL_law_641 ?_
  refine va_sld hx hb hX hbl hbA hD1.2.2.1 h3 dL_law_642 ?_
  refine kFi (As := [.int (xs (xi + (1 : Int32)).toNatClampNeg), .int (xs (xi + (2 : Int32)).toNatClampNeg), .int (xs (xi + (3 : Int32)).toNatClampNeg)]) (rest := []) hE hl hD1 hD2 hdj (c_X11_pool hF1) kl_L_65 (tE_11 (hkx hRR)) rfl rfl rfl rfl (Nat.le_of_ble_eq_true rfl) dL_law_643 ⟨Nat.le_of_ble_eq_true rfl, Nat.le_of_ble_eq_true rfl⟩ ⟨by show cells + 0 ≤ 600000; omega, by show slots + 0 ≤ 7302250; omega⟩ (fun H locs (hD1 : xD G A s.heap (tE G t2) t2.1 H locs) (hD2 : xD G A s.heap (mW G b u) t2.1 H locs) (hdj : ∀ q, tE G t2 q = none ∨ mW G b u q = none) => ?_)
  refine lv_aload_n hx hb dL_law_646 rfl (lv_at hl 2 rfl) ?_
  refine lv_aload_n hx hb dL_law_647 rfl (lv_at hl 0 rfl) ?_
  refine lv_iload_n hx hb dL_law_648 rfl (lv_at hl 3 rfl) ?_
  refine lv_iconst (v := (1 : Int32)) hx hb dL_law_649 (by decide) ?_
  refine lv_iadd hx hb dL_law_650 ?_
  refine va_sld hx hb hX hbl hbA hD1.2.2.1 h1 dL_law_651 ?_
  refine lv_aload_n hx hb dL_law_652 rfl (lv_at hl 0 rfl) ?_
  refine lv_iload_n hx hb dL_law_653 rfl (lv_at hl 3 rfl) ?_
  refine lv_iconst (v := (2 : Int32)) hx hb dL_law_654 (by decide) ?_
  refine lv_iadd hx hb dL_law_655 ?_
  refine va_sld hx hb hX hbl hbA hD1.2.2.1 h2 dL_law_656 ?_
  refine lv_aload_n hx hb dL_law_657 rfl (lv_at hl 0 rfl) ?_
  refine lv_iload_n hx hb dL_law_658 rfl (lv_at hl 3 rfl) ?_
  refine lv_iconst (v := (3 : Int32)) hx hb dL_law_659 (by decide) ?_
  refine lv_iadd hx hb dL_law_660 ?_
  refine va_sld hx hb hX hbl hbA hD1.2.2.1 h3 dL_law_661 ?_
  refine kFi (As := [.int (xs (xi + (1 : Int32)).toNatClampNeg), .int (xs (xi + (2 : Int32)).toNatClampNeg), .int (xs (xi + (3 : Int32)).toNatClampNeg)]) (rest := [.int v]) hE hl hD2 hD1 (fun q => (hdj q).symm) (c_X12_pool (b := b) hF2) kl_L_68 (mW_0 _ _ _) rfl rfl rfl rfl (Nat.le_of_ble_eq_true rfl) dL_law_662 ⟨Nat.le_of_ble_eq_true rfl, Nat.le_of_ble_eq_true rfl⟩ ⟨by show cells + 0 + 0 ≤ 600000; omega, by show slots + 0 + 0 ≤ 7302250; omega⟩ (fun H locs (hD2 : xD G A s.heap (mW G b u2) t2.1 H locs) (hD1 : xD G A s.heap (tE G t2) t2.1 H locs) (hdj : ∀ q, mW G b u2 q = none ∨ tE G t2 q = none) => ?_)
  refine lv_icmp_eq (tgt := 2012) hx hb dL_law_665 (by decide) (fun _ => ?_) (fun c => absurd rfl c)
  exact kk hD1 hD2 (fun q => (hdj q).symm) hR2 (by omega) (by omega)
set_option maxHeartbeats 1000000 in
theorem lc_gives {RR : xT → Nat → xS → Prop} {p : Program} {l : Launch} {e : Env} {s : State} {m : MethodId} {below : List Frame} {meth : Method} {cd : Code} {G : xG} {b0 L : Nat} {xs : Nat → Int32} {A : Nat → Prop} {Q : State → Prop} {t : xT} {a b : Nat} {u : xS} {H : Heap} {locs : List Loc} {ls : Array Slot} {cells slots : Nat} {xi : Int32} (hst : sT_gives RR) (hkx : ∀ {t : xT} {u : xS}, RR t a u → tK t a = 11) (hE : xE p s m #[Value.ref b0] meth cd cL_law RL G 4 ret) (hX : va_X b0 L xs s s.heap) (hbl : b0 < s.heap.size) (hbA : ¬ A b0) (h1 : vp_in (xi + (1 : Int32)) L) (h2 : vp_in (xi + (2 : Int32)) L) (h3 : vp_in (xi + (3 : Int32)) L) (h4 : vp_in (xi + (4 : Int32)) L) (hD1 : xD G A s.heap (tE G t) t.1 H locs) (hD2 : xD G A s.heap (mW G b u) t.1 H locs) (hdj : ∀ q, tE G t q = none ∨ mW G b u q = none) (hRR : RR t a u) (hl : lv_has ls 4 [(0, .ref b0), (1, .ref a), (2, .ref b), (3, .int xi)]) (hc : cells + 10 ≤ 600000) (hk : slots + 357 ≤ 7302250) (kk : ∀ {t1 : xT} {u1 : xS} {H1 : Heap} {locs1 : List Loc} {cells1 slots1 : Nat}, xD G A s.heap (tE G t1) t1.1 H1 locs1 → xD G A s.heap (mW G b u1) t1.1 H1 locs1 → (∀ q, tE G t1 q = none ∨ mW G b u1 q = none) → RR t1 a u1 → cells1 ≤ cells + 10 → slots1 ≤ slots + 357 → W p l e room_1 s m #[Value.ref b0] below meth cd H1 locs1 cells1 slots1 Q (F0 m 2012 ls [])) : W p l e room_1 s m #[Value.ref b0] below meth cd H locs cells slots Q (F0 m 670 ls []) := by
  have hx := hE.1; have hb := hE.2.1
  obtain ⟨v, t2, u2, hF1, hF2, hR2⟩ := hst t a u (xs (xi + (1 : Int32)).toNatClampNeg) (xs (xi + (2 : Int32)).toNatClampNeg) (xs (xi + (3 : Int32)).toNatClampNeg) hRR
  refine lv_aload_n hx hb dL_law_670 rfl (lv_at hl 1 rfl) ?_
  refine lv_aload_n hx hb dL_law_671 rfl (lv_at hl 0 rfl) ?_
  refine lv_iload_n hx hb dL_law_672 rfl (lv_at hl 3 rfl) ?_
  refine lv_iconst (v := (1 : Int32)) hx hb dL_law_673 (by decide) ?_
  refine lv_iadd hx hb dL_law_674 ?_
  refine va_sld hx hb hX hbl hbA hD1.2.2.1 h1 dL_law_675 ?_
  refine lv_aload_n hx hb dL_law_676 rfl (lv_at hl 0 rfl) ?_
  refine lv_iload_n hx hb dL_law_677 rfl (lv_at hl 3 rfl) ?_
  refine lv_iconst (v := (2 : Int32)) hx hb dL_law_678 (by decide) ?_
  refine lv_iadd hx hb dL_law_679 ?_
  refine va_sld hx hb hX hbl hbA hD1.2.2.1 h2 dL_law_680 ?_
  refine lv_aload_n hx hb dL_law_681 rfl (lv_at hl 0 rfl) ?_
  refine lv_iload_n hx hb dL_law_682 rfl (lv_at hl 3 rfl) ?_
  refine lv_iconst (v := (3 : Int32)) hx hb dL_law_683 (by decide) ?_
  refine lv_iadd hx hb dL_law_684 ?_
  refine va_sld hx hb hX hbl hbA hD1.2.2.1 h3 dL_law_685 ?_
  refine kFi (As := [.int (xs (xi + (1 : Int32)).toNatClampNeg), .int (xs (xi + (2 : Int32)).toNatClampNeg), .int (xs (xi + (3 : Int32)).toNatClampNeg)]) (rest := []) hE hl hD1 hD2 hdj (c_X11_gives hF1) kl_L_69 (tE_11 (hkx hRR)) rfl rfl rfl rfl (Nat.le_of_ble_eq_true rfl) dL_law_686 ⟨Nat.le_of_ble_eq_true rfl, Nat.le_of_ble_eq_true rfl⟩ ⟨by show cells + 0 ≤ 600000; omega, by show slots + 0 ≤ 7302250; omega⟩ (fun H locs (hD1 : xD G A s.heap (tE G t2) t2.1 H locs) (hD2 : xD G A s.heap (mW G b u) t2.1 H locs) (hdj : ∀ q, tE G t2 q = none ∨ mW G b u q = none) => ?_)
  refine lv_aload_n hx hb dL_law_689 rfl (lv_at hl 2 rfl) ?_
  refine lv_aload_n hx hb dL_law_690 rfl (lv_at hl 0 rfl) ?_
  refine lv_iload_n hx hb dL_law_691 rfl (lv_at hl 3 rfl) ?_
  refine lv_iconst (v := (1 : Int32)) hx hb dL_law_692 (by decide) ?_
  refine lv_iadd hx hb dL_law_693 ?_
  refine va_sld hx hb hX hbl hbA hD1.2.2.1 h1 dL_law_694 ?_
  refine lv_aload_n hx hb dL_law_695 rfl (lv_at hl 0 rfl) ?_
  refine lv_iload_n hx hb dL_law_696 rfl (lv_at hl 3 rfl) ?_
  refine lv_iconst (v := (2 : Int32)) hx hb dL_law_697 (by decide) ?_
  refine lv_iadd hx hb dL_law_698 ?_
  refine va_sld hx hb hX hbl hbA hD1.2.2.1 h2 dL_law_699 ?_
  refine lv_aload_n hx hb dL_law_700 rfl (lv_at hl 0 rfl) ?_
  refine lv_iload_n hx hb dL_law_701 rfl (lv_at hl 3 rfl) ?_
  refine lv_iconst (v := (3 : Int32)) hx hb dL_law_702 (by decide) ?_
  refine lv_iadd hx hb dL_law_703 ?_
  refine va_sld hx hb hX hbl hbA hD1.2.2.1 h3 dL_law_704 ?_
  refine kFi (As := [.int (xs (xi + (1 : Int32)).toNatClampNeg), .int (xs (xi + (2 : Int32)).toNatClampNeg), .int (xs (xi + (3 : Int32)).toNatClampNeg)]) (rest := [.int v]) hE hl hD2 hD1 (fun q => (hdj q).symm) (c_X12_gives (b := b) hF2) kl_L_72 (mW_0 _ _ _) rfl rfl rfl rfl (Nat.le_of_ble_eq_true rfl) dL_law_705 ⟨Nat.le_of_ble_eq_true rfl, Nat.le_of_ble_eq_true rfl⟩ ⟨by show cells + 0 + 0 ≤ 600000; omega, by show slots + 0 + 0 ≤ 7302250; omega⟩ (fun H locs (hD2 : xD G A s.heap (mW G b u2) t2.1 H locs) (hD1 : xD G A s.heap (tE G t2) t2.1 H locs) (hdj : ∀ q, mW G b u2 q = none ∨ tE G t2 q = none) => ?_)
  refine lv_icmp_eq (tgt := 2012) hx hb dL_law_708 (by decide) (fun _ => ?_) (fun c => absurd rfl c)
  exact kk hD1 hD2 (fun q => (hdj q).symm) hR2 (by omega) (by omega)
set_option maxHeartbeats 1000000 in
theorem lc_after {RR : xT → Nat → xS → Prop} {p : Program} {l : Launch} {e : Env} {s : State} {m : MethodId} {below : List Frame} {meth : Method} {cd : Code} {G : xG} {b0 L : Nat} {xs : Nat → Int32} {A : Nat → Prop} {Q : State → Prop} {t : xT} {a b : Nat} {u : xS} {H : Heap} {locs : List Loc} {ls : Array Slot} {cells slots : Nat} {xi : Int32} (hst : sT_after RR) (hkx : ∀ {t : xT} {u : xS}, RR t a u → tK t a = 11) (hE : xE p s m #[Value.ref b0] meth cd cL_law RL G 4 ret) (hX : va_X b0 L xs s s.heap) (hbl : b0 < s.heap.size) (hbA : ¬ A b0) (h1 : vp_in (xi + (1 : Int32)) L) (h2 : vp_in (xi + (2 : Int32)) L) (h3 : vp_in (xi + (3 : Int32)) L) (h4 : vp_in (xi + (4 : Int32)) L) (hD1 : xD G A s.heap (tE G t) t.1 H locs) (hD2 : xD G A s.heap (mW G b u) t.1 H locs) (hdj : ∀ q, tE G t q = none ∨ mW G b u q = none) (hRR : RR t a u) (hl : lv_has ls 4 [(0, .ref b0), (1, .ref a), (2, .ref b), (3, .int xi)]) (hc : cells + 10 ≤ 600000) (hk : slots + 357 ≤ 7302250) (kk : ∀ {t1 : xT} {u1 : xS} {H1 : Heap} {locs1 : List Loc} {cells1 slots1 : Nat}, xD G A s.heap (tE G t1) t1.1 H1 locs1 → xD G A s.heap (mW G b u1) t1.1 H1 locs1 → (∀ q, tE G t1 q = none ∨ mW G b u1 q = none) → RR t1 a u1 → cells1 ≤ cells + 10 → slots1 ≤ slots + 357 → W p l e room_1 s m #[Value.ref b0] below meth cd H1 locs1 cells1 slots1 Q (F0 m 2012 ls [])) : W p l e room_1 s m #[Value.ref b0] below meth cd H locs cells slots Q (F0 m 713 ls []) := by
  have hx := hE.1; have hb := hE.2.1
  obtain ⟨v, u2, hF1, hF2, hR2⟩ := hst t a u (xs (xi + (1 : Int32)).toNatClampNeg) (xs (xi + (2 : Int32)).toNatClampNeg) (xs (xi + (3 : Int32)).toNatClampNeg) hRR
  refine lv_aload_n hx hb dL_law_713 rfl (lv_at hl 1 rfl) ?_
  refine lv_aload_n hx hb dL_law_714 rfl (lv_at hl 0 rfl) ?_
  refine lv_iload_n hx hb dL_law_715 rfl (lv_at hl 3 rfl) ?_
  refine lv_iconst (v := (1 : Int32)) hx hb dL_law_716 (by decide) ?_
  refine lv_iadd hx hb dL_law_717 ?_
  refine va_sld hx hb hX hbl hbA hD1.2.2.1 h1 dL_law_718 ?_
  refine lv_aload_n hx hb dL_law_719 rfl (lv_at hl 0 rfl) ?_
  refine lv_iload_n hx hb dL_law_720 rfl (lv_at hl 3 rfl) ?_
  refine lv_iconst (v := (2 : Int32)) hx hb dL_law_721 (by decide) ?_
  refine lv_iadd hx hb dL_law_722 ?_
  refine va_sld hx hb hX hbl hbA hD1.2.2.1 h2 dL_law_723 ?_
  refine lv_aload_n hx hb dL_law_724 rfl (lv_at hl 0 rfl) ?_
  refine lv_iload_n hx hb dL_law_725 rfl (lv_at hl 3 rfl) ?_
  refine lv_iconst (v := (3 : Int32)) hx hb dL_law_726 (by decide) ?_
  refine lv_iadd hx hb dL_law_727 ?_
  refine va_sld hx hb hX hbl hbA hD1.2.2.1 h3 dL_law_728 ?_
  refine kFi (As := [.int (xs (xi + (1 : Int32)).toNatClampNeg), .int (xs (xi + (2 : Int32)).toNatClampNeg), .int (xs (xi + (3 : Int32)).toNatClampNeg)]) (rest := []) hE hl hD1 hD2 hdj (c_X11_after hF1) kl_L_73 (tE_11 (hkx hRR)) rfl rfl rfl rfl (Nat.le_of_ble_eq_true rfl) dL_law_729 ⟨Nat.le_of_ble_eq_true rfl, Nat.le_of_ble_eq_true rfl⟩ ⟨by show cells + 0 ≤ 600000; omega, by show slots + 0 ≤ 7302250; omega⟩ (fun H locs (hD1 : xD G A s.heap (tE G t) t.1 H locs) (hD2 : xD G A s.heap (mW G b u) t.1 H locs) (hdj : ∀ q, tE G t q = none ∨ mW G b u q = none) => ?_)
  refine lv_aload_n hx hb dL_law_732 rfl (lv_at hl 2 rfl) ?_
  refine lv_aload_n hx hb dL_law_733 rfl (lv_at hl 0 rfl) ?_
  refine lv_iload_n hx hb dL_law_734 rfl (lv_at hl 3 rfl) ?_
  refine lv_iconst (v := (1 : Int32)) hx hb dL_law_735 (by decide) ?_
  refine lv_iadd hx hb dL_law_736 ?_
  refine va_sld hx hb hX hbl hbA hD1.2.2.1 h1 dL_law_737 ?_
  refine lv_aload_n hx hb dL_law_738 rfl (lv_at hl 0 rfl) ?_
  refine lv_iload_n hx hb dL_law_739 rfl (lv_at hl 3 rfl) ?_
  refine lv_iconst (v := (2 : Int32)) hx hb dL_law_740 (by decide) ?_
  refine lv_iadd hx hb dL_law_741 ?_
  refine va_sld hx hb hX hbl hbA hD1.2.2.1 h2 dL_law_742 ?_
  refine lv_aload_n hx hb dL_law_743 rfl (lv_at hl 0 rfl) ?_
  refine lv_iload_n hx hb dL_law_744 rfl (lv_at hl 3 rfl) ?_
  refine lv_iconst (v := (3 : Int32)) hx hb dL_law_745 (by decide) ?_
  refine lv_iadd hx hb dL_law_746 ?_
  refine va_sld hx hb hX hbl hbA hD1.2.2.1 h3 dL_law_747 ?_
  refine kFi (As := [.int (xs (xi + (1 : Int32)).toNatClampNeg), .int (xs (xi + (2 : Int32)).toNatClampNeg), .int (xs (xi + (3 : Int32)).toNatClampNeg)]) (rest := [.int v]) hE hl hD2 hD1 (fun q => (hdj q).symm) (c_X12_after (b := b) hF2) kl_L_76 (mW_0 _ _ _) rfl rfl rfl rfl (Nat.le_of_ble_eq_true rfl) dL_law_748 ⟨Nat.le_of_ble_eq_true rfl, Nat.le_of_ble_eq_true rfl⟩ ⟨by show cells + 0 + 0 ≤ 600000; omega, by show slots + 0 + 0 ≤ 7302250; omega⟩ (fun H locs (hD2 : xD G A s.heap (mW G b u2) t.1 H locs) (hD1 : xD G A s.heap (tE G t) t.1 H locs) (hdj : ∀ q, mW G b u2 q = none ∨ tE G t q = none) => ?_)
  refine lv_icmp_eq (tgt := 2012) hx hb dL_law_751 (by decide) (fun _ => ?_) (fun c => absurd rfl c)
  exact kk hD1 hD2 (fun q => (hdj q).symm) hR2 (by omega) (by omega)
set_option maxHeartbeats 1000000 in
theorem lc_need {RR : xT → Nat → xS → Prop} {p : Program} {l : Launch} {e : Env} {s : State} {m : MethodId} {below : List Frame} {meth : Method} {cd : Code} {G : xG} {b0 L : Nat} {xs : Nat → Int32} {A : Nat → Prop} {Q : State → Prop} {t : xT} {a b : Nat} {u : xS} {H : Heap} {locs : List Loc} {ls : Array Slot} {cells slots : Nat} {xi : Int32} (hst : sT_need RR) (hkx : ∀ {t : xT} {u : xS}, RR t a u → tK t a = 11) (hE : xE p s m #[Value.ref b0] meth cd cL_law RL G 4 ret) (hX : va_X b0 L xs s s.heap) (hbl : b0 < s.heap.size) (hbA : ¬ A b0) (h1 : vp_in (xi + (1 : Int32)) L) (h2 : vp_in (xi + (2 : Int32)) L) (h3 : vp_in (xi + (3 : Int32)) L) (h4 : vp_in (xi + (4 : Int32)) L) (hD1 : xD G A s.heap (tE G t) t.1 H locs) (hD2 : xD G A s.heap (mW G b u) t.1 H locs) (hdj : ∀ q, tE G t q = none ∨ mW G b u q = none) (hRR : RR t a u) (hl : lv_has ls 4 [(0, .ref b0), (1, .ref a), (2, .ref b), (3, .int xi)]) (hc : cells + 10 ≤ 600000) (hk : slots + 357 ≤ 7302250) (kk : ∀ {t1 : xT} {u1 : xS} {H1 : Heap} {locs1 : List Loc} {cells1 slots1 : Nat}, xD G A s.heap (tE G t1) t1.1 H1 locs1 → xD G A s.heap (mW G b u1) t1.1 H1 locs1 → (∀ q, tE G t1 q = none ∨ mW G b u1 q = none) → RR t1 a u1 → cells1 ≤ cells + 10 → slots1 ≤ slots + 357 → W p l e room_1 s m #[Value.ref b0] below meth cd H1 locs1 cells1 slots1 Q (F0 m 2012 ls [])) : W p l e room_1 s m #[Value.ref b0] below meth cd H locs cells slots Q (F0 m 756 ls []) := by
  have hx := hE.1; have hb := hE.2.1
  obtain ⟨v, u2, hF1, hF2, hR2⟩ := hst t a u (xs (xi + (1 : Int32)).toNatClampNeg) (xs (xi + (2 : Int32)).toNatClampNeg) hRR
  refine lv_aload_n hx hb dL_law_756 rfl (lv_at hl 1 rfl) ?_
  refine lv_aload_n hx hb dL_law_757 rfl (lv_at hl 0 rfl) ?_
  refine lv_iload_n hx hb dL_law_758 rfl (lv_at hl 3 rfl) ?_
  refine lv_iconst (v := (1 : Int32)) hx hb dL_law_759 (by decide) ?_
  refine lv_iadd hx hb dL_law_760 ?_
  refine va_sld hx hb hX hbl hbA hD1.2.2.1 h1 dL_law_761 ?_
  refine lv_aload_n hx hb dL_law_762 rfl (lv_at hl 0 rfl) ?_
  refine lv_iload_n hx hb dL_law_763 rfl (lv_at hl 3 rfl) ?_
  refine lv_iconst (v := (2 : Int32)) hx hb dL_law_764 (by decide) ?_
  refine lv_iadd hx hb dL_law_765 ?_
  refine va_sld hx hb hX hbl hbA hD1.2.2.1 h2 dL_law_766 ?_
  refine kFi (As := [.int (xs (xi + (1 : Int32)).toNatClampNeg), .int (xs (xi + (2 : Int32)).toNatClampNeg)]) (rest := []) hE hl hD1 hD2 hdj (c_X11_need hF1) kl_L_77 (tE_11 (hkx hRR)) rfl rfl rfl rfl (Nat.le_of_ble_eq_true rfl) dL_law_767 ⟨Nat.le_of_ble_eq_true rfl, Nat.le_of_ble_eq_true rfl⟩ ⟨by show cells + 0 ≤ 600000; omega, by show slots + 0 ≤ 7302250; omega⟩ (fun H locs (hD1 : xD G A s.heap (tE G t) t.1 H locs) (hD2 : xD G A s.heap (mW G b u) t.1 H locs) (hdj : ∀ q, tE G t q = none ∨ mW G b u q = none) => ?_)
  refine lv_aload_n hx hb dL_law_770 rfl (lv_at hl 2 rfl) ?_
  refine lv_aload_n hx hb dL_law_771 rfl (lv_at hl 0 rfl) ?_
  refine lv_iload_n hx hb dL_law_772 rfl (lv_at hl 3 rfl) ?_
  refine lv_iconst (v := (1 : Int32)) hx hb dL_law_773 (by decide) ?_
  refine lv_iadd hx hb dL_law_774 ?_
  refine va_sld hx hb hX hbl hbA hD1.2.2.1 h1 dL_law_775 ?_
  refine lv_aload_n hx hb dL_law_776 rfl (lv_at hl 0 rfl) ?_
  refine lv_iload_n hx hb dL_law_777 rfl (lv_at hl 3 rfl) ?_
  refine lv_iconst (v := (2 : Int32)) hx hb dL_law_778 (by decide) ?_
  refine lv_iadd hx hb dL_law_779 ?_
  refine va_sld hx hb hX hbl hbA hD1.2.2.1 h2 dL_law_780 ?_
  refine kFi (As := [.int (xs (xi + (1 : Int32)).toNatClampNeg), .int (xs (xi + (2 : Int32)).toNatClampNeg)]) (rest := [.int v]) hE hl hD2 hD1 (fun q => (hdj q).symm) (c_X12_need (b := b) hF2) kl_L_80 (mW_0 _ _ _) rfl rfl rfl rfl (Nat.le_of_ble_eq_true rfl) dL_law_781 ⟨Nat.le_of_ble_eq_true rfl, Nat.le_of_ble_eq_true rfl⟩ ⟨by show cells + 0 + 0 ≤ 600000; omega, by show slots + 0 + 0 ≤ 7302250; omega⟩ (fun H locs (hD2 : xD G A s.heap (mW G b u2) t.1 H locs) (hD1 : xD G A s.heap (tE G t) t.1 H locs) (hdj : ∀ q, mW G b u2 q = none ∨ tE G t q = none) => ?_)
  refine lv_icmp_eq (tgt := 2012) hx hb dL_law_784 (by decide) (fun _ => ?_) (fun c => absurd rfl c)
  exact kk hD1 hD2 (fun q => (hdj q).symm) hR2 (by omega) (by omega)
set_option maxHeartbeats 1000000 in
theorem lc_ever {RR : xT → Nat → xS → Prop} {p : Program} {l : Launch} {e : Env} {s : State} {m : MethodId} {below : List Frame} {meth : Method} {cd : Code} {G : xG} {b0 L : Nat} {xs : Nat → Int32} {A : Nat → Prop} {Q : State → Prop} {t : xT} {a b : Nat} {u : xS} {H : Heap} {locs : List Loc} {ls : Array Slot} {cells slots : Nat} {xi : Int32} (hst : sT_ever RR) (hkx : ∀ {t : xT} {u : xS}, RR t a u → tK t a = 11) (hE : xE p s m #[Value.ref b0] meth cd cL_law RL G 4 ret) (hX : va_X b0 L xs s s.heap) (hbl : b0 < s.heap.size) (hbA : ¬ A b0) (h1 : vp_in (xi + (1 : Int32)) L) (h2 : vp_in (xi + (2 : Int32)) L) (h3 : vp_in (xi + (3 : Int32)) L) (h4 : vp_in (xi + (4 : Int32)) L) (hD1 : xD G A s.heap (tE G t) t.1 H locs) (hD2 : xD G A s.heap (mW G b u) t.1 H locs) (hdj : ∀ q, tE G t q = none ∨ mW G b u q = none) (hRR : RR t a u) (hl : lv_has ls 4 [(0, .ref b0), (1, .ref a), (2, .ref b), (3, .int xi)]) (hc : cells + 10 ≤ 600000) (hk : slots + 357 ≤ 7302250) (kk : ∀ {t1 : xT} {u1 : xS} {H1 : Heap} {locs1 : List Loc} {cells1 slots1 : Nat}, xD G A s.heap (tE G t1) t1.1 H1 locs1 → xD G A s.heap (mW G b u1) t1.1 H1 locs1 → (∀ q, tE G t1 q = none ∨ mW G b u1 q = none) → RR t1 a u1 → cells1 ≤ cells + 10 → slots1 ≤ slots + 357 → W p l e room_1 s m #[Value.ref b0] below meth cd H1 locs1 cells1 slots1 Q (F0 m 2012 ls [])) : W p l e room_1 s m #[Value.ref b0] below meth cd H locs cells slots Q (F0 m 789 ls []) := by
  have hx := hE.1; have hb := hE.2.1
  obtain ⟨v, u2, hF1, hF2, hR2⟩ := hst t a u (xs (xi + (1 : Int32)).toNatClampNeg) hRR
  refine lv_aload_n hx hb dL_law_789 rfl (lv_at hl 1 rfl) ?_
  refine lv_aload_n hx hb dL_law_790 rfl (lv_at hl 0 rfl) ?_
  refine lv_iload_n hx hb dL_law_791 rfl (lv_at hl 3 rfl) ?_
  refine lv_iconst (v := (1 : Int32)) hx hb dL_law_792 (by decide) ?_
  refine lv_iadd hx hb dL_law_793 ?_
  refine va_sld hx hb hX hbl hbA hD1.2.2.1 h1 dL_law_794 ?_
  refine kFi (As := [.int (xs (xi + (1 : Int32)).toNatClampNeg)]) (rest := []) hE hl hD1 hD2 hdj (c_X11_ever hF1) kl_L_81 (tE_11 (hkx hRR)) rfl rfl rfl rfl (Nat.le_of_ble_eq_true rfl) dL_law_795 ⟨Nat.le_of_ble_eq_true rfl, Nat.le_of_ble_eq_true rfl⟩ ⟨by show cells + 0 ≤ 600000; omega, by show slots + 0 ≤ 7302250; omega⟩ (fun H locs (hD1 : xD G A s.heap (tE G t) t.1 H locs) (hD2 : xD G A s.heap (mW G b u) t.1 H locs) (hdj : ∀ q, tE G t q = none ∨ mW G b u q = none) => ?_)
  refine lv_aload_n hx hb dL_law_798 rfl (lv_at hl 2 rfl) ?_
  refine lv_aload_n hx hb dL_law_799 rfl (lv_at hl 0 rfl) ?_
  refine lv_iload_n hx hb dL_law_800 rfl (lv_at hl 3 rfl) ?_
  refine lv_iconst (v := (1 : Int32)) hx hb dL_law_801 (by decide) ?_
  refine lv_iadd hx hb dL_law_802 ?_
  refine va_sld hx hb hX hbl hbA hD1.2.2.1 h1 dL_law_803 ?_
  refine kFi (As := [.int (xs (xi + (1 : Int32)).toNatClampNeg)]) (rest := [.int v]) hE hl hD2 hD1 (fun q => (hdj q).symm) (c_X12_ever (b := b) hF2) kl_L_84 (mW_0 _ _ _) rfl rfl rfl rfl (Nat.le_of_ble_eq_true rfl) dL_law_804 ⟨Nat.le_of_ble_eq_true rfl, Nat.le_of_ble_eq_true rfl⟩ ⟨by show cells + 0 + 0 ≤ 600000; omega, by show slots + 0 + 0 ≤ 7302250; omega⟩ (fun H locs (hD2 : xD G A s.heap (mW G b u2) t.1 H locs) (hD1 : xD G A s.heap (tE G t) t.1 H locs) (hdj : ∀ q, mW G b u2 q = none ∨ tE G t q = none) => ?_)
  refine lv_icmp_eq (tgt := 2012) hx hb dL_law_807 (by decide) (fun _ => ?_) (fun c => absurd rfl c)
  exact kk hD1 hD2 (fun q => (hdj q).symm) hR2 (by omega) (by omega)
set_option maxHeartbeats 1000000 in
theorem lc_same {RR : xT → Nat → xS → Prop} {p : Program} {l : Launch} {e : Env} {s : State} {m : MethodId} {below : List Frame} {meth : Method} {cd : Code} {G : xG} {b0 L : Nat} {xs : Nat → Int32} {A : Nat → Prop} {Q : State → Prop} {t : xT} {a b : Nat} {u : xS} {H : Heap} {locs : List Loc} {ls : Array Slot} {cells slots : Nat} {xi : Int32} (hst : sT_same RR) (hkx : ∀ {t : xT} {u : xS}, RR t a u → tK t a = 11) (hE : xE p s m #[Value.ref b0] meth cd cL_law RL G 4 ret) (hX : va_X b0 L xs s s.heap) (hbl : b0 < s.heap.size) (hbA : ¬ A b0) (h1 : vp_in (xi + (1 : Int32)) L) (h2 : vp_in (xi + (2 : Int32)) L) (h3 : vp_in (xi + (3 : Int32)) L) (h4 : vp_in (xi + (4 : Int32)) L) (hD1 : xD G A s.heap (tE G t) t.1 H locs) (hD2 : xD G A s.heap (mW G b u) t.1 H locs) (hdj : ∀ q, tE G t q = none ∨ mW G b u q = none) (hRR : RR t a u) (hl : lv_has ls 4 [(0, .ref b0), (1, .ref a), (2, .ref b), (3, .int xi)]) (hc : cells + 10 ≤ 600000) (hk : slots + 357 ≤ 7302250) (kk : ∀ {t1 : xT} {u1 : xS} {H1 : Heap} {locs1 : List Loc} {cells1 slots1 : Nat}, xD G A s.heap (tE G t1) t1.1 H1 locs1 → xD G A s.heap (mW G b u1) t1.1 H1 locs1 → (∀ q, tE G t1 q = none ∨ mW G b u1 q = none) → RR t1 a u1 → cells1 ≤ cells + 10 → slots1 ≤ slots + 357 → W p l e room_1 s m #[Value.ref b0] below meth cd H1 locs1 cells1 slots1 Q (F0 m 2012 ls [])) : W p l e room_1 s m #[Value.ref b0] below meth cd H locs cells slots Q (F0 m 812 ls []) := by
  have hx := hE.1; have hb := hE.2.1
  obtain ⟨v, u2, hF1, hF2, hR2⟩ := hst t a u (xs (xi + (1 : Int32)).toNatClampNeg) hRR
  refine lv_aload_n hx hb dL_law_812 rfl (lv_at hl 1 rfl) ?_
  refine lv_aload_n hx hb dL_law_813 rfl (lv_at hl 0 rfl) ?_
  refine lv_iload_n hx hb dL_law_814 rfl (lv_at hl 3 rfl) ?_
  refine lv_iconst (v := (1 : Int32)) hx hb dL_law_815 (by decide) ?_
  refine lv_iadd hx hb dL_law_816 ?_
  refine va_sld hx hb hX hbl hbA hD1.2.2.1 h1 dL_law_817 ?_
  refine kFi (As := [.int (xs (xi + (1 : Int32)).toNatClampNeg)]) (rest := []) hE hl hD1 hD2 hdj (c_X11_same hF1) kl_L_85 (tE_11 (hkx hRR)) rfl rfl rfl rfl (Nat.le_of_ble_eq_true rfl) dL_law_818 ⟨Nat.le_of_ble_eq_true rfl, Nat.le_of_ble_eq_true rfl⟩ ⟨by show cells + 0 ≤ 600000; omega, by show slots + 0 ≤ 7302250; omega⟩ (fun H locs (hD1 : xD G A s.heap (tE G t) t.1 H locs) (hD2 : xD G A s.heap (mW G b u) t.1 H locs) (hdj : ∀ q, tE G t q = none ∨ mW G b u q = none) => ?_)
  refine lv_aload_n hx hb dL_law_821 rfl (lv_at hl 2 rfl) ?_
  refine lv_aload_n hx hb dL_law_822 rfl (lv_at hl 0 rfl) ?_
  refine lv_iload_n hx hb dL_law_823 rfl (lv_at hl 3 rfl) ?_
  refine lv_iconst (v := (1 : Int32)) hx hb dL_law_824 (by decide) ?_
  refine lv_iadd hx hb dL_law_825 ?_
  refine va_sld hx hb hX hbl hbA hD1.2.2.1 h1 dL_law_826 ?_
  refine kFi (As := [.int (xs (xi + (1 : Int32)).toNatClampNeg)]) (rest := [.int v]) hE hl hD2 hD1 (fun q => (hdj q).symm) (c_X12_same (b := b) hF2) kl_L_88 (mW_0 _ _ _) rfl rfl rfl rfl (Nat.le_of_ble_eq_true rfl) dL_law_827 ⟨Nat.le_of_ble_eq_true rfl, Nat.le_of_ble_eq_true rfl⟩ ⟨by show cells + 0 + 0 ≤ 600000; omega, by show slots + 0 + 0 ≤ 7302250; omega⟩ (fun H locs (hD2 : xD G A s.heap (mW G b u2) t.1 H locs) (hD1 : xD G A s.heap (tE G t) t.1 H locs) (hdj : ∀ q, mW G b u2 q = none ∨ tE G t q = none) => ?_)
  refine lv_icmp_eq (tgt := 2012) hx hb dL_law_830 (by decide) (fun _ => ?_) (fun c => absurd rfl c)
  exact kk hD1 hD2 (fun q => (hdj q).symm) hR2 (by omega) (by omega)
set_option maxHeartbeats 1000000 in
theorem lc_few {RR : xT → Nat → xS → Prop} {p : Program} {l : Launch} {e : Env} {s : State} {m : MethodId} {below : List Frame} {meth : Method} {cd : Code} {G : xG} {b0 L : Nat} {xs : Nat → Int32} {A : Nat → Prop} {Q : State → Prop} {t : xT} {a b : Nat} {u : xS} {H : Heap} {locs : List Loc} {ls : Array Slot} {cells slots : Nat} {xi : Int32} (hst : sT_few RR) (hkx : ∀ {t : xT} {u : xS}, RR t a u → tK t a = 11) (hE : xE p s m #[Value.ref b0] meth cd cL_law RL G 4 ret) (hX : va_X b0 L xs s s.heap) (hbl : b0 < s.heap.size) (hbA : ¬ A b0) (h1 : vp_in (xi + (1 : Int32)) L) (h2 : vp_in (xi + (2 : Int32)) L) (h3 : vp_in (xi + (3 : Int32)) L) (h4 : vp_in (xi + (4 : Int32)) L) (hD1 : xD G A s.heap (tE G t) t.1 H locs) (hD2 : xD G A s.heap (mW G b u) t.1 H locs) (hdj : ∀ q, tE G t q = none ∨ mW G b u q = none) (hRR : RR t a u) (hl : lv_has ls 4 [(0, .ref b0), (1, .ref a), (2, .ref b), (3, .int xi)]) (hc : cells + 10 ≤ 600000) (hk : slots + 357 ≤ 7302250) (kk : ∀ {t1 : xT} {u1 : xS} {H1 : Heap} {locs1 : List Loc} {cells1 slots1 : Nat}, xD G A s.heap (tE G t1) t1.1 H1 locs1 → xD G A s.heap (mW G b u1) t1.1 H1 locs1 → (∀ q, tE G t1 q = none ∨ mW G b u1 q = none) → RR t1 a u1 → cells1 ≤ cells + 10 → slots1 ≤ slots + 357 → W p l e room_1 s m #[Value.ref b0] below meth cd H1 locs1 cells1 slots1 Q (F0 m 2012 ls [])) : W p l e room_1 s m #[Value.ref b0] below meth cd H locs cells slots Q (F0 m 835 ls []) := by
  have hx := hE.1; have hb := hE.2.1
  obtain ⟨v, u2, hF1, hF2, hR2⟩ := hst t a u (xs (xi + (1 : Int32)).toNatClampNeg) (xs (xi + (2 : Int32)).toNatClampNeg) (xs (xi + (3 : Int32)).toNatClampNeg) hRR
  refine lv_aload_n hx hb dL_law_835 rfl (lv_at hl 1 rfl) ?_
  refine lv_aload_n hx hb dL_law_836 rfl (lv_at hl 0 rfl) ?_
  refine lv_iload_n hx hb dL_law_837 rfl (lv_at hl 3 rfl) ?_
  refine lv_iconst (v := (1 : Int32)) hx hb dL_law_838 (by decide) ?_
  refine lv_iadd hx hb dL_law_839 ?_
  refine va_sld hx hb hX hbl hbA hD1.2.2.1 h1 dL_law_840 ?_
  refine lv_aload_n hx hb dL_law_841 rfl (lv_at hl 0 rfl) ?_
  refine lv_iload_n hx hb dL_law_842 rfl (lv_at hl 3 rfl) ?_
  refine lv_iconst (v := (2 : Int32)) hx hb dL_law_843 (by decide) ?_
  refine lv_iadd hx hb dL_law_844 ?_
  refine va_sld hx hb hX hbl hbA hD1.2.2.1 h2 dL_law_845 ?_
  refine lv_aload_n hx hb dL_law_846 rfl (lv_at hl 0 rfl) ?_
  refine lv_iload_n hx hb dL_law_847 rfl (lv_at hl 3 rfl) ?_
  refine lv_iconst (v := (3 : Int32)) hx hb dL_law_848 (by decide) ?_
  refine lv_iadd hx hb dL_law_849 ?_
  refine va_sld hx hb hX hbl hbA hD1.2.2.1 h3 dL_law_850 ?_
  refine kFi (As := [.int (xs (xi + (1 : Int32)).toNatClampNeg), .int (xs (xi + (2 : Int32)).toNatClampNeg), .int (xs (xi + (3 : Int32)).toNatClampNeg)]) (rest := []) hE hl hD1 hD2 hdj (c_X11_few hF1) kl_L_89 (tE_11 (hkx hRR)) rfl rfl rfl rfl (Nat.le_of_ble_eq_true rfl) dL_law_851 ⟨Nat.le_of_ble_eq_true rfl, Nat.le_of_ble_eq_true rfl⟩ ⟨by show cells + 0 ≤ 600000; omega, by show slots + 0 ≤ 7302250; omega⟩ (fun H locs (hD1 : xD G A s.heap (tE G t) t.1 H locs) (hD2 : xD G A s.heap (mW G b u) t.1 H locs) (hdj : ∀ q, tE G t q = none ∨ mW G b u q = none) => ?_)
  refine lv_aload_n hx hb dL_law_854 rfl (lv_at hl 2 rfl) ?_
  refine lv_aload_n hx hb dL_law_855 rfl (lv_at hl 0 rfl) ?_
  refine lv_iload_n hx hb dL_law_856 rfl (lv_at hl 3 rfl) ?_
  refine lv_iconst (v := (1 : Int32)) hx hb dL_law_857 (by decide) ?_
  refine lv_iadd hx hb dL_law_858 ?_
  refine va_sld hx hb hX hbl hbA hD1.2.2.1 h1 dL_law_859 ?_
  refine lv_aload_n hx hb dL_law_860 rfl (lv_at hl 0 rfl) ?_
  refine lv_iload_n hx hb dL_law_861 rfl (lv_at hl 3 rfl) ?_
  refine lv_iconst (v := (2 : Int32)) hx hb dL_law_862 (by decide) ?_
  refine lv_iadd hx hb dL_law_863 ?_
  refine va_sld hx hb hX hbl hbA hD1.2.2.1 h2 dL_law_864 ?_
  refine lv_aload_n hx hb dL_law_865 rfl (lv_at hl 0 rfl) ?_
  refine lv_iload_n hx hb dL_law_866 rfl (lv_at hl 3 rfl) ?_
  refine lv_iconst (v := (3 : Int32)) hx hb dL_law_867 (by decide) ?_
  refine lv_iadd hx hb dL_law_868 ?_
  refine va_sld hx hb hX hbl hbA hD1.2.2.1 h3 dL_law_869 ?_
  refine kFi (As := [.int (xs (xi + (1 : Int32)).toNatClampNeg), .int (xs (xi + (2 : Int32)).toNatClampNeg), .int (xs (xi + (3 : Int32)).toNatClampNeg)]) (rest := [.int v]) hE hl hD2 hD1 (fun q => (hdj q).symm) (c_X12_few (b := b) hF2) kl_L_92 (mW_0 _ _ _) rfl rfl rfl rfl (Nat.le_of_ble_eq_true rfl) dL_law_870 ⟨Nat.le_of_ble_eq_true rfl, Nat.le_of_ble_eq_true rfl⟩ ⟨by show cells + 0 + 0 ≤ 600000; omega, by show slots + 0 + 0 ≤ 7302250; omega⟩ (fun H locs (hD2 : xD G A s.heap (mW G b u2) t.1 H locs) (hD1 : xD G A s.heap (tE G t) t.1 H locs) (hdj : ∀ q, mW G b u2 q = none ∨ tE G t q = none) => ?_)
  refine lv_icmp_eq (tgt := 2012) hx hb dL_law_873 (by decide) (fun _ => ?_) (fun c => absurd rfl c)
  exact kk hD1 hD2 (fun q => (hdj q).symm) hR2 (by omega) (by omega)
set_option maxHeartbeats 1000000 in
theorem lc_back {RR : xT → Nat → xS → Prop} {p : Program} {l : Launch} {e : Env} {s : State} {m : MethodId} {below : List Frame} {meth : Method} {cd : Code} {G : xG} {b0 L : Nat} {xs : Nat → Int32} {A : Nat → Prop} {Q : State → Prop} {t : xT} {a b : Nat} {u : xS} {H : Heap} {locs : List Loc} {ls : Array Slot} {cells slots : Nat} {xi : Int32} (hst : sT_back RR) (hkx : ∀ {t : xT} {u : xS}, RR t a u → tK t a = 11) (hE : xE p s m #[Value.ref b0] meth cd cL_law RL G 4 ret) (hX : va_X b0 L xs s s.heap) (hbl : b0 < s.heap.size) (hbA : ¬ A b0) (h1 : vp_in (xi + (1 : Int32)) L) (h2 : vp_in (xi + (2 : Int32)) L) (h3 : vp_in (xi + (3 : Int32)) L) (h4 : vp_in (xi + (4 : Int32)) L) (hD1 : xD G A s.heap (tE G t) t.1 H locs) (hD2 : xD G A s.heap (mW G b u) t.1 H locs) (hdj : ∀ q, tE G t q = none ∨ mW G b u q = none) (hRR : RR t a u) (hl : lv_has ls 4 [(0, .ref b0), (1, .ref a), (2, .ref b), (3, .int xi)]) (hc : cells + 10 ≤ 600000) (hk : slots + 357 ≤ 7302250) (kk : ∀ {t1 : xT} {u1 : xS} {H1 : Heap} {locs1 : List Loc} {cells1 slots1 : Nat}, xD G A s.heap (tE G t1) t1.1 H1 locs1 → xD G A s.heap (mW G b u1) t1.1 H1 locs1 → (∀ q, tE G t1 q = none ∨ mW G b u1 q = none) → RR t1 a u1 → cells1 ≤ cells + 10 → slots1 ≤ slots + 357 → W p l e room_1 s m #[Value.ref b0] below meth cd H1 locs1 cells1 slots1 Q (F0 m 2012 ls [])) : W p l e room_1 s m #[Value.ref b0] below meth cd H locs cells slots Q (F0 m 878 ls []) := by
  have hx := hE.1; have hb := hE.2.1
  obtain ⟨v, u2, hF1, hF2, hR2⟩ := hst t a u (xs (xi + (1 : Int32)).toNatClampNeg) (xs (xi + (2 : Int32)).toNatClampNeg) (xs (xi + (3 : Int32)).toNatClampNeg) (xs (xi + (4 : Int32)).toNatClampNeg) hRR
  refine lv_aload_n hx hb dL_law_878 rfl (lv_at hl 1 rfl) ?_
  refine lv_aload_n hx hb dL_law_879 rfl (lv_at hl 0 rfl) ?_
  refine lv_iload_n hx hb dL_law_880 rfl (lv_at hl 3 rfl) ?_
  refine lv_iconst (v := (1 : Int32)) hx hb dL_law_881 (by decide) ?_
  refine lv_iadd hx hb dL_law_882 ?_
  refine va_sld hx hb hX hbl hbA hD1.2.2.1 h1 dL_law_883 ?_
  refine lv_aload_n hx hb dL_law_884 rfl (lv_at hl 0 rfl) ?_
  refine lv_iload_n hx hb dL_law_885 rfl (lv_at hl 3 rfl) ?_
  refine lv_iconst (v := (2 : Int32)) hx hb dL_law_886 (by decide) ?_
  refine lv_iadd hx hb dL_law_887 ?_
  refine va_sld hx hb hX hbl hbA hD1.2.2.1 h2 dL_law_888 ?_
  refine lv_aload_n hx hb dL_law_889 rfl (lv_at hl 0 rfl) ?_
  refine lv_iload_n hx hb dL_law_890 rfl (lv_at hl 3 rfl) ?_
  refine lv_iconst (v := (3 : Int32)) hx hb dL_law_891 (by decide) ?_
  refine lv_iadd hx hb dL_law_892 ?_
  refine va_sld hx hb hX hbl hbA hD1.2.2.1 h3 dL_law_893 ?_
  refine lv_aload_n hx hb dL_law_894 rfl (lv_at hl 0 rfl) ?_
  refine lv_iload_n hx hb dL_law_895 rfl (lv_at hl 3 rfl) ?_
  refine lv_iconst (v := (4 : Int32)) hx hb dL_law_896 (by decide) ?_
  refine lv_iadd hx hb dL_law_897 ?_
  refine va_sld hx hb hX hbl hbA hD1.2.2.1 h4 dL_law_898 ?_
  refine kFi (As := [.int (xs (xi + (1 : Int32)).toNatClampNeg), .int (xs (xi + (2 : Int32)).toNatClampNeg), .int (xs (xi + (3 : Int32)).toNatClampNeg), .int (xs (xi + (4 : Int32)).toNatClampNeg)]) (rest := []) hE hl hD1 hD2 hdj (c_X11_back hF1) kl_L_93 (tE_11 (hkx hRR)) rfl rfl rfl rfl (Nat.le_of_ble_eq_true rfl) dL_law_899 ⟨Nat.le_of_ble_eq_true rfl, Nat.le_of_ble_eq_true rfl⟩ ⟨by show cells + 0 ≤ 600000; omega, by show slots + 0 ≤ 7302250; omega⟩ (fun H locs (hD1 : xD G A s.heap (tE G t) t.1 H locs) (hD2 : xD G A s.heap (mW G b u) t.1 H locs) (hdj : ∀ q, tE G t q = none ∨ mW G b u q = none) => ?_)
  refine lv_aload_n hx hb dL_law_902 rfl (lv_at hl 2 rfl) ?_
  refine lv_aload_n hx hb dL_law_903 rfl (lv_at hl 0 rfl) ?_
  refine lv_iload_n hx hb dL_law_904 rfl (lv_at hl 3 rfl) ?_
  refine lv_iconst (v := (1 : Int32)) hx hb dL_law_905 (by decide) ?_
  refine lv_iadd hx hb dL_law_906 ?_
  refine va_sld hx hb hX hbl hbA hD1.2.2.1 h1 dL_law_907 ?_
  refine lv_aload_n hx hb dL_law_908 rfl (lv_at hl 0 rfl) ?_
  refine lv_iload_n hx hb dL_law_909 rfl (lv_at hl 3 rfl) ?_
  refine lv_iconst (v := (2 : Int32)) hx hb dL_law_910 (by decide) ?_
  refine lv_iadd hx hb dL_law_911 ?_
  refine va_sld hx hb hX hbl hbA hD1.2.2.1 h2 dL_law_912 ?_
  refine lv_aload_n hx hb dL_law_913 rfl (lv_at hl 0 rfl) ?_
  refine lv_iload_n hx hb dL_law_914 rfl (lv_at hl 3 rfl) ?_
  refine lv_iconst (v := (3 : Int32)) hx hb dL_law_915 (by decide) ?_
  refine lv_iadd hx hb dL_law_916 ?_
  refine va_sld hx hb hX hbl hbA hD1.2.2.1 h3 dL_law_917 ?_
  refine lv_aload_n hx hb dL_law_918 rfl (lv_at hl 0 rfl) ?_
  refine lv_iload_n hx hb dL_law_919 rfl (lv_at hl 3 rfl) ?_
  refine lv_iconst (v := (4 : Int32)) hx hb dL_law_920 (by decide) ?_
  refine lv_iadd hx hb dL_law_921 ?_
  refine va_sld hx hb hX hbl hbA hD1.2.2.1 h4 dL_law_922 ?_
  refine kFi (As := [.int (xs (xi + (1 : Int32)).toNatClampNeg), .int (xs (xi + (2 : Int32)).toNatClampNeg), .int (xs (xi + (3 : Int32)).toNatClampNeg), .int (xs (xi + (4 : Int32)).toNatClampNeg)]) (rest := [.int v]) hE hl hD2 hD1 (fun q => (hdj q).symm) (c_X12_back (b := b) hF2) kl_L_96 (mW_0 _ _ _) rfl rfl rfl rfl (Nat.le_of_ble_eq_true rfl) dL_law_923 ⟨Nat.le_of_ble_eq_true rfl, Nat.le_of_ble_eq_true rfl⟩ ⟨by show cells + 0 + 0 ≤ 600000; omega, by show slots + 0 + 0 ≤ 7302250; omega⟩ (fun H locs (hD2 : xD G A s.heap (mW G b u2) t.1 H locs) (hD1 : xD G A s.heap (tE G t) t.1 H locs) (hdj : ∀ q, mW G b u2 q = none ∨ tE G t q = none) => ?_)
  refine lv_icmp_eq (tgt := 2012) hx hb dL_law_926 (by decide) (fun _ => ?_) (fun c => absurd rfl c)
  exact kk hD1 hD2 (fun q => (hdj q).symm) hR2 (by omega) (by omega)
set_option maxHeartbeats 1000000 in
theorem lc_rich {RR : xT → Nat → xS → Prop} {p : Program} {l : Launch} {e : Env} {s : State} {m : MethodId} {below : List Frame} {meth : Method} {cd : Code} {G : xG} {b0 L : Nat} {xs : Nat → Int32} {A : Nat → Prop} {Q : State → Prop} {t : xT} {a b : Nat} {u : xS} {H : Heap} {locs : List Loc} {ls : Array Slot} {cells slots : Nat} {xi : Int32} (hst : sT_rich RR) (hkx : ∀ {t : xT} {u : xS}, RR t a u → tK t a = 11) (hE : xE p s m #[Value.ref b0] meth cd cL_law RL G 4 ret) (hX : va_X b0 L xs s s.heap) (hbl : b0 < s.heap.size) (hbA : ¬ A b0) (h1 : vp_in (xi + (1 : Int32)) L) (h2 : vp_in (xi + (2 : Int32)) L) (h3 : vp_in (xi + (3 : Int32)) L) (h4 : vp_in (xi + (4 : Int32)) L) (hD1 : xD G A s.heap (tE G t) t.1 H locs) (hD2 : xD G A s.heap (mW G b u) t.1 H locs) (hdj : ∀ q, tE G t q = none ∨ mW G b u q = none) (hRR : RR t a u) (hl : lv_has ls 4 [(0, .ref b0), (1, .ref a), (2, .ref b), (3, .int xi)]) (hc : cells + 10 ≤ 600000) (hk : slots + 357 ≤ 7302250) (kk : ∀ {t1 : xT} {u1 : xS} {H1 : Heap} {locs1 : List Loc} {cells1 slots1 : Nat}, xD G A s.heap (tE G t1) t1.1 H1 locs1 → xD G A s.heap (mW G b u1) t1.1 H1 locs1 → (∀ q, tE G t1 q = none ∨ mW G b u1 q = none) → RR t1 a u1 → cells1 ≤ cells + 10 → slots1 ≤ slots + 357 → W p l e room_1 s m #[Value.ref b0] below meth cd H1 locs1 cells1 slots1 Q (F0 m 2012 ls [])) : W p l e room_1 s m #[Value.ref b0] below meth cd H locs cells slots Q (F0 m 931 ls []) := by
  have hx := hE.1; have hb := hE.2.1
  obtain ⟨v, t2, u2, hF1, hF2, hR2⟩ := hst t a u (xs (xi + (1 : Int32)).toNatClampNeg) (xs (xi + (2 : Int32)).toNatClampNeg) hRR
  refine lv_aload_n hx hb dL_law_931 rfl (lv_at hl 1 rfl) ?_
  refine lv_aload_n hx hb dL_law_932 rfl (lv_at hl 0 rfl) ?_
  refine lv_iload_n hx hb dL_law_933 rfl (lv_at hl 3 rfl) ?_
  refine lv_iconst (v := (1 : Int32)) hx hb dL_law_934 (by decide) ?_
  refine lv_iadd hx hb dL_law_935 ?_
  refine va_sld hx hb hX hbl hbA hD1.2.2.1 h1 dL_law_936 ?_
  refine lv_aload_n hx hb dL_law_937 rfl (lv_at hl 0 rfl) ?_
  refine lv_iload_n hx hb dL_law_938 rfl (lv_at hl 3 rfl) ?_
  refine lv_iconst (v := (2 : Int32)) hx hb dL_law_939 (by decide) ?_
  refine lv_iadd hx hb dL_law_940 ?_
  refine va_sld hx hb hX hbl hbA hD1.2.2.1 h2 dL_law_941 ?_
  refine kFi (As := [.int (xs (xi + (1 : Int32)).toNatClampNeg), .int (xs (xi + (2 : Int32)).toNatClampNeg)]) (rest := []) hE hl hD1 hD2 hdj (c_X11_rich hF1) kl_L_97 (tE_11 (hkx hRR)) rfl rfl rfl rfl (Nat.le_of_ble_eq_true rfl) dL_law_942 ⟨Nat.le_of_ble_eq_true rfl, Nat.le_of_ble_eq_true rfl⟩ ⟨by show cells + 0 ≤ 600000; omega, by show slots + 0 ≤ 7302250; omega⟩ (fun H locs (hD1 : xD G A s.heap (tE G t2) t2.1 H locs) (hD2 : xD G A s.heap (mW G b u) t2.1 H locs) (hdj : ∀ q, tE G t2 q = none ∨ mW G b u q = none) => ?_)
  refine lv_aload_n hx hb dL_law_945 rfl (lv_at hl 2 rfl) ?_
  refine lv_aload_n hx hb dL_law_946 rfl (lv_at hl 0 rfl) ?_
  refine lv_iload_n hx hb dL_law_947 rfl (lv_at hl 3 rfl) ?_
  refine lv_iconst (v := (1 : Int32)) hx hb dL_law_948 (by decide) ?_
  refine lv_iadd hx hb dL_law_949 ?_
  refine va_sld hx hb hX hbl hbA hD1.2.2.1 h1 dL_law_950 ?_
  refine lv_aload_n hx hb dL_law_951 rfl (lv_at hl 0 rfl) ?_
  refine lv_iload_n hx hb dL_law_952 rfl (lv_at hl 3 rfl) ?_
  refine lv_iconst (v := (2 : Int32)) hx hb dL_law_953 (by decide) ?_
  refine lv_iadd hx hb dL_law_954 ?_
  refine va_sld hx hb hX hbl hbA hD1.2.2.1 h2 dL_law_955 ?_
  refine kFi (As := [.int (xs (xi + (1 : Int32)).toNatClampNeg), .int (xs (xi + (2 : Int32)).toNatClampNeg)]) (rest := [.int v]) hE hl hD2 hD1 (fun q => (hdj q).symm) (c_X12_rich (b := b) hF2) kl_L_100 (mW_0 _ _ _) rfl rfl rfl rfl (Nat.le_of_ble_eq_true rfl) dL_law_956 ⟨Nat.le_of_ble_eq_true rfl, Nat.le_of_ble_eq_true rfl⟩ ⟨by show cells + 0 + 0 ≤ 600000; omega, by show slots + 0 + 0 ≤ 7302250; omega⟩ (fun H locs (hD2 : xD G A s.heap (mW G b u2) t2.1 H locs) (hD1 : xD G A s.heap (tE G t2) t2.1 H locs) (hdj : ∀ q, mW G b u2 q = none ∨ tE G t2 q = none) => ?_)
  refine lv_icmp_eq (tgt := 2012) hx hb dL_law_959 (by decide) (fun _ => ?_) (fun c => absurd rfl c)
  exact kk hD1 hD2 (fun q => (hdj q).symm) hR2 (by omega) (by omega)
set_option maxHeartbeats 1000000 in
theorem lc_order {RR : xT → Nat → xS → Prop} {p : Program} {l : Launch} {e : Env} {s : State} {m : MethodId} {below : List Frame} {meth : Method} {cd : Code} {G : xG} {b0 L : Nat} {xs : Nat → Int32} {A : Nat → Prop} {Q : State → Prop} {t : xT} {a b : Nat} {u : xS} {H : Heap} {locs : List Loc} {ls : Array Slot} {cells slots : Nat} {xi : Int32} (hst : sT_order RR) (hkx : ∀ {t : xT} {u : xS}, RR t a u → tK t a = 11) (hE : xE p s m #[Value.ref b0] meth cd cL_law RL G 4 ret) (hX : va_X b0 L xs s s.heap) (hbl : b0 < s.heap.size) (hbA : ¬ A b0) (h1 : vp_in (xi + (1 : Int32)) L) (h2 : vp_in (xi + (2 : Int32)) L) (h3 : vp_in (xi + (3 : Int32)) L) (h4 : vp_in (xi + (4 : Int32)) L) (hD1 : xD G A s.heap (tE G t) t.1 H locs) (hD2 : xD G A s.heap (mW G b u) t.1 H locs) (hdj : ∀ q, tE G t q = none ∨ mW G b u q = none) (hRR : RR t a u) (hl : lv_has ls 4 [(0, .ref b0), (1, .ref a), (2, .ref b), (3, .int xi)]) (hc : cells + 10 ≤ 600000) (hk : slots + 357 ≤ 7302250) (kk : ∀ {t1 : xT} {u1 : xS} {H1 : Heap} {locs1 : List Loc} {cells1 slots1 : Nat}, xD G A s.heap (tE G t1) t1.1 H1 locs1 → xD G A s.heap (mW G b u1) t1.1 H1 locs1 → (∀ q, tE G t1 q = none ∨ mW G b u1 q = none) → RR t1 a u1 → cells1 ≤ cells + 10 → slots1 ≤ slots + 357 → W p l e room_1 s m #[Value.ref b0] below meth cd H1 locs1 cells1 slots1 Q (F0 m 2012 ls [])) : W p l e room_1 s m #[Value.ref b0] below meth cd H locs cells slots Q (F0 m 964 ls []) := by
  have hx := hE.1; have hb := hE.2.1
  obtain ⟨v, t2, u2, hF1, hF2, hR2⟩ := hst t a u (xs (xi + (1 : Int32)).toNatClampNeg) (xs (xi + (2 : Int32)).toNatClampNeg) (xs (xi + (3 : Int32)).toNatClampNeg) hRR
  refine lv_aload_n hx hb dL_law_964 rfl (lv_at hl 1 rfl) ?_
  refine lv_aload_n hx hb dL_law_965 rfl (lv_at hl 0 rfl) ?_
  refine lv_iload_n hx hb dL_law_966 rfl (lv_at hl 3 rfl) ?_
  refine lv_iconst (v := (1 : Int32)) hx hb dL_law_967 (by decide) ?_
  refine lv_iadd hx hb dL_law_968 ?_
  refine va_sld hx hb hX hbl hbA hD1.2.2.1 h1 dL_law_969 ?_
  refine lv_aload_n hx hb dL_law_970 rfl (lv_at hl 0 rfl) ?_
  refine lv_iload_n hx hb dL_law_971 rfl (lv_at hl 3 rfl) ?_
  refine lv_iconst (v := (2 : Int32)) hx hb dL_law_972 (by decide) ?_
  refine lv_iadd hx hb dL_law_973 ?_
  refine va_sld hx hb hX hbl hbA hD1.2.2.1 h2 dL_law_974 ?_
  refine lv_aload_n hx hb dL_law_975 rfl (lv_at hl 0 rfl) ?_
  refine lv_iload_n hx hb dL_law_976 rfl (lv_at hl 3 rfl) ?_
  refine lv_iconst (v := (3 : Int32)) hx hb dL_law_977 (by decide) ?_
  refine lv_iadd hx hb dL_law_978 ?_
  refine va_sld hx hb hX hbl hbA hD1.2.2.1 h3 dL_law_979 ?_
  refine kFi (As := [.int (xs (xi + (1 : Int32)).toNatClampNeg), .int (xs (xi + (2 : Int32)).toNatClampNeg), .int (xs (xi + (3 : Int32)).toNatClampNeg)]) (rest := []) hE hl hD1 hD2 hdj (c_X11_order hF1) kl_L_101 (tE_11 (hkx hRR)) rfl rfl rfl rfl (Nat.le_of_ble_eq_true rfl) dL_law_980 ⟨Nat.le_of_ble_eq_true rfl, Nat.le_of_ble_eq_true rfl⟩ ⟨by show cells + 0 ≤ 600000; omega, by show slots + 0 ≤ 7302250; omega⟩ (fun H locs (hD1 : xD G A s.heap (tE G t2) t2.1 H locs) (hD2 : xD G A s.heap (mW G b u) t2.1 H locs) (hdj : ∀ q, tE G t2 q = none ∨ mW G b u q = none) => ?_)
  refine lv_aload_n hx hb dL_law_983 rfl (lv_at hl 2 rfl) ?_
  refine lv_aload_n hx hb dL_law_984 rfl (lv_at hl 0 rfl) ?_
  refine lv_iload_n hx hb dL_law_985 rfl (lv_at hl 3 rfl) ?_
  refine lv_iconst (v := (1 : Int32)) hx hb dL_law_986 (by decide) ?_
  refine lv_iadd hx hb dL_law_987 ?_
  refine va_sld hx hb hX hbl hbA hD1.2.2.1 h1 dL_law_988 ?_
  refine lv_aload_n hx hb dL_law_989 rfl (lv_at hl 0 rfl) ?_
  refine lv_iload_n hx hb dL_law_990 rfl (lv_at hl 3 rfl) ?_
  refine lv_iconst (v := (2 : Int32)) hx hb dL_law_991 (by decide) ?_
  refine lv_iadd hx hb dL_law_992 ?_
  refine va_sld hx hb hX hbl hbA hD1.2.2.1 h2 dL_law_993 ?_
  refine lv_aload_n hx hb dL_law_994 rfl (lv_at hl 0 rfl) ?_
  refine lv_iload_n hx hb dL_law_995 rfl (lv_at hl 3 rfl) ?_
  refine lv_iconst (v := (3 : Int32)) hx hb dL_law_996 (by decide) ?_
  refine lv_iadd hx hb dL_law_997 ?_
  refine va_sld hx hb hX hbl hbA hD1.2.2.1 h3 dL_law_998 ?_
  refine kFi (As := [.int (xs (xi + (1 : Int32)).toNatClampNeg), .int (xs (xi + (2 : Int32)).toNatClampNeg), .int (xs (xi + (3 : Int32)).toNatClampNeg)]) (rest := [.int v]) hE hl hD2 hD1 (fun q => (hdj q).symm) (c_X12_order (b := b) hF2) kl_L_104 (mW_0 _ _ _) rfl rfl rfl rfl (Nat.le_of_ble_eq_true rfl) dL_law_999 ⟨Nat.le_of_ble_eq_true rfl, Nat.le_of_ble_eq_true rfl⟩ ⟨by show cells + 0 + 0 ≤ 600000; omega, by show slots + 0 + 0 ≤ 7302250; omega⟩ (fun H locs (hD2 : xD G A s.heap (mW G b u2) t2.1 H locs) (hD1 : xD G A s.heap (tE G t2) t2.1 H locs) (hdj : ∀ q, mW G b u2 q = none ∨ tE G t2 q = none) => ?_)
  refine lv_icmp_eq (tgt := 2012) hx hb dL_law_1002 (by decide) (fun _ => ?_) (fun c => absurd rfl c)
  exact kk hD1 hD2 (fun q => (hdj q).symm) hR2 (by omega) (by omega)
set_option maxHeartbeats 1000000 in
theorem lc_poor {RR : xT → Nat → xS → Prop} {p : Program} {l : Launch} {e : Env} {s : State} {m : MethodId} {below : List Frame} {meth : Method} {cd : Code} {G : xG} {b0 L : Nat} {xs : Nat → Int32} {A : Nat → Prop} {Q : State → Prop} {t : xT} {a b : Nat} {u : xS} {H : Heap} {locs : List Loc} {ls : Array Slot} {cells slots : Nat} {xi : Int32} (hst : sT_poor RR) (hkx : ∀ {t : xT} {u : xS}, RR t a u → tK t a = 11) (hE : xE p s m #[Value.ref b0] meth cd cL_law RL G 4 ret) (hX : va_X b0 L xs s s.heap) (hbl : b0 < s.heap.size) (hbA : ¬ A b0) (h1 : vp_in (xi + (1 : Int32)) L) (h2 : vp_in (xi + (2 : Int32)) L) (h3 : vp_in (xi + (3 : Int32)) L) (h4 : vp_in (xi + (4 : Int32)) L) (hD1 : xD G A s.heap (tE G t) t.1 H locs) (hD2 : xD G A s.heap (mW G b u) t.1 H locs) (hdj : ∀ q, tE G t q = none ∨ mW G b u q = none) (hRR : RR t a u) (hl : lv_has ls 4 [(0, .ref b0), (1, .ref a), (2, .ref b), (3, .int xi)]) (hc : cells + 10 ≤ 600000) (hk : slots + 357 ≤ 7302250) (kk : ∀ {t1 : xT} {u1 : xS} {H1 : Heap} {locs1 : List Loc} {cells1 slots1 : Nat}, xD G A s.heap (tE G t1) t1.1 H1 locs1 → xD G A s.heap (mW G b u1) t1.1 H1 locs1 → (∀ q, tE G t1 q = none ∨ mW G b u1 q = none) → RR t1 a u1 → cells1 ≤ cells + 10 → slots1 ≤ slots + 357 → W p l e room_1 s m #[Value.ref b0] below meth cd H1 locs1 cells1 slots1 Q (F0 m 2012 ls [])) : W p l e room_1 s m #[Value.ref b0] below meth cd H locs cells slots Q (F0 m 1007 ls []) := by
  have hx := hE.1; have hb := hE.2.1
  obtain ⟨v, t2, u2, hF1, hF2, hR2⟩ := hst t a u (xs (xi + (1 : Int32)).toNatClampNeg) hRR
  refine lv_aload_n hx hb dL_law_1007 rfl (lv_at hl 1 rfl) ?_
  refine lv_aload_n hx hb dL_law_1008 rfl (lv_at hl 0 rfl) ?_
  refine lv_iload_n hx hb dL_law_1009 rfl (lv_at hl 3 rfl) ?_
  refine lv_iconst (v := (1 : Int32)) hx hb dL_law_1010 (by decide) ?_
  refine lv_iadd hx hb dL_law_1011 ?_
  refine va_sld hx hb hX hbl hbA hD1.2.2.1 h1 dL_law_1012 ?_
  refine kFi (As := [.int (xs (xi + (1 : Int32)).toNatClampNeg)]) (rest := []) hE hl hD1 hD2 hdj (c_X11_poor hF1) kl_L_105 (tE_11 (hkx hRR)) rfl rfl rfl rfl (Nat.le_of_ble_eq_true rfl) dL_law_1013 ⟨Nat.le_of_ble_eq_true rfl, Nat.le_of_ble_eq_true rfl⟩ ⟨by show cells + 0 ≤ 600000; omega, by show slots + 0 ≤ 7302250; omega⟩ (fun H locs (hD1 : xD G A s.heap (tE G t2) t2.1 H locs) (hD2 : xD G A s.heap (mW G b u) t2.1 H locs) (hdj : ∀ q, tE G t2 q = none ∨ mW G b u q = none) => ?_)
  refine lv_aload_n hx hb dL_law_1016 rfl (lv_at hl 2 rfl) ?_
  refine lv_aload_n hx hb dL_law_1017 rfl (lv_at hl 0 rfl) ?_
  refine lv_iload_n hx hb dL_law_1018 rfl (lv_at hl 3 rfl) ?_
  refine lv_iconst (v := (1 : Int32)) hx hb dL_law_1019 (by decide) ?_
  refine lv_iadd hx hb dL_law_1020 ?_
  refine va_sld hx hb hX hbl hbA hD1.2.2.1 h1 dL_law_1021 ?_
  refine kFi (As := [.int (xs (xi + (1 : Int32)).toNatClampNeg)]) (rest := [.int v]) hE hl hD2 hD1 (fun q => (hdj q).symm) (c_X12_poor (b := b) hF2) kl_L_108 (mW_0 _ _ _) rfl rfl rfl rfl (Nat.le_of_ble_eq_true rfl) dL_law_1022 ⟨Nat.le_of_ble_eq_true rfl, Nat.le_of_ble_eq_true rfl⟩ ⟨by show cells + 0 + 0 ≤ 600000; omega, by show slots + 0 + 0 ≤ 7302250; omega⟩ (fun H locs (hD2 : xD G A s.heap (mW G b u2) t2.1 H locs) (hD1 : xD G A s.heap (tE G t2) t2.1 H locs) (hdj : ∀ q, mW G b u2 q = none ∨ tE G t2 q = none) => ?_)
  refine lv_icmp_eq (tgt := 2012) hx hb dL_law_1025 (by decide) (fun _ => ?_) (fun c => absurd rfl c)
  exact kk hD1 hD2 (fun q => (hdj q).symm) hR2 (by omega) (by omega)
set_option maxHeartbeats 1000000 in
theorem lc_fast {RR : xT → Nat → xS → Prop} {p : Program} {l : Launch} {e : Env} {s : State} {m : MethodId} {below : List Frame} {meth : Method} {cd : Code} {G : xG} {b0 L : Nat} {xs : Nat → Int32} {A : Nat → Prop} {Q : State → Prop} {t : xT} {a b : Nat} {u : xS} {H : Heap} {locs : List Loc} {ls : Array Slot} {cells slots : Nat} {xi : Int32} (hst : sT_fast RR) (hkx : ∀ {t : xT} {u : xS}, RR t a u → tK t a = 11) (hE : xE p s m #[Value.ref b0] meth cd cL_law RL G 4 ret) (hX : va_X b0 L xs s s.heap) (hbl : b0 < s.heap.size) (hbA : ¬ A b0) (h1 : vp_in (xi + (1 : Int32)) L) (h2 : vp_in (xi + (2 : Int32)) L) (h3 : vp_in (xi + (3 : Int32)) L) (h4 : vp_in (xi + (4 : Int32)) L) (hD1 : xD G A s.heap (tE G t) t.1 H locs) (hD2 : xD G A s.heap (mW G b u) t.1 H locs) (hdj : ∀ q, tE G t q = none ∨ mW G b u q = none) (hRR : RR t a u) (hl : lv_has ls 4 [(0, .ref b0), (1, .ref a), (2, .ref b), (3, .int xi)]) (hc : cells + 10 ≤ 600000) (hk : slots + 357 ≤ 7302250) (kk : ∀ {t1 : xT} {u1 : xS} {H1 : Heap} {locs1 : List Loc} {cells1 slots1 : Nat}, xD G A s.heap (tE G t1) t1.1 H1 locs1 → xD G A s.heap (mW G b u1) t1.1 H1 locs1 → (∀ q, tE G t1 q = none ∨ mW G b u1 q = none) → RR t1 a u1 → cells1 ≤ cells + 10 → slots1 ≤ slots + 357 → W p l e room_1 s m #[Value.ref b0] below meth cd H1 locs1 cells1 slots1 Q (F0 m 2012 ls [])) : W p l e room_1 s m #[Value.ref b0] below meth cd H locs cells slots Q (F0 m 1030 ls []) := by
  have hx := hE.1; have hb := hE.2.1
  obtain ⟨v, u2, hF1, hF2, hR2⟩ := hst t a u (xs (xi + (1 : Int32)).toNatClampNeg) (xs (xi + (2 : Int32)).toNatClampNeg) hRR
  refine lv_aload_n hx hb dL_law_1030 rfl (lv_at hl 1 rfl) ?_
  refine lv_aload_n hx hb dL_law_1031 rfl (lv_at hl 0 rfl) ?_
  refine lv_iload_n hx hb dL_law_1032 rfl (lv_at hl 3 rfl) ?_
  refine lv_iconst (v := (1 : Int32)) hx hb dL_law_1033 (by decide) ?_
  refine lv_iadd hx hb dL_law_1034 ?_
  refine va_sld hx hb hX hbl hbA hD1.2.2.1 h1 dL_law_1035 ?_
  refine lv_aload_n hx hb dL_law_1036 rfl (lv_at hl 0 rfl) ?_
  refine lv_iload_n hx hb dL_law_1037 rfl (lv_at hl 3 rfl) ?_
  refine lv_iconst (v := (2 : Int32)) hx hb dL_law_1038 (by decide) ?_
  refine lv_iadd hx hb dL_law_1039 ?_
  refine va_sld hx hb hX hbl hbA hD1.2.2.1 h2 dL_law_1040 ?_
  refine kFi (As := [.int (xs (xi + (1 : Int32)).toNatClampNeg), .int (xs (xi + (2 : Int32)).toNatClampNeg)]) (rest := []) hE hl hD1 hD2 hdj (c_X11_fast hF1) kl_L_109 (tE_11 (hkx hRR)) rfl rfl rfl rfl (Nat.le_of_ble_eq_true rfl) dL_law_1041 ⟨Nat.le_of_ble_eq_true rfl, Nat.le_of_ble_eq_true rfl⟩ ⟨by show cells + 0 ≤ 600000; omega, by show slots + 0 ≤ 7302250; omega⟩ (fun H locs (hD1 : xD G A s.heap (tE G t) t.1 H locs) (hD2 : xD G A s.heap (mW G b u) t.1 H locs) (hdj : ∀ q, tE G t q = none ∨ mW G b u q = none) => ?_)
  refine lv_aload_n hx hb dL_law_1044 rfl (lv_at hl 2 rfl) ?_
  refine lv_aload_n hx hb dL_law_1045 rfl (lv_at hl 0 rfl) ?_
  refine lv_iload_n hx hb dL_law_1046 rfl (lv_at hl 3 rfl) ?_
  refine lv_iconst (v := (1 : Int32)) hx hb dL_law_1047 (by decide) ?_
  refine lv_iadd hx hb dL_law_1048 ?_
  refine va_sld hx hb hX hbl hbA hD1.2.2.1 h1 dL_law_1049 ?_
  refine lv_aload_n hx hb dL_law_1050 rfl (lv_at hl 0 rfl) ?_
  refine lv_iload_n hx hb dL_law_1051 rfl (lv_at hl 3 rfl) ?_
  refine lv_iconst (v := (2 : Int32)) hx hb dL_law_1052 (by decide) ?_
  refine lv_iadd hx hb dL_law_1053 ?_
  refine va_sld hx hb hX hbl hbA hD1.2.2.1 h2 dL_law_1054 ?_
  refine kFi (As := [.int (xs (xi + (1 : Int32)).toNatClampNeg), .int (xs (xi + (2 : Int32)).toNatClampNeg)]) (rest := [.int v]) hE hl hD2 hD1 (fun q => (hdj q).symm) (c_X12_fast (b := b) hF2) kl_L_112 (mW_0 _ _ _) rfl rfl rfl rfl (Nat.le_of_ble_eq_true rfl) dL_law_1055 ⟨Nat.le_of_ble_eq_true rfl, Nat.le_of_ble_eq_true rfl⟩ ⟨by show cells + 0 + 0 ≤ 600000; omega, by show slots + 0 + 0 ≤ 7302250; omega⟩ (fun H locs (hD2 : xD G A s.heap (mW G b u2) t.1 H locs) (hD1 : xD G A s.heap (tE G t) t.1 H locs) (hdj : ∀ q, mW G b u2 q = none ∨ tE G t q = none) => ?_)
  refine lv_icmp_eq (tgt := 2012) hx hb dL_law_1058 (by decide) (fun _ => ?_) (fun c => absurd rfl c)
  exact kk hD1 hD2 (fun q => (hdj q).symm) hR2 (by omega) (by omega)
set_option maxHeartbeats 1000000 in
theorem lc_by {RR : xT → Nat → xS → Prop} {p : Program} {l : Launch} {e : Env} {s : State} {m : MethodId} {below : List Frame} {meth : Method} {cd : Code} {G : xG} {b0 L : Nat} {xs : Nat → Int32} {A : Nat → Prop} {Q : State → Prop} {t : xT} {a b : Nat} {u : xS} {H : Heap} {locs : List Loc} {ls : Array Slot} {cells slots : Nat} {xi : Int32} (hst : sT_by RR) (hkx : ∀ {t : xT} {u : xS}, RR t a u → tK t a = 11) (hE : xE p s m #[Value.ref b0] meth cd cL_law RL G 4 ret) (hX : va_X b0 L xs s s.heap) (hbl : b0 < s.heap.size) (hbA : ¬ A b0) (h1 : vp_in (xi + (1 : Int32)) L) (h2 : vp_in (xi + (2 : Int32)) L) (h3 : vp_in (xi + (3 : Int32)) L) (h4 : vp_in (xi + (4 : Int32)) L) (hD1 : xD G A s.heap (tE G t) t.1 H locs) (hD2 : xD G A s.heap (mW G b u) t.1 H locs) (hdj : ∀ q, tE G t q = none ∨ mW G b u q = none) (hRR : RR t a u) (hl : lv_has ls 4 [(0, .ref b0), (1, .ref a), (2, .ref b), (3, .int xi)]) (hc : cells + 10 ≤ 600000) (hk : slots + 357 ≤ 7302250) (kk : ∀ {t1 : xT} {u1 : xS} {H1 : Heap} {locs1 : List Loc} {cells1 slots1 : Nat}, xD G A s.heap (tE G t1) t1.1 H1 locs1 → xD G A s.heap (mW G b u1) t1.1 H1 locs1 → (∀ q, tE G t1 q = none ∨ mW G b u1 q = none) → RR t1 a u1 → cells1 ≤ cells + 10 → slots1 ≤ slots + 357 → W p l e room_1 s m #[Value.ref b0] below meth cd H1 locs1 cells1 slots1 Q (F0 m 2012 ls [])) : W p l e room_1 s m #[Value.ref b0] below meth cd H locs cells slots Q (F0 m 1063 ls []) := by
  have hx := hE.1; have hb := hE.2.1
  obtain ⟨v, t2, u2, hF1, hF2, hR2⟩ := hst t a u (xs (xi + (1 : Int32)).toNatClampNeg) (xs (xi + (2 : Int32)).toNatClampNeg) (xs (xi + (3 : Int32)).toNatClampNeg) hRR
  refine lv_aload_n hx hb dL_law_1063 rfl (lv_at hl 1 rfl) ?_
  refine lv_aload_n hx hb dL_law_1064 rfl (lv_at hl 0 rfl) ?_
  refine lv_iload_n hx hb dL_law_1065 rfl (lv_at hl 3 rfl) ?_
  refine lv_iconst (v := (1 : Int32)) hx hb dL_law_1066 (by decide) ?_
  refine lv_iadd hx hb dL_law_1067 ?_
  refine va_sld hx hb hX hbl hbA hD1.2.2.1 h1 dL_law_1068 ?_
  refine lv_aload_n hx hb dL_law_1069 rfl (lv_at hl 0 rfl) ?_
  refine lv_iload_n hx hb dL_law_1070 rfl (lv_at hl 3 rfl) ?_
  refine lv_iconst (v := (2 : Int32)) hx hb dL_law_1071 (by decide) ?_
  refine lv_iadd hx hb dL_law_1072 ?_
  refine va_sld hx hb hX hbl hbA hD1.2.2.1 h2 dL_law_1073 ?_
  refine lv_aload_n hx hb dL_law_1074 rfl (lv_at hl 0 rfl) ?_
  refine lv_iload_n hx hb dL_law_1075 rfl (lv_at hl 3 rfl) ?_
  refine lv_iconst (v := (3 : Int32)) hx hb dL_law_1076 (by decide) ?_
  refine lv_iadd hx hb dL_law_1077 ?_
  refine va_sld hx hb hX hbl hbA hD1.2.2.1 h3 dL_law_1078 ?_
  refine kFi (As := [.int (xs (xi + (1 : Int32)).toNatClampNeg), .int (xs (xi + (2 : Int32)).toNatClampNeg), .int (xs (xi + (3 : Int32)).toNatClampNeg)]) (rest := []) hE hl hD1 hD2 hdj (c_X11_by hF1) kl_L_113 (tE_11 (hkx hRR)) rfl rfl rfl rfl (Nat.le_of_ble_eq_true rfl) dL_law_1079 ⟨Nat.le_of_ble_eq_true rfl, Nat.le_of_ble_eq_true rfl⟩ ⟨by show cells + 0 ≤ 600000; omega, by show slots + 0 ≤ 7302250; omega⟩ (fun H locs (hD1 : xD G A s.heap (tE G t2) t2.1 H locs) (hD2 : xD G A s.heap (mW G b u) t2.1 H locs) (hdj : ∀ q, tE G t2 q = none ∨ mW G b u q = none) => ?_)
  refine lv_aload_n hx hb dL_law_1082 rfl (lv_at hl 2 rfl) ?_
  refine lv_aload_n hx hb dL_law_1083 rfl (lv_at hl 0 rfl) ?_
  refine lv_iload_n hx hb dL_law_1084 rfl (lv_at hl 3 rfl) ?_
  refine lv_iconst (v := (1 : Int32)) hx hb dL_law_1085 (by decide) ?_
  refine lv_iadd hx hb dL_law_1086 ?_
  refine va_sld hx hb hX hbl hbA hD1.2.2.1 h1 dL_law_1087 ?_
  refine lv_aload_n hx hb dL_law_1088 rfl (lv_at hl 0 rfl) ?_
  refine lv_iload_n hx hb dL_law_1089 rfl (lv_at hl 3 rfl) ?_
  refine lv_iconst (v := (2 : Int32)) hx hb dL_law_1090 (by decide) ?_
  refine lv_iadd hx hb dL_law_1091 ?_
  refine va_sld hx hb hX hbl hbA hD1.2.2.1 h2 dL_law_1092 ?_
  refine lv_aload_n hx hb dL_law_1093 rfl (lv_at hl 0 rfl) ?_
  refine lv_iload_n hx hb dL_law_1094 rfl (lv_at hl 3 rfl) ?_
  refine lv_iconst (v := (3 : Int32)) hx hb dL_law_1095 (by decide) ?_
  refine lv_iadd hx hb dL_law_1096 ?_
  refine va_sld hx hb hX hbl hbA hD1.2.2.1 h3 dL_law_1097 ?_
  refine kFi (As := [.int (xs (xi + (1 : Int32)).toNatClampNeg), .int (xs (xi + (2 : Int32)).toNatClampNeg), .int (xs (xi + (3 : Int32)).toNatClampNeg)]) (rest := [.int v]) hE hl hD2 hD1 (fun q => (hdj q).symm) (c_X12_by (b := b) hF2) kl_L_116 (mW_0 _ _ _) rfl rfl rfl rfl (Nat.le_of_ble_eq_true rfl) dL_law_1098 ⟨Nat.le_of_ble_eq_true rfl, Nat.le_of_ble_eq_true rfl⟩ ⟨by show cells + 0 + 0 ≤ 600000; omega, by show slots + 0 + 0 ≤ 7302250; omega⟩ (fun H locs (hD2 : xD G A s.heap (mW G b u2) t2.1 H locs) (hD1 : xD G A s.heap (tE G t2) t2.1 H locs) (hdj : ∀ q, mW G b u2 q = none ∨ tE G t2 q = none) => ?_)
  refine lv_icmp_eq (tgt := 2012) hx hb dL_law_1101 (by decide) (fun _ => ?_) (fun c => absurd rfl c)
  exact kk hD1 hD2 (fun q => (hdj q).symm) hR2 (by omega) (by omega)
set_option maxHeartbeats 1000000 in
theorem lc_swap {RR : xT → Nat → xS → Prop} {p : Program} {l : Launch} {e : Env} {s : State} {m : MethodId} {below : List Frame} {meth : Method} {cd : Code} {G : xG} {b0 L : Nat} {xs : Nat → Int32} {A : Nat → Prop} {Q : State → Prop} {t : xT} {a b : Nat} {u : xS} {H : Heap} {locs : List Loc} {ls : Array Slot} {cells slots : Nat} {xi : Int32} (hst : sT_swap RR) (hkx : ∀ {t : xT} {u : xS}, RR t a u → tK t a = 11) (hE : xE p s m #[Value.ref b0] meth cd cL_law RL G 4 ret) (hX : va_X b0 L xs s s.heap) (hbl : b0 < s.heap.size) (hbA : ¬ A b0) (h1 : vp_in (xi + (1 : Int32)) L) (h2 : vp_in (xi + (2 : Int32)) L) (h3 : vp_in (xi + (3 : Int32)) L) (h4 : vp_in (xi + (4 : Int32)) L) (hD1 : xD G A s.heap (tE G t) t.1 H locs) (hD2 : xD G A s.heap (mW G b u) t.1 H locs) (hdj : ∀ q, tE G t q = none ∨ mW G b u q = none) (hRR : RR t a u) (hl : lv_has ls 4 [(0, .ref b0), (1, .ref a), (2, .ref b), (3, .int xi)]) (hc : cells + 10 ≤ 600000) (hk : slots + 357 ≤ 7302250) (kk : ∀ {t1 : xT} {u1 : xS} {H1 : Heap} {locs1 : List Loc} {cells1 slots1 : Nat}, xD G A s.heap (tE G t1) t1.1 H1 locs1 → xD G A s.heap (mW G b u1) t1.1 H1 locs1 → (∀ q, tE G t1 q = none ∨ mW G b u1 q = none) → RR t1 a u1 → cells1 ≤ cells + 10 → slots1 ≤ slots + 357 → W p l e room_1 s m #[Value.ref b0] below meth cd H1 locs1 cells1 slots1 Q (F0 m 2012 ls [])) : W p l e room_1 s m #[Value.ref b0] below meth cd H locs cells slots Q (F0 m 1106 ls []) := by
  have hx := hE.1; have hb := hE.2.1
  obtain ⟨v, u2, hF1, hF2, hR2⟩ := hst t a u (xs (xi + (1 : Int32)).toNatClampNeg) (xs (xi + (2 : Int32)).toNatClampNeg) (xs (xi + (3 : Int32)).toNatClampNeg) hRR
  refine lv_aload_n hx hb dL_law_1106 rfl (lv_at hl 1 rfl) ?_
  refine lv_aload_n hx hb dL_law_1107 rfl (lv_at hl 0 rfl) ?_
  refine lv_iload_n hx hb dL_law_1108 rfl (lv_at hl 3 rfl) ?_
  refine lv_iconst (v := (1 : Int32)) hx hb dL_law_1109 (by decide) ?_
  refine lv_iadd hx hb dL_law_1110 ?_
  refine va_sld hx hb hX hbl hbA hD1.2.2.1 h1 dL_law_1111 ?_
  refine lv_aload_n hx hb dL_law_1112 rfl (lv_at hl 0 rfl) ?_
  refine lv_iload_n hx hb dL_law_1113 rfl (lv_at hl 3 rfl) ?_
  refine lv_iconst (v := (2 : Int32)) hx hb dL_law_1114 (by decide) ?_
  refine lv_iadd hx hb dL_law_1115 ?_
  refine va_sld hx hb hX hbl hbA hD1.2.2.1 h2 dL_law_1116 ?_
  refine lv_aload_n hx hb dL_law_1117 rfl (lv_at hl 0 rfl) ?_
  refine lv_iload_n hx hb dL_law_1118 rfl (lv_at hl 3 rfl) ?_
  refine lv_iconst (v := (3 : Int32)) hx hb dL_law_1119 (by decide) ?_
  refine lv_iadd hx hb dL_law_1120 ?_
  refine va_sld hx hb hX hbl hbA hD1.2.2.1 h3 dL_law_1121 ?_
  refine kFi (As := [.int (xs (xi + (1 : Int32)).toNatClampNeg), .int (xs (xi + (2 : Int32)).toNatClampNeg), .int (xs (xi + (3 : Int32)).toNatClampNeg)]) (rest := []) hE hl hD1 hD2 hdj (c_X11_swap hF1) kl_L_117 (tE_11 (hkx hRR)) rfl rfl rfl rfl (Nat.le_of_ble_eq_true rfl) dL_law_1122 ⟨Nat.le_of_ble_eq_true rfl, Nat.le_of_ble_eq_true rfl⟩ ⟨by show cells + 0 ≤ 600000; omega, by show slots + 0 ≤ 7302250; omega⟩ (fun H locs (hD1 : xD G A s.heap (tE G t) t.1 H locs) (hD2 : xD G A s.heap (mW G b u) t.1 H locs) (hdj : ∀ q, tE G t q = none ∨ mW G b u q = none) => ?_)
  refine lv_aload_n hx hb dL_law_1125 rfl (lv_at hl 2 rfl) ?_
  refine lv_aload_n hx hb dL_law_1126 rfl (lv_at hl 0 rfl) ?_
  refine lv_iload_n hx hb dL_law_1127 rfl (lv_at hl 3 rfl) ?_
  refine lv_iconst (v := (1 : Int32)) hx hb dL_law_1128 (by decide) ?_
  refine lv_iadd hx hb dL_law_1129 ?_
  refine va_sld hx hb hX hbl hbA hD1.2.2.1 h1 dL_law_1130 ?_
  refine lv_aload_n hx hb dL_law_1131 rfl (lv_at hl 0 rfl) ?_
  refine lv_iload_n hx hb dL_law_1132 rfl (lv_at hl 3 rfl) ?_
  refine lv_iconst (v := (2 : Int32)) hx hb dL_law_1133 (by decide) ?_
  refine lv_iadd hx hb dL_law_1134 ?_
  refine va_sld hx hb hX hbl hbA hD1.2.2.1 h2 dL_law_1135 ?_
  refine lv_aload_n hx hb dL_law_1136 rfl (lv_at hl 0 rfl) ?_
  refine lv_iload_n hx hb dL_law_1137 rfl (lv_at hl 3 rfl) ?_
  refine lv_iconst (v := (3 : Int32)) hx hb dL_law_1138 (by decide) ?_
  refine lv_iadd hx hb dL_law_1139 ?_
  refine va_sld hx hb hX hbl hbA hD1.2.2.1 h3 dL_law_1140 ?_
  refine kFi (As := [.int (xs (xi + (1 : Int32)).toNatClampNeg), .int (xs (xi + (2 : Int32)).toNatClampNeg), .int (xs (xi + (3 : Int32)).toNatClampNeg)]) (rest := [.int v]) hE hl hD2 hD1 (fun q => (hdj q).symm) (c_X12_swap (b := b) hF2) kl_L_120 (mW_0 _ _ _) rfl rfl rfl rfl (Nat.le_of_ble_eq_true rfl) dL_law_1141 ⟨Nat.le_of_ble_eq_true rfl, Nat.le_of_ble_eq_true rfl⟩ ⟨by show cells + 0 + 0 ≤ 600000; omega, by show slots + 0 + 0 ≤ 7302250; omega⟩ (fun H locs (hD2 : xD G A s.heap (mW G b u2) t.1 H locs) (hD1 : xD G A s.heap (tE G t) t.1 H locs) (hdj : ∀ q, mW G b u2 q = none ∨ tE G t q = none) => ?_)
  refine lv_icmp_eq (tgt := 2012) hx hb dL_law_1144 (by decide) (fun _ => ?_) (fun c => absurd rfl c)
  exact kk hD1 hD2 (fun q => (hdj q).symm) hR2 (by omega) (by omega)
set_option maxHeartbeats 1000000 in
theorem lc_devil {RR : xT → Nat → xS → Prop} {p : Program} {l : Launch} {e : Env} {s : State} {m : MethodId} {below : List Frame} {meth : Method} {cd : Code} {G : xG} {b0 L : Nat} {xs : Nat → Int32} {A : Nat → Prop} {Q : State → Prop} {t : xT} {a b : Nat} {u : xS} {H : Heap} {locs : List Loc} {ls : Array Slot} {cells slots : Nat} {xi : Int32} (hst : sT_devil RR) (hkx : ∀ {t : xT} {u : xS}, RR t a u → tK t a = 11) (hE : xE p s m #[Value.ref b0] meth cd cL_law RL G 4 ret) (hX : va_X b0 L xs s s.heap) (hbl : b0 < s.heap.size) (hbA : ¬ A b0) (h1 : vp_in (xi + (1 : Int32)) L) (h2 : vp_in (xi + (2 : Int32)) L) (h3 : vp_in (xi + (3 : Int32)) L) (h4 : vp_in (xi + (4 : Int32)) L) (hD1 : xD G A s.heap (tE G t) t.1 H locs) (hD2 : xD G A s.heap (mW G b u) t.1 H locs) (hdj : ∀ q, tE G t q = none ∨ mW G b u q = none) (hRR : RR t a u) (hl : lv_has ls 4 [(0, .ref b0), (1, .ref a), (2, .ref b), (3, .int xi)]) (hc : cells + 10 ≤ 600000) (hk : slots + 357 ≤ 7302250) (kk : ∀ {t1 : xT} {u1 : xS} {H1 : Heap} {locs1 : List Loc} {cells1 slots1 : Nat}, xD G A s.heap (tE G t1) t1.1 H1 locs1 → xD G A s.heap (mW G b u1) t1.1 H1 locs1 → (∀ q, tE G t1 q = none ∨ mW G b u1 q = none) → RR t1 a u1 → cells1 ≤ cells + 10 → slots1 ≤ slots + 357 → W p l e room_1 s m #[Value.ref b0] below meth cd H1 locs1 cells1 slots1 Q (F0 m 2012 ls [])) : W p l e room_1 s m #[Value.ref b0] below meth cd H locs cells slots Q (F0 m 1149 ls []) := by
  have hx := hE.1; have hb := hE.2.1
  obtain ⟨v, t2, u2, hF1, hF2, hR2⟩ := hst t a u (xs (xi + (1 : Int32)).toNatClampNeg) (xs (xi + (2 : Int32)).toNatClampNeg) (xs (xi + (3 : Int32)).toNatClampNeg) hRR
  refine lv_aload_n hx hb dL_law_1149 rfl (lv_at hl 1 rfl) ?_
  refine lv_aload_n hx hb dL_law_1150 rfl (lv_at hl 0 rfl) ?_
  refine lv_iload_n hx hb dL_law_1151 rfl (lv_at hl 3 rfl) ?_
  refine lv_iconst (v := (1 : Int32)) hx hb dL_law_1152 (by decide) ?_
  refine lv_iadd hx hb dL_law_1153 ?_
  refine va_sld hx hb hX hbl hbA hD1.2.2.1 h1 dL_law_1154 ?_
  refine lv_aload_n hx hb dL_law_1155 rfl (lv_at hl 0 rfl) ?_
  refine lv_iload_n hx hb dL_law_1156 rfl (lv_at hl 3 rfl) ?_
  refine lv_iconst (v := (2 : Int32)) hx hb dL_law_1157 (by decide) ?_
  refine lv_iadd hx hb dL_law_1158 ?_
  refine va_sld hx hb hX hbl hbA hD1.2.2.1 h2 dL_law_1159 ?_
  refine lv_aload_n hx hb dL_law_1160 rfl (lv_at hl 0 rfl) ?_
  refine lv_iload_n hx hb dL_law_1161 rfl (lv_at hl 3 rfl) ?_
  refine lv_iconst (v := (3 : Int32)) hx hb dL_law_1162 (by decide) ?_
  refine lv_iadd hx hb dL_law_1163 ?_
  refine va_sld hx hb hX hbl hbA hD1.2.2.1 h3 dL_law_1164 ?_
  refine kFi (As := [.int (xs (xi + (1 : Int32)).toNatClampNeg), .int (xs (xi + (2 : Int32)).toNatClampNeg), .int (xs (xi + (3 : Int32)).toNatClampNeg)]) (rest := []) hE hl hD1 hD2 hdj (c_X11_devil hF1) kl_L_121 (tE_11 (hkx hRR)) rfl rfl rfl rfl (Nat.le_of_ble_eq_true rfl) dL_law_1165 ⟨Nat.le_of_ble_eq_true rfl, Nat.le_of_ble_eq_true rfl⟩ ⟨by show cells + 1 ≤ 600000; omega, by show slots + 8 ≤ 7302250; omega⟩ (fun H locs (hD1 : xD G A s.heap (tE G t2) t2.1 H locs) (hD2 : xD G A s.heap (mW G b u) t2.1 H locs) (hdj : ∀ q, tE G t2 q = none ∨ mW G b u q = none) => ?_)
  refine lv_aload_n hx hb dL_law_1168 rfl (lv_at hl 2 rfl) ?_
  refine lv_aload_n hx hb dL_law_1169 rfl (lv_at hl 0 rfl) ?_
  refine lv_iload_n hx hb dL_law_1170 rfl (lv_at hl 3 rfl) ?_
  refine lv_iconst (v := (1 : Int32)) hx hb dL_law_1171 (by decide) ?_
  refine lv_iadd hx hb dL_law_1172 ?_
  refine va_sld hx hb hX hbl hbA hD1.2.2.1 h1 dL_law_1173 ?_
  refine lv_aload_n hx hb dL_law_1174 rfl (lv_at hl 0 rfl) ?_
  refine lv_iload_n hx hb dL_law_1175 rfl (lv_at hl 3 rfl) ?_
  refine lv_iconst (v := (2 : Int32)) hx hb dL_law_1176 (by decide) ?_
  refine lv_iadd hx hb dL_law_1177 ?_
  refine va_sld hx hb hX hbl hbA hD1.2.2.1 h2 dL_law_1178 ?_
  refine lv_aload_n hx hb dL_law_1179 rfl (lv_at hl 0 rfl) ?_
  refine lv_iload_n hx hb dL_law_1180 rfl (lv_at hl 3 rfl) ?_
  refine lv_iconst (v := (3 : Int32)) hx hb dL_law_1181 (by decide) ?_
  refine lv_iadd hx hb dL_law_1182 ?_
  refine va_sld hx hb hX hbl hbA hD1.2.2.1 h3 dL_law_1183 ?_
  refine kFi (As := [.int (xs (xi + (1 : Int32)).toNatClampNeg), .int (xs (xi + (2 : Int32)).toNatClampNeg), .int (xs (xi + (3 : Int32)).toNatClampNeg)]) (rest := [.int v]) hE hl hD2 hD1 (fun q => (hdj q).symm) (c_X12_devil (b := b) hF2) kl_L_124 (mW_0 _ _ _) rfl rfl rfl rfl (Nat.le_of_ble_eq_true rfl) dL_law_1184 ⟨Nat.le_of_ble_eq_true rfl, Nat.le_of_ble_eq_true rfl⟩ ⟨by show cells + 1 + 0 ≤ 600000; omega, by show slots + 8 + 0 ≤ 7302250; omega⟩ (fun H locs (hD2 : xD G A s.heap (mW G b u2) t2.1 H locs) (hD1 : xD G A s.heap (tE G t2) t2.1 H locs) (hdj : ∀ q, mW G b u2 q = none ∨ tE G t2 q = none) => ?_)
  refine lv_icmp_eq (tgt := 2012) hx hb dL_law_1187 (by decide) (fun _ => ?_) (fun c => absurd rfl c)
  exact kk hD1 hD2 (fun q => (hdj q).symm) hR2 (by omega) (by omega)
set_option maxHeartbeats 1000000 in
theorem lc_rate {RR : xT → Nat → xS → Prop} {p : Program} {l : Launch} {e : Env} {s : State} {m : MethodId} {below : List Frame} {meth : Method} {cd : Code} {G : xG} {b0 L : Nat} {xs : Nat → Int32} {A : Nat → Prop} {Q : State → Prop} {t : xT} {a b : Nat} {u : xS} {H : Heap} {locs : List Loc} {ls : Array Slot} {cells slots : Nat} {xi : Int32} (hst : sT_rate RR) (hkx : ∀ {t : xT} {u : xS}, RR t a u → tK t a = 11) (hE : xE p s m #[Value.ref b0] meth cd cL_law RL G 4 ret) (hX : va_X b0 L xs s s.heap) (hbl : b0 < s.heap.size) (hbA : ¬ A b0) (h1 : vp_in (xi + (1 : Int32)) L) (h2 : vp_in (xi + (2 : Int32)) L) (h3 : vp_in (xi + (3 : Int32)) L) (h4 : vp_in (xi + (4 : Int32)) L) (hD1 : xD G A s.heap (tE G t) t.1 H locs) (hD2 : xD G A s.heap (mW G b u) t.1 H locs) (hdj : ∀ q, tE G t q = none ∨ mW G b u q = none) (hRR : RR t a u) (hl : lv_has ls 4 [(0, .ref b0), (1, .ref a), (2, .ref b), (3, .int xi)]) (hc : cells + 10 ≤ 600000) (hk : slots + 357 ≤ 7302250) (kk : ∀ {t1 : xT} {u1 : xS} {H1 : Heap} {locs1 : List Loc} {cells1 slots1 : Nat}, xD G A s.heap (tE G t1) t1.1 H1 locs1 → xD G A s.heap (mW G b u1) t1.1 H1 locs1 → (∀ q, tE G t1 q = none ∨ mW G b u1 q = none) → RR t1 a u1 → cells1 ≤ cells + 10 → slots1 ≤ slots + 357 → W p l e room_1 s m #[Value.ref b0] below meth cd H1 locs1 cells1 slots1 Q (F0 m 2012 ls [])) : W p l e room_1 s m #[Value.ref b0] below meth cd H locs cells slots Q (F0 m 1192 ls []) := by
  have hx := hE.1; have hb := hE.2.1
  obtain ⟨v, u2, hF1, hF2, hR2⟩ := hst t a u (xs (xi + (1 : Int32)).toNatClampNeg) (xs (xi + (2 : Int32)).toNatClampNeg) (xs (xi + (3 : Int32)).toNatClampNeg) hRR
  refine lv_aload_n hx hb dL_law_1192 rfl (lv_at hl 1 rfl) ?_
  refine lv_aload_n hx hb dL_law_1193 rfl (lv_at hl 0 rfl) ?_
  refine lv_iload_n hx hb dL_law_1194 rfl (lv_at hl 3 rfl) ?_
  refine lv_iconst (v := (1 : Int32)) hx hb dL_law_1195 (by decide) ?_
  refine lv_iadd hx hb dL_law_1196 ?_
  refine va_sld hx hb hX hbl hbA hD1.2.2.1 h1 dL_law_1197 ?_
  refine lv_aload_n hx hb dL_law_1198 rfl (lv_at hl 0 rfl) ?_
  refine lv_iload_n hx hb dL_law_1199 rfl (lv_at hl 3 rfl) ?_
  refine lv_iconst (v := (2 : Int32)) hx hb dL_law_1200 (by decide) ?_
  refine lv_iadd hx hb dL_law_1201 ?_
  refine va_sld hx hb hX hbl hbA hD1.2.2.1 h2 dL_law_1202 ?_
  refine lv_aload_n hx hb dL_law_1203 rfl (lv_at hl 0 rfl) ?_
  refine lv_iload_n hx hb dL_law_1204 rfl (lv_at hl 3 rfl) ?_
  refine lv_iconst (v := (3 : Int32)) hx hb dL_law_1205 (by decide) ?_
  refine lv_iadd hx hb dL_law_1206 ?_
  refine va_sld hx hb hX hbl hbA hD1.2.2.1 h3 dL_law_1207 ?_
  refine kFi (As := [.int (xs (xi + (1 : Int32)).toNatClampNeg), .int (xs (xi + (2 : Int32)).toNatClampNeg), .int (xs (xi + (3 : Int32)).toNatClampNeg)]) (rest := []) hE hl hD1 hD2 hdj (c_X11_rate hF1) kl_L_125 (tE_11 (hkx hRR)) rfl rfl rfl rfl (Nat.le_of_ble_eq_true rfl) dL_law_1208 ⟨Nat.le_of_ble_eq_true rfl, Nat.le_of_ble_eq_true rfl⟩ ⟨by show cells + 0 ≤ 600000; omega, by show slots + 0 ≤ 7302250; omega⟩ (fun H locs (hD1 : xD G A s.heap (tE G t) t.1 H locs) (hD2 : xD G A s.heap (mW G b u) t.1 H locs) (hdj : ∀ q, tE G t q = none ∨ mW G b u q = none) => ?_)
  refine lv_aload_n hx hb dL_law_1211 rfl (lv_at hl 2 rfl) ?_
  refine lv_aload_n hx hb dL_law_1212 rfl (lv_at hl 0 rfl) ?_
  refine lv_iload_n hx hb dL_law_1213 rfl (lv_at hl 3 rfl) ?_
  refine lv_iconst (v := (1 : Int32)) hx hb dL_law_1214 (by decide) ?_
  refine lv_iadd hx hb dL_law_1215 ?_
  refine va_sld hx hb hX hbl hbA hD1.2.2.1 h1 dL_law_1216 ?_
  refine lv_aload_n hx hb dL_law_1217 rfl (lv_at hl 0 rfl) ?_
  refine lv_iload_n hx hb dL_law_1218 rfl (lv_at hl 3 rfl) ?_
  refine lv_iconst (v := (2 : Int32)) hx hb dL_law_1219 (by decide) ?_
  refine lv_iadd hx hb dL_law_1220 ?_
  refine va_sld hx hb hX hbl hbA hD1.2.2.1 h2 dL_law_1221 ?_
  refine lv_aload_n hx hb dL_law_1222 rfl (lv_at hl 0 rfl) ?_
  refine lv_iload_n hx hb dL_law_1223 rfl (lv_at hl 3 rfl) ?_
  refine lv_iconst (v := (3 : Int32)) hx hb dL_law_1224 (by decide) ?_
  refine lv_iadd hx hb dL_law_1225 ?_
  refine va_sld hx hb hX hbl hbA hD1.2.2.1 h3 dL_law_1226 ?_
  refine kFi (As := [.int (xs (xi + (1 : Int32)).toNatClampNeg), .int (xs (xi + (2 : Int32)).toNatClampNeg), .int (xs (xi + (3 : Int32)).toNatClampNeg)]) (rest := [.int v]) hE hl hD2 hD1 (fun q => (hdj q).symm) (c_X12_rate (b := b) hF2) kl_L_128 (mW_0 _ _ _) rfl rfl rfl rfl (Nat.le_of_ble_eq_true rfl) dL_law_1227 ⟨Nat.le_of_ble_eq_true rfl, Nat.le_of_ble_eq_true rfl⟩ ⟨by show cells + 0 + 0 ≤ 600000; omega, by show slots + 0 + 0 ≤ 7302250; omega⟩ (fun H locs (hD2 : xD G A s.heap (mW G b u2) t.1 H locs) (hD1 : xD G A s.heap (tE G t) t.1 H locs) (hdj : ∀ q, mW G b u2 q = none ∨ tE G t q = none) => ?_)
  refine lv_icmp_eq (tgt := 2012) hx hb dL_law_1230 (by decide) (fun _ => ?_) (fun c => absurd rfl c)
  exact kk hD1 hD2 (fun q => (hdj q).symm) hR2 (by omega) (by omega)
set_option maxHeartbeats 1000000 in
theorem lc_worth {RR : xT → Nat → xS → Prop} {p : Program} {l : Launch} {e : Env} {s : State} {m : MethodId} {below : List Frame} {meth : Method} {cd : Code} {G : xG} {b0 L : Nat} {xs : Nat → Int32} {A : Nat → Prop} {Q : State → Prop} {t : xT} {a b : Nat} {u : xS} {H : Heap} {locs : List Loc} {ls : Array Slot} {cells slots : Nat} {xi : Int32} (hst : sT_worth RR) (hkx : ∀ {t : xT} {u : xS}, RR t a u → tK t a = 11) (hE : xE p s m #[Value.ref b0] meth cd cL_law RL G 4 ret) (hX : va_X b0 L xs s s.heap) (hbl : b0 < s.heap.size) (hbA : ¬ A b0) (h1 : vp_in (xi + (1 : Int32)) L) (h2 : vp_in (xi + (2 : Int32)) L) (h3 : vp_in (xi + (3 : Int32)) L) (h4 : vp_in (xi + (4 : Int32)) L) (hD1 : xD G A s.heap (tE G t) t.1 H locs) (hD2 : xD G A s.heap (mW G b u) t.1 H locs) (hdj : ∀ q, tE G t q = none ∨ mW G b u q = none) (hRR : RR t a u) (hl : lv_has ls 4 [(0, .ref b0), (1, .ref a), (2, .ref b), (3, .int xi)]) (hc : cells + 10 ≤ 600000) (hk : slots + 357 ≤ 7302250) (kk : ∀ {t1 : xT} {u1 : xS} {H1 : Heap} {locs1 : List Loc} {cells1 slots1 : Nat}, xD G A s.heap (tE G t1) t1.1 H1 locs1 → xD G A s.heap (mW G b u1) t1.1 H1 locs1 → (∀ q, tE G t1 q = none ∨ mW G b u1 q = none) → RR t1 a u1 → cells1 ≤ cells + 10 → slots1 ≤ slots + 357 → W p l e room_1 s m #[Value.ref b0] below meth cd H1 locs1 cells1 slots1 Q (F0 m 2012 ls [])) : W p l e room_1 s m #[Value.ref b0] below meth cd H locs cells slots Q (F0 m 1235 ls []) := by
  have hx := hE.1; have hb := hE.2.1
  obtain ⟨v, u2, hF1, hF2, hR2⟩ := hst t a u (xs (xi + (1 : Int32)).toNatClampNeg) (xs (xi + (2 : Int32)).toNatClampNeg) (xs (xi + (3 : Int32)).toNatClampNeg) (xs (xi + (4 : Int32)).toNatClampNeg) hRR
  refine lv_aload_n hx hb dL_law_1235 rfl (lv_at hl 1 rfl) ?_
  refine lv_aload_n hx hb dL_law_1236 rfl (lv_at hl 0 rfl) ?_
  refine lv_iload_n hx hb dL_law_1237 rfl (lv_at hl 3 rfl) ?_
  refine lv_iconst (v := (1 : Int32)) hx hb dL_law_1238 (by decide) ?_
  refine lv_iadd hx hb dL_law_1239 ?_
  refine va_sld hx hb hX hbl hbA hD1.2.2.1 h1 dL_law_1240 ?_
  refine lv_aload_n hx hb dL_law_1241 rfl (lv_at hl 0 rfl) ?_
  refine lv_iload_n hx hb dL_law_1242 rfl (lv_at hl 3 rfl) ?_
  refine lv_iconst (v := (2 : Int32)) hx hb dL_law_1243 (by decide) ?_
  refine lv_iadd hx hb dL_law_1244 ?_
  refine va_sld hx hb hX hbl hbA hD1.2.2.1 h2 dL_law_1245 ?_
  refine lv_aload_n hx hb dL_law_1246 rfl (lv_at hl 0 rfl) ?_
  refine lv_iload_n hx hb dL_law_1247 rfl (lv_at hl 3 rfl) ?_
  refine lv_iconst (v := (3 : Int32)) hx hb dL_law_1248 (by decide) ?_
  refine lv_iadd hx hb dL_law_1249 ?_
  refine va_sld hx hb hX hbl hbA hD1.2.2.1 h3 dL_law_1250 ?_
  refine lv_aload_n hx hb dL_law_1251 rfl (lv_at hl 0 rfl) ?_
  refine lv_iload_n hx hb dL_law_1252 rfl (lv_at hl 3 rfl) ?_
  refine lv_iconst (v := (4 : Int32)) hx hb dL_law_1253 (by decide) ?_
  refine lv_iadd hx hb dL_law_1254 ?_
  refine va_sld hx hb hX hbl hbA hD1.2.2.1 h4 dL_law_1255 ?_
  refine kFl (As := [.int (xs (xi + (1 : Int32)).toNatClampNeg), .int (xs (xi + (2 : Int32)).toNatClampNeg), .int (xs (xi + (3 : Int32)).toNatClampNeg), .int (xs (xi + (4 : Int32)).toNatClampNeg)]) (rest := []) hE hl hD1 hD2 hdj (c_X11_worth hF1) kl_L_129 (tE_11 (hkx hRR)) rfl rfl rfl rfl (Nat.le_of_ble_eq_true rfl) dL_law_1256 ⟨Nat.le_of_ble_eq_true rfl, Nat.le_of_ble_eq_true rfl⟩ ⟨by show cells + 0 ≤ 600000; omega, by show slots + 0 ≤ 7302250; omega⟩ (fun H locs (hD1 : xD G A s.heap (tE G t) t.1 H locs) (hD2 : xD G A s.heap (mW G b u) t.1 H locs) (hdj : ∀ q, tE G t q = none ∨ mW G b u q = none) => ?_)
  refine lv_aload_n hx hb dL_law_1259 rfl (lv_at hl 2 rfl) ?_
  refine lv_aload_n hx hb dL_law_1260 rfl (lv_at hl 0 rfl) ?_
  refine lv_iload_n hx hb dL_law_1261 rfl (lv_at hl 3 rfl) ?_
  refine lv_iconst (v := (1 : Int32)) hx hb dL_law_1262 (by decide) ?_
  refine lv_iadd hx hb dL_law_1263 ?_
  refine va_sld hx hb hX hbl hbA hD1.2.2.1 h1 dL_law_1264 ?_
  refine lv_aload_n hx hb dL_law_1265 rfl (lv_at hl 0 rfl) ?_
  refine lv_iload_n hx hb dL_law_1266 rfl (lv_at hl 3 rfl) ?_
  refine lv_iconst (v := (2 : Int32)) hx hb dL_law_1267 (by decide) ?_
  refine lv_iadd hx hb dL_law_1268 ?_
  refine va_sld hx hb hX hbl hbA hD1.2.2.1 h2 dL_law_1269 ?_
  refine lv_aload_n hx hb dL_law_1270 rfl (lv_at hl 0 rfl) ?_
  refine lv_iload_n hx hb dL_law_1271 rfl (lv_at hl 3 rfl) ?_
  refine lv_iconst (v := (3 : Int32)) hx hb dL_law_1272 (by decide) ?_
  refine lv_iadd hx hb dL_law_1273 ?_
  refine va_sld hx hb hX hbl hbA hD1.2.2.1 h3 dL_law_1274 ?_
  refine lv_aload_n hx hb dL_law_1275 rfl (lv_at hl 0 rfl) ?_
  refine lv_iload_n hx hb dL_law_1276 rfl (lv_at hl 3 rfl) ?_
  refine lv_iconst (v := (4 : Int32)) hx hb dL_law_1277 (by decide) ?_
  refine lv_iadd hx hb dL_law_1278 ?_
  refine va_sld hx hb hX hbl hbA hD1.2.2.1 h4 dL_law_1279 ?_
  refine kFl (As := [.int (xs (xi + (1 : Int32)).toNatClampNeg), .int (xs (xi + (2 : Int32)).toNatClampNeg), .int (xs (xi + (3 : Int32)).toNatClampNeg), .int (xs (xi + (4 : Int32)).toNatClampNeg)]) (rest := [.long v]) hE hl hD2 hD1 (fun q => (hdj q).symm) (c_X12_worth (b := b) hF2) kl_L_133 (mW_0 _ _ _) rfl rfl rfl rfl (Nat.le_of_ble_eq_true rfl) dL_law_1280 ⟨Nat.le_of_ble_eq_true rfl, Nat.le_of_ble_eq_true rfl⟩ ⟨by show cells + 0 + 0 ≤ 600000; omega, by show slots + 0 + 0 ≤ 7302250; omega⟩ (fun H locs (hD2 : xD G A s.heap (mW G b u2) t.1 H locs) (hD1 : xD G A s.heap (tE G t) t.1 H locs) (hdj : ∀ q, mW G b u2 q = none ∨ tE G t q = none) => ?_)
  refine W.lcmp hx hb dL_law_1283 ?_
  refine lv_if_eq (tgt := 2012) hx hb dL_law_1284 (by decide) (fun _ => ?_) (fun c => absurd (show lg_cmp v v = 0 from lg_cmp_self v) c)
  exact kk hD1 hD2 (fun q => (hdj q).symm) hR2 (by omega) (by omega)
set_option maxHeartbeats 1000000 in
theorem lc_stops {RR : xT → Nat → xS → Prop} {p : Program} {l : Launch} {e : Env} {s : State} {m : MethodId} {below : List Frame} {meth : Method} {cd : Code} {G : xG} {b0 L : Nat} {xs : Nat → Int32} {A : Nat → Prop} {Q : State → Prop} {t : xT} {a b : Nat} {u : xS} {H : Heap} {locs : List Loc} {ls : Array Slot} {cells slots : Nat} {xi : Int32} (hst : sT_stops RR) (hkx : ∀ {t : xT} {u : xS}, RR t a u → tK t a = 11) (hE : xE p s m #[Value.ref b0] meth cd cL_law RL G 4 ret) (hX : va_X b0 L xs s s.heap) (hbl : b0 < s.heap.size) (hbA : ¬ A b0) (h1 : vp_in (xi + (1 : Int32)) L) (h2 : vp_in (xi + (2 : Int32)) L) (h3 : vp_in (xi + (3 : Int32)) L) (h4 : vp_in (xi + (4 : Int32)) L) (hD1 : xD G A s.heap (tE G t) t.1 H locs) (hD2 : xD G A s.heap (mW G b u) t.1 H locs) (hdj : ∀ q, tE G t q = none ∨ mW G b u q = none) (hRR : RR t a u) (hl : lv_has ls 4 [(0, .ref b0), (1, .ref a), (2, .ref b), (3, .int xi)]) (hc : cells + 10 ≤ 600000) (hk : slots + 357 ≤ 7302250) (kk : ∀ {t1 : xT} {u1 : xS} {H1 : Heap} {locs1 : List Loc} {cells1 slots1 : Nat}, xD G A s.heap (tE G t1) t1.1 H1 locs1 → xD G A s.heap (mW G b u1) t1.1 H1 locs1 → (∀ q, tE G t1 q = none ∨ mW G b u1 q = none) → RR t1 a u1 → cells1 ≤ cells + 10 → slots1 ≤ slots + 357 → W p l e room_1 s m #[Value.ref b0] below meth cd H1 locs1 cells1 slots1 Q (F0 m 2012 ls [])) : W p l e room_1 s m #[Value.ref b0] below meth cd H locs cells slots Q (F0 m 1289 ls []) := by
  have hx := hE.1; have hb := hE.2.1
  obtain ⟨v, u2, hF1, hF2, hR2⟩ := hst t a u (xs (xi + (1 : Int32)).toNatClampNeg) (xs (xi + (2 : Int32)).toNatClampNeg) (xs (xi + (3 : Int32)).toNatClampNeg) (xs (xi + (4 : Int32)).toNatClampNeg) hRR
  refine lv_aload_n hx hb dL_law_1289 rfl (lv_at hl 1 rfl) ?_
  refine lv_aload_n hx hb dL_law_1290 rfl (lv_at hl 0 rfl) ?_
  refine lv_iload_n hx hb dL_law_1291 rfl (lv_at hl 3 rfl) ?_
  refine lv_iconst (v := (1 : Int32)) hx hb dL_law_1292 (by decide) ?_
  refine lv_iadd hx hb dL_law_1293 ?_
  refine va_sld hx hb hX hbl hbA hD1.2.2.1 h1 dL_law_1294 ?_
  refine lv_aload_n hx hb dL_law_1295 rfl (lv_at hl 0 rfl) ?_
  refine lv_iload_n hx hb dL_law_1296 rfl (lv_at hl 3 rfl) ?_
  refine lv_iconst (v := (2 : Int32)) hx hb dL_law_1297 (by decide) ?_
  refine lv_iadd hx hb dL_law_1298 ?_
  refine va_sld hx hb hX hbl hbA hD1.2.2.1 h2 dL_law_1299 ?_
  refine lv_aload_n hx hb dL_law_1300 rfl (lv_at hl 0 rfl) ?_
  refine lv_iload_n hx hb dL_law_1301 rfl (lv_at hl 3 rfl) ?_
  refine lv_iconst (v := (3 : Int32)) hx hb dL_law_1302 (by decide) ?_
  refine lv_iadd hx hb dL_law_1303 ?_
  refine va_sld hx hb hX hbl hbA hD1.2.2.1 h3 dL_law_1304 ?_
  refine lv_aload_n hx hb dL_law_1305 rfl (lv_at hl 0 rfl) ?_
  refine lv_iload_n hx hb dL_law_1306 rfl (lv_at hl 3 rfl) ?_
  refine lv_iconst (v := (4 : Int32)) hx hb dL_law_1307 (by decide) ?_
  refine lv_iadd hx hb dL_law_1308 ?_
  refine va_sld hx hb hX hbl hbA hD1.2.2.1 h4 dL_law_1309 ?_
  refine kFi (As := [.int (xs (xi + (1 : Int32)).toNatClampNeg), .int (xs (xi + (2 : Int32)).toNatClampNeg), .int (xs (xi + (3 : Int32)).toNatClampNeg), .int (xs (xi + (4 : Int32)).toNatClampNeg)]) (rest := []) hE hl hD1 hD2 hdj (c_X11_stops hF1) kl_L_134 (tE_11 (hkx hRR)) rfl rfl rfl rfl (Nat.le_of_ble_eq_true rfl) dL_law_1310 ⟨Nat.le_of_ble_eq_true rfl, Nat.le_of_ble_eq_true rfl⟩ ⟨by show cells + 0 ≤ 600000; omega, by show slots + 0 ≤ 7302250; omega⟩ (fun H locs (hD1 : xD G A s.heap (tE G t) t.1 H locs) (hD2 : xD G A s.heap (mW G b u) t.1 H locs) (hdj : ∀ q, tE G t q = none ∨ mW G b u q = none) => ?_)
  refine lv_aload_n hx hb dL_law_1313 rfl (lv_at hl 2 rfl) ?_
  refine lv_aload_n hx hb dL_law_1314 rfl (lv_at hl 0 rfl) ?_
  refine lv_iload_n hx hb dL_law_1315 rfl (lv_at hl 3 rfl) ?_
  refine lv_iconst (v := (1 : Int32)) hx hb dL_law_1316 (by decide) ?_
  refine lv_iadd hx hb dL_law_1317 ?_
  refine va_sld hx hb hX hbl hbA hD1.2.2.1 h1 dL_law_1318 ?_
  refine lv_aload_n hx hb dL_law_1319 rfl (lv_at hl 0 rfl) ?_
  refine lv_iload_n hx hb dL_law_1320 rfl (lv_at hl 3 rfl) ?_
  refine lv_iconst (v := (2 : Int32)) hx hb dL_law_1321 (by decide) ?_
  refine lv_iadd hx hb dL_law_1322 ?_
  refine va_sld hx hb hX hbl hbA hD1.2.2.1 h2 dL_law_1323 ?_
  refine lv_aload_n hx hb dL_law_1324 rfl (lv_at hl 0 rfl) ?_
  refine lv_iload_n hx hb dL_law_1325 rfl (lv_at hl 3 rfl) ?_
  refine lv_iconst (v := (3 : Int32)) hx hb dL_law_1326 (by decide) ?_
  refine lv_iadd hx hb dL_law_1327 ?_
  refine va_sld hx hb hX hbl hbA hD1.2.2.1 h3 dL_law_1328 ?_
  refine lv_aload_n hx hb dL_law_1329 rfl (lv_at hl 0 rfl) ?_
  refine lv_iload_n hx hb dL_law_1330 rfl (lv_at hl 3 rfl) ?_
  refine lv_iconst (v := (4 : Int32)) hx hb dL_law_1331 (by decide) ?_
  refine lv_iadd hx hb dL_law_1332 ?_
  refine va_sld hx hb hX hbl hbA hD1.2.2.1 h4 dL_law_1333 ?_
  refine kFi (As := [.int (xs (xi + (1 : Int32)).toNatClampNeg), .int (xs (xi + (2 : Int32)).toNatClampNeg), .int (xs (xi + (3 : Int32)).toNatClampNeg), .int (xs (xi + (4 : Int32)).toNatClampNeg)]) (rest := [.int v]) hE hl hD2 hD1 (fun q => (hdj q).symm) (c_X12_stops (b := b) hF2) kl_L_137 (mW_0 _ _ _) rfl rfl rfl rfl (Nat.le_of_ble_eq_true rfl) dL_law_1334 ⟨Nat.le_of_ble_eq_true rfl, Nat.le_of_ble_eq_true rfl⟩ ⟨by show cells + 0 + 0 ≤ 600000; omega, by show slots + 0 + 0 ≤ 7302250; omega⟩ (fun H locs (hD2 : xD G A s.heap (mW G b u2) t.1 H locs) (hD1 : xD G A s.heap (tE G t) t.1 H locs) (hdj : ∀ q, mW G b u2 q = none ∨ tE G t q = none) => ?_)
  refine lv_icmp_eq (tgt := 2012) hx hb dL_law_1337 (by decide) (fun _ => ?_) (fun c => absurd rfl c)
  exact kk hD1 hD2 (fun q => (hdj q).symm) hR2 (by omega) (by omega)
set_option maxHeartbeats 1000000 in
theorem lc_meet {RR : xT → Nat → xS → Prop} {p : Program} {l : Launch} {e : Env} {s : State} {m : MethodId} {below : List Frame} {meth : Method} {cd : Code} {G : xG} {b0 L : Nat} {xs : Nat → Int32} {A : Nat → Prop} {Q : State → Prop} {t : xT} {a b : Nat} {u : xS} {H : Heap} {locs : List Loc} {ls : Array Slot} {cells slots : Nat} {xi : Int32} (hst : sT_meet RR) (hkx : ∀ {t : xT} {u : xS}, RR t a u → tK t a = 11) (hE : xE p s m #[Value.ref b0] meth cd cL_law RL G 4 ret) (hX : va_X b0 L xs s s.heap) (hbl : b0 < s.heap.size) (hbA : ¬ A b0) (h1 : vp_in (xi + (1 : Int32)) L) (h2 : vp_in (xi + (2 : Int32)) L) (h3 : vp_in (xi + (3 : Int32)) L) (h4 : vp_in (xi + (4 : Int32)) L) (hD1 : xD G A s.heap (tE G t) t.1 H locs) (hD2 : xD G A s.heap (mW G b u) t.1 H locs) (hdj : ∀ q, tE G t q = none ∨ mW G b u q = none) (hRR : RR t a u) (hl : lv_has ls 4 [(0, .ref b0), (1, .ref a), (2, .ref b), (3, .int xi)]) (hc : cells + 10 ≤ 600000) (hk : slots + 357 ≤ 7302250) (kk : ∀ {t1 : xT} {u1 : xS} {H1 : Heap} {locs1 : List Loc} {cells1 slots1 : Nat}, xD G A s.heap (tE G t1) t1.1 H1 locs1 → xD G A s.heap (mW G b u1) t1.1 H1 locs1 → (∀ q, tE G t1 q = none ∨ mW G b u1 q = none) → RR t1 a u1 → cells1 ≤ cells + 10 → slots1 ≤ slots + 357 → W p l e room_1 s m #[Value.ref b0] below meth cd H1 locs1 cells1 slots1 Q (F0 m 2012 ls [])) : W p l e room_1 s m #[Value.ref b0] below meth cd H locs cells slots Q (F0 m 1342 ls []) := by
  have hx := hE.1; have hb := hE.2.1
  obtain ⟨v, u2, hF1, hF2, hR2⟩ := hst t a u (xs (xi + (1 : Int32)).toNatClampNeg) (xs (xi + (2 : Int32)).toNatClampNeg) (xs (xi + (3 : Int32)).toNatClampNeg) (xs (xi + (4 : Int32)).toNatClampNeg) hRR
  refine lv_aload_n hx hb dL_law_1342 rfl (lv_at hl 1 rfl) ?_
  refine lv_aload_n hx hb dL_law_1343 rfl (lv_at hl 0 rfl) ?_
  refine lv_iload_n hx hb dL_law_1344 rfl (lv_at hl 3 rfl) ?_
  refine lv_iconst (v := (1 : Int32)) hx hb dL_law_1345 (by decide) ?_
  refine lv_iadd hx hb dL_law_1346 ?_
  refine va_sld hx hb hX hbl hbA hD1.2.2.1 h1 dL_law_1347 ?_
  refine lv_aload_n hx hb dL_law_1348 rfl (lv_at hl 0 rfl) ?_
  refine lv_iload_n hx hb dL_law_1349 rfl (lv_at hl 3 rfl) ?_
  refine lv_iconst (v := (2 : Int32)) hx hb dL_law_1350 (by decide) ?_
  refine lv_iadd hx hb dL_law_1351 ?_
  refine va_sld hx hb hX hbl hbA hD1.2.2.1 h2 dL_law_1352 ?_
  refine lv_aload_n hx hb dL_law_1353 rfl (lv_at hl 0 rfl) ?_
  refine lv_iload_n hx hb dL_law_1354 rfl (lv_at hl 3 rfl) ?_
  refine lv_iconst (v := (3 : Int32)) hx hb dL_law_1355 (by decide) ?_
  refine lv_iadd hx hb dL_law_1356 ?_
  refine va_sld hx hb hX hbl hbA hD1.2.2.1 h3 dL_law_1357 ?_
  refine lv_aload_n hx hb dL_law_1358 rfl (lv_at hl 0 rfl) ?_
  refine lv_iload_n hx hb dL_law_1359 rfl (lv_at hl 3 rfl) ?_
  refine lv_iconst (v := (4 : Int32)) hx hb dL_law_1360 (by decide) ?_
  refine lv_iadd hx hb dL_law_1361 ?_
  refine va_sld hx hb hX hbl hbA hD1.2.2.1 h4 dL_law_1362 ?_
  refine kFi (As := [.int (xs (xi + (1 : Int32)).toNatClampNeg), .int (xs (xi + (2 : Int32)).toNatClampNeg), .int (xs (xi + (3 : Int32)).toNatClampNeg), .int (xs (xi + (4 : Int32)).toNatClampNeg)]) (rest := []) hE hl hD1 hD2 hdj (c_X11_meet hF1) kl_L_138 (tE_11 (hkx hRR)) rfl rfl rfl rfl (Nat.le_of_ble_eq_true rfl) dL_law_1363 ⟨Nat.le_of_ble_eq_true rfl, Nat.le_of_ble_eq_true rfl⟩ ⟨by show cells + 0 ≤ 600000; omega, by show slots + 0 ≤ 7302250; omega⟩ (fun H locs (hD1 : xD G A s.heap (tE G t) t.1 H locs) (hD2 : xD G A s.heap (mW G b u) t.1 H locs) (hdj : ∀ q, tE G t q = none ∨ mW G b u q = none) => ?_)
  refine lv_aload_n hx hb dL_law_1366 rfl (lv_at hl 2 rfl) ?_
  refine lv_aload_n hx hb dL_law_1367 rfl (lv_at hl 0 rfl) ?_
  refine lv_iload_n hx hb dL_law_1368 rfl (lv_at hl 3 rfl) ?_
  refine lv_iconst (v := (1 : Int32)) hx hb dL_law_1369 (by decide) ?_
  refine lv_iadd hx hb dL_law_1370 ?_
  refine va_sld hx hb hX hbl hbA hD1.2.2.1 h1 dL_law_1371 ?_
  refine lv_aload_n hx hb dL_law_1372 rfl (lv_at hl 0 rfl) ?_
  refine lv_iload_n hx hb dL_law_1373 rfl (lv_at hl 3 rfl) ?_
  refine lv_iconst (v := (2 : Int32)) hx hb dL_law_1374 (by decide) ?_
  refine lv_iadd hx hb dL_law_1375 ?_
  refine va_sld hx hb hX hbl hbA hD1.2.2.1 h2 dL_law_1376 ?_
  refine lv_aload_n hx hb dL_law_1377 rfl (lv_at hl 0 rfl) ?_
  refine lv_iload_n hx hb dL_law_1378 rfl (lv_at hl 3 rfl) ?_
  refine lv_iconst (v := (3 : Int32)) hx hb dL_law_1379 (by decide) ?_
  refine lv_iadd hx hb dL_law_1380 ?_
  refine va_sld hx hb hX hbl hbA hD1.2.2.1 h3 dL_law_1381 ?_
  refine lv_aload_n hx hb dL_law_1382 rfl (lv_at hl 0 rfl) ?_
  refine lv_iload_n hx hb dL_law_1383 rfl (lv_at hl 3 rfl) ?_
  refine lv_iconst (v := (4 : Int32)) hx hb dL_law_1384 (by decide) ?_
  refine lv_iadd hx hb dL_law_1385 ?_
  refine va_sld hx hb hX hbl hbA hD1.2.2.1 h4 dL_law_1386 ?_
  refine kFi (As := [.int (xs (xi + (1 : Int32)).toNatClampNeg), .int (xs (xi + (2 : Int32)).toNatClampNeg), .int (xs (xi + (3 : Int32)).toNatClampNeg), .int (xs (xi + (4 : Int32)).toNatClampNeg)]) (rest := [.int v]) hE hl hD2 hD1 (fun q => (hdj q).symm) (c_X12_meet (b := b) hF2) kl_L_141 (mW_0 _ _ _) rfl rfl rfl rfl (Nat.le_of_ble_eq_true rfl) dL_law_1387 ⟨Nat.le_of_ble_eq_true rfl, Nat.le_of_ble_eq_true rfl⟩ ⟨by show cells + 0 + 0 ≤ 600000; omega, by show slots + 0 + 0 ≤ 7302250; omega⟩ (fun H locs (hD2 : xD G A s.heap (mW G b u2) t.1 H locs) (hD1 : xD G A s.heap (tE G t) t.1 H locs) (hdj : ∀ q, mW G b u2 q = none ∨ tE G t q = none) => ?_)
  refine lv_icmp_eq (tgt := 2012) hx hb dL_law_1390 (by decide) (fun _ => ?_) (fun c => absurd rfl c)
  exact kk hD1 hD2 (fun q => (hdj q).symm) hR2 (by omega) (by omega)
set_option maxHeartbeats 1000000 in
theorem lc_tale {RR : xT → Nat → xS → Prop} {p : Program} {l : Launch} {e : Env} {s : State} {m : MethodId} {below : List Frame} {meth : Method} {cd : Code} {G : xG} {b0 L : Nat} {xs : Nat → Int32} {A : Nat → Prop} {Q : State → Prop} {t : xT} {a b : Nat} {u : xS} {H : Heap} {locs : List Loc} {ls : Array Slot} {cells slots : Nat} {xi : Int32} (hst : sT_tale RR) (hkx : ∀ {t : xT} {u : xS}, RR t a u → tK t a = 11) (hE : xE p s m #[Value.ref b0] meth cd cL_law RL G 4 ret) (hX : va_X b0 L xs s s.heap) (hbl : b0 < s.heap.size) (hbA : ¬ A b0) (h1 : vp_in (xi + (1 : Int32)) L) (h2 : vp_in (xi + (2 : Int32)) L) (h3 : vp_in (xi + (3 : Int32)) L) (h4 : vp_in (xi + (4 : Int32)) L) (hD1 : xD G A s.heap (tE G t) t.1 H locs) (hD2 : xD G A s.heap (mW G b u) t.1 H locs) (hdj : ∀ q, tE G t q = none ∨ mW G b u q = none) (hRR : RR t a u) (hl : lv_has ls 4 [(0, .ref b0), (1, .ref a), (2, .ref b), (3, .int xi)]) (hc : cells + 10 ≤ 600000) (hk : slots + 357 ≤ 7302250) (kk : ∀ {t1 : xT} {u1 : xS} {H1 : Heap} {locs1 : List Loc} {cells1 slots1 : Nat}, xD G A s.heap (tE G t1) t1.1 H1 locs1 → xD G A s.heap (mW G b u1) t1.1 H1 locs1 → (∀ q, tE G t1 q = none ∨ mW G b u1 q = none) → RR t1 a u1 → cells1 ≤ cells + 10 → slots1 ≤ slots + 357 → W p l e room_1 s m #[Value.ref b0] below meth cd H1 locs1 cells1 slots1 Q (F0 m 2012 ls [])) : W p l e room_1 s m #[Value.ref b0] below meth cd H locs cells slots Q (F0 m 1395 ls []) := by
  have hx := hE.1; have hb := hE.2.1
  obtain ⟨v, t2, u2, hF1, hF2, hR2⟩ := hst t a u (xs (xi + (1 : Int32)).toNatClampNeg) (xs (xi + (2 : Int32)).toNatClampNeg) hRR
  refine lv_aload_n hx hb dL_law_1395 rfl (lv_at hl 1 rfl) ?_
  refine lv_aload_n hx hb dL_law_1396 rfl (lv_at hl 0 rfl) ?_
  refine lv_iload_n hx hb dL_law_1397 rfl (lv_at hl 3 rfl) ?_
  refine lv_iconst (v := (1 : Int32)) hx hb dL_law_1398 (by decide) ?_
  refine lv_iadd hx hb dL_law_1399 ?_
  refine va_sld hx hb hX hbl hbA hD1.2.2.1 h1 dL_law_1400 ?_
  refine lv_aload_n hx hb dL_law_1401 rfl (lv_at hl 0 rfl) ?_
  refine lv_iload_n hx hb dL_law_1402 rfl (lv_at hl 3 rfl) ?_
  refine lv_iconst (v := (2 : Int32)) hx hb dL_law_1403 (by decide) ?_
  refine lv_iadd hx hb dL_law_1404 ?_
  refine va_sld hx hb hX hbl hbA hD1.2.2.1 h2 dL_law_1405 ?_
  refine kFi (As := [.int (xs (xi + (1 : Int32)).toNatClampNeg), .int (xs (xi + (2 : Int32)).toNatClampNeg)]) (rest := []) hE hl hD1 hD2 hdj (c_X11_tale hF1) kl_L_142 (tE_11 (hkx hRR)) rfl rfl rfl rfl (Nat.le_of_ble_eq_true rfl) dL_law_1406 ⟨Nat.le_of_ble_eq_true rfl, Nat.le_of_ble_eq_true rfl⟩ ⟨by show cells + 0 ≤ 600000; omega, by show slots + 0 ≤ 7302250; omega⟩ (fun H locs (hD1 : xD G A s.heap (tE G t2) t2.1 H locs) (hD2 : xD G A s.heap (mW G b u) t2.1 H locs) (hdj : ∀ q, tE G t2 q = none ∨ mW G b u q = none) => ?_)
  refine lv_aload_n hx hb dL_law_1409 rfl (lv_at hl 2 rfl) ?_
  refine lv_aload_n hx hb dL_law_1410 rfl (lv_at hl 0 rfl) ?_
  refine lv_iload_n hx hb dL_law_1411 rfl (lv_at hl 3 rfl) ?_
  refine lv_iconst (v := (1 : Int32)) hx hb dL_law_1412 (by decide) ?_
  refine lv_iadd hx hb dL_law_1413 ?_
  refine va_sld hx hb hX hbl hbA hD1.2.2.1 h1 dL_law_1414 ?_
  refine lv_aload_n hx hb dL_law_1415 rfl (lv_at hl 0 rfl) ?_
  refine lv_iload_n hx hb dL_law_1416 rfl (lv_at hl 3 rfl) ?_
  refine lv_iconst (v := (2 : Int32)) hx hb dL_law_1417 (by decide) ?_
  refine lv_iadd hx hb dL_law_1418 ?_
  refine va_sld hx hb hX hbl hbA hD1.2.2.1 h2 dL_law_1419 ?_
  refine kFi (As := [.int (xs (xi + (1 : Int32)).toNatClampNeg), .int (xs (xi + (2 : Int32)).toNatClampNeg)]) (rest := [.int v]) hE hl hD2 hD1 (fun q => (hdj q).symm) (c_X12_tale (b := b) hF2) kl_L_145 (mW_0 _ _ _) rfl rfl rfl rfl (Nat.le_of_ble_eq_true rfl) dL_law_1420 ⟨Nat.le_of_ble_eq_true rfl, Nat.le_of_ble_eq_true rfl⟩ ⟨by show cells + 0 + 0 ≤ 600000; omega, by show slots + 0 + 0 ≤ 7302250; omega⟩ (fun H locs (hD2 : xD G A s.heap (mW G b u2) t2.1 H locs) (hD1 : xD G A s.heap (tE G t2) t2.1 H locs) (hdj : ∀ q, mW G b u2 q = none ∨ tE G t2 q = none) => ?_)
  refine lv_icmp_eq (tgt := 2012) hx hb dL_law_1423 (by decide) (fun _ => ?_) (fun c => absurd rfl c)
  exact kk hD1 hD2 (fun q => (hdj q).symm) hR2 (by omega) (by omega)
set_option maxHeartbeats 1000000 in
theorem lc_forget {RR : xT → Nat → xS → Prop} {p : Program} {l : Launch} {e : Env} {s : State} {m : MethodId} {below : List Frame} {meth : Method} {cd : Code} {G : xG} {b0 L : Nat} {xs : Nat → Int32} {A : Nat → Prop} {Q : State → Prop} {t : xT} {a b : Nat} {u : xS} {H : Heap} {locs : List Loc} {ls : Array Slot} {cells slots : Nat} {xi : Int32} (hst : sT_forget RR) (hkx : ∀ {t : xT} {u : xS}, RR t a u → tK t a = 11) (hE : xE p s m #[Value.ref b0] meth cd cL_law RL G 4 ret) (hX : va_X b0 L xs s s.heap) (hbl : b0 < s.heap.size) (hbA : ¬ A b0) (h1 : vp_in (xi + (1 : Int32)) L) (h2 : vp_in (xi + (2 : Int32)) L) (h3 : vp_in (xi + (3 : Int32)) L) (h4 : vp_in (xi + (4 : Int32)) L) (hD1 : xD G A s.heap (tE G t) t.1 H locs) (hD2 : xD G A s.heap (mW G b u) t.1 H locs) (hdj : ∀ q, tE G t q = none ∨ mW G b u q = none) (hRR : RR t a u) (hl : lv_has ls 4 [(0, .ref b0), (1, .ref a), (2, .ref b), (3, .int xi)]) (hc : cells + 10 ≤ 600000) (hk : slots + 357 ≤ 7302250) (kk : ∀ {t1 : xT} {u1 : xS} {H1 : Heap} {locs1 : List Loc} {cells1 slots1 : Nat}, xD G A s.heap (tE G t1) t1.1 H1 locs1 → xD G A s.heap (mW G b u1) t1.1 H1 locs1 → (∀ q, tE G t1 q = none ∨ mW G b u1 q = none) → RR t1 a u1 → cells1 ≤ cells + 10 → slots1 ≤ slots + 357 → W p l e room_1 s m #[Value.ref b0] below meth cd H1 locs1 cells1 slots1 Q (F0 m 2012 ls [])) : W p l e room_1 s m #[Value.ref b0] below meth cd H locs cells slots Q (F0 m 1428 ls []) := by
  have hx := hE.1; have hb := hE.2.1
  obtain ⟨v, t2, u2, hF1, hF2, hR2⟩ := hst t a u  hRR
  refine lv_aload_n hx hb dL_law_1428 rfl (lv_at hl 1 rfl) ?_
  refine kFi (As := []) (rest := []) hE hl hD1 hD2 hdj (c_X11_forget hF1) kl_L_146 (tE_11 (hkx hRR)) rfl rfl rfl rfl (Nat.le_of_ble_eq_true rfl) dL_law_1429 ⟨Nat.le_of_ble_eq_true rfl, Nat.le_of_ble_eq_true rfl⟩ ⟨by show cells + 0 ≤ 600000; omega, by show slots + 0 ≤ 7302250; omega⟩ (fun H locs (hD1 : xD G A s.heap (tE G t2) t2.1 H locs) (hD2 : xD G A s.heap (mW G b u) t2.1 H locs) (hdj : ∀ q, tE G t2 q = none ∨ mW G b u q = none) => ?_)
  refine lv_aload_n hx hb dL_law_1432 rfl (lv_at hl 2 rfl) ?_
  refine kFi (As := []) (rest := [.int v]) hE hl hD2 hD1 (fun q => (hdj q).symm) (c_X12_forget (b := b) hF2) kl_L_149 (mW_0 _ _ _) rfl rfl rfl rfl (Nat.le_of_ble_eq_true rfl) dL_law_1433 ⟨Nat.le_of_ble_eq_true rfl, Nat.le_of_ble_eq_true rfl⟩ ⟨by show cells + 0 + 0 ≤ 600000; omega, by show slots + 0 + 0 ≤ 7302250; omega⟩ (fun H locs (hD2 : xD G A s.heap (mW G b u2) t2.1 H locs) (hD1 : xD G A s.heap (tE G t2) t2.1 H locs) (hdj : ∀ q, mW G b u2 q = none ∨ tE G t2 q = none) => ?_)
  refine lv_icmp_eq (tgt := 2012) hx hb dL_law_1436 (by decide) (fun _ => ?_) (fun c => absurd rfl c)
  exact kk hD1 hD2 (fun q => (hdj q).symm) hR2 (by omega) (by omega)
set_option maxHeartbeats 1000000 in
theorem lc_fits {RR : xT → Nat → xS → Prop} {p : Program} {l : Launch} {e : Env} {s : State} {m : MethodId} {below : List Frame} {meth : Method} {cd : Code} {G : xG} {b0 L : Nat} {xs : Nat → Int32} {A : Nat → Prop} {Q : State → Prop} {t : xT} {a b : Nat} {u : xS} {H : Heap} {locs : List Loc} {ls : Array Slot} {cells slots : Nat} {xi : Int32} (hst : sT_fits RR) (hkx : ∀ {t : xT} {u : xS}, RR t a u → tK t a = 11) (hE : xE p s m #[Value.ref b0] meth cd cL_law RL G 4 ret) (hX : va_X b0 L xs s s.heap) (hbl : b0 < s.heap.size) (hbA : ¬ A b0) (h1 : vp_in (xi + (1 : Int32)) L) (h2 : vp_in (xi + (2 : Int32)) L) (h3 : vp_in (xi + (3 : Int32)) L) (h4 : vp_in (xi + (4 : Int32)) L) (hD1 : xD G A s.heap (tE G t) t.1 H locs) (hD2 : xD G A s.heap (mW G b u) t.1 H locs) (hdj : ∀ q, tE G t q = none ∨ mW G b u q = none) (hRR : RR t a u) (hl : lv_has ls 4 [(0, .ref b0), (1, .ref a), (2, .ref b), (3, .int xi)]) (hc : cells + 10 ≤ 600000) (hk : slots + 357 ≤ 7302250) (kk : ∀ {t1 : xT} {u1 : xS} {H1 : Heap} {locs1 : List Loc} {cells1 slots1 : Nat}, xD G A s.heap (tE G t1) t1.1 H1 locs1 → xD G A s.heap (mW G b u1) t1.1 H1 locs1 → (∀ q, tE G t1 q = none ∨ mW G b u1 q = none) → RR t1 a u1 → cells1 ≤ cells + 10 → slots1 ≤ slots + 357 → W p l e room_1 s m #[Value.ref b0] below meth cd H1 locs1 cells1 slots1 Q (F0 m 2012 ls [])) : W p l e room_1 s m #[Value.ref b0] below meth cd H locs cells slots Q (F0 m 1441 ls []) := by
  have hx := hE.1; have hb := hE.2.1
  obtain ⟨v, t2, u2, hF1, hF2, hR2⟩ := hst t a u (xs (xi + (1 : Int32)).toNatClampNeg) (xs (xi + (2 : Int32)).toNatClampNeg) hRR
  refine lv_aload_n hx hb dL_law_1441 rfl (lv_at hl 1 rfl) ?_
  refine lv_aload_n hx hb dL_law_1442 rfl (lv_at hl 0 rfl) ?_
  refine lv_iload_n hx hb dL_law_1443 rfl (lv_at hl 3 rfl) ?_
  refine lv_iconst (v := (1 : Int32)) hx hb dL_law_1444 (by decide) ?_
  refine lv_iadd hx hb dL_law_1445 ?_
  refine va_sld hx hb hX hbl hbA hD1.2.2.1 h1 dL_law_1446 ?_
  refine lv_aload_n hx hb dL_law_1447 rfl (lv_at hl 0 rfl) ?_
  refine lv_iload_n hx hb dL_law_1448 rfl (lv_at hl 3 rfl) ?_
  refine lv_iconst (v := (2 : Int32)) hx hb dL_law_1449 (by decide) ?_
  refine lv_iadd hx hb dL_law_1450 ?_
  refine va_sld hx hb hX hbl hbA hD1.2.2.1 h2 dL_law_1451 ?_
  refine kFi (As := [.int (xs (xi + (1 : Int32)).toNatClampNeg), .int (xs (xi + (2 : Int32)).toNatClampNeg)]) (rest := []) hE hl hD1 hD2 hdj (c_X11_fits hF1) kl_L_150 (tE_11 (hkx hRR)) rfl rfl rfl rfl (Nat.le_of_ble_eq_true rfl) dL_law_1452 ⟨Nat.le_of_ble_eq_true rfl, Nat.le_of_ble_eq_true rfl⟩ ⟨by show cells + 1 ≤ 600000; omega, by show slots + 8 ≤ 7302250; omega⟩ (fun H locs (hD1 : xD G A s.heap (tE G t2) t2.1 H locs) (hD2 : xD G A s.heap (mW G b u) t2.1 H locs) (hdj : ∀ q, tE G t2 q = none ∨ mW G b u q = none) => ?_)
  refine lv_aload_n hx hb dL_law_1455 rfl (lv_at hl 2 rfl) ?_
  refine lv_aload_n hx hb dL_law_1456 rfl (lv_at hl 0 rfl) ?_
  refine lv_iload_n hx hb dL_law_1457 rfl (lv_at hl 3 rfl) ?_
  refine lv_iconst (v := (1 : Int32)) hx hb dL_law_1458 (by decide) ?_
  refine lv_iadd hx hb dL_law_1459 ?_
  refine va_sld hx hb hX hbl hbA hD1.2.2.1 h1 dL_law_1460 ?_
  refine lv_aload_n hx hb dL_law_1461 rfl (lv_at hl 0 rfl) ?_
  refine lv_iload_n hx hb dL_law_1462 rfl (lv_at hl 3 rfl) ?_
  refine lv_iconst (v := (2 : Int32)) hx hb dL_law_1463 (by decide) ?_
  refine lv_iadd hx hb dL_law_1464 ?_
  refine va_sld hx hb hX hbl hbA hD1.2.2.1 h2 dL_law_1465 ?_
  refine kFi (As := [.int (xs (xi + (1 : Int32)).toNatClampNeg), .int (xs (xi + (2 : Int32)).toNatClampNeg)]) (rest := [.int v]) hE hl hD2 hD1 (fun q => (hdj q).symm) (c_X12_fits (b := b) hF2) kl_L_153 (mW_0 _ _ _) rfl rfl rfl rfl (Nat.le_of_ble_eq_true rfl) dL_law_1466 ⟨Nat.le_of_ble_eq_true rfl, Nat.le_of_ble_eq_true rfl⟩ ⟨by show cells + 1 + 0 ≤ 600000; omega, by show slots + 8 + 0 ≤ 7302250; omega⟩ (fun H locs (hD2 : xD G A s.heap (mW G b u2) t2.1 H locs) (hD1 : xD G A s.heap (tE G t2) t2.1 H locs) (hdj : ∀ q, mW G b u2 q = none ∨ tE G t2 q = none) => ?_)
  refine lv_icmp_eq (tgt := 2012) hx hb dL_law_1469 (by decide) (fun _ => ?_) (fun c => absurd rfl c)
  exact kk hD1 hD2 (fun q => (hdj q).symm) hR2 (by omega) (by omega)
set_option maxHeartbeats 1000000 in
theorem lc_liar {RR : xT → Nat → xS → Prop} {p : Program} {l : Launch} {e : Env} {s : State} {m : MethodId} {below : List Frame} {meth : Method} {cd : Code} {G : xG} {b0 L : Nat} {xs : Nat → Int32} {A : Nat → Prop} {Q : State → Prop} {t : xT} {a b : Nat} {u : xS} {H : Heap} {locs : List Loc} {ls : Array Slot} {cells slots : Nat} {xi : Int32} (hst : sT_liar RR) (hkx : ∀ {t : xT} {u : xS}, RR t a u → tK t a = 11) (hE : xE p s m #[Value.ref b0] meth cd cL_law RL G 4 ret) (hX : va_X b0 L xs s s.heap) (hbl : b0 < s.heap.size) (hbA : ¬ A b0) (h1 : vp_in (xi + (1 : Int32)) L) (h2 : vp_in (xi + (2 : Int32)) L) (h3 : vp_in (xi + (3 : Int32)) L) (h4 : vp_in (xi + (4 : Int32)) L) (hD1 : xD G A s.heap (tE G t) t.1 H locs) (hD2 : xD G A s.heap (mW G b u) t.1 H locs) (hdj : ∀ q, tE G t q = none ∨ mW G b u q = none) (hRR : RR t a u) (hl : lv_has ls 4 [(0, .ref b0), (1, .ref a), (2, .ref b), (3, .int xi)]) (hc : cells + 10 ≤ 600000) (hk : slots + 357 ≤ 7302250) (kk : ∀ {t1 : xT} {u1 : xS} {H1 : Heap} {locs1 : List Loc} {cells1 slots1 : Nat}, xD G A s.heap (tE G t1) t1.1 H1 locs1 → xD G A s.heap (mW G b u1) t1.1 H1 locs1 → (∀ q, tE G t1 q = none ∨ mW G b u1 q = none) → RR t1 a u1 → cells1 ≤ cells + 10 → slots1 ≤ slots + 357 → W p l e room_1 s m #[Value.ref b0] below meth cd H1 locs1 cells1 slots1 Q (F0 m 2012 ls [])) : W p l e room_1 s m #[Value.ref b0] below meth cd H locs cells slots Q (F0 m 1474 ls []) := by
  have hx := hE.1; have hb := hE.2.1
  obtain ⟨v, t2, u2, hF1, hF2, hR2⟩ := hst t a u (xs (xi + (1 : Int32)).toNatClampNeg) hRR
  refine lv_aload_n hx hb dL_law_1474 rfl (lv_at hl 1 rfl) ?_
  refine lv_aload_n hx hb dL_law_1475 rfl (lv_at hl 0 rfl) ?_
  refine lv_iload_n hx hb dL_law_1476 rfl (lv_at hl 3 rfl) ?_
  refine lv_iconst (v := (1 : Int32)) hx hb dL_law_1477 (by decide) ?_
  refine lv_iadd hx hb dL_law_1478 ?_
  refine va_sld hx hb hX hbl hbA hD1.2.2.1 h1 dL_law_1479 ?_
  refine kFi (As := [.int (xs (xi + (1 : Int32)).toNatClampNeg)]) (rest := []) hE hl hD1 hD2 hdj (c_X11_liar hF1) kl_L_154 (tE_11 (hkx hRR)) rfl rfl rfl rfl (Nat.le_of_ble_eq_true rfl) dL_law_1480 ⟨Nat.le_of_ble_eq_true rfl, Nat.le_of_ble_eq_true rfl⟩ ⟨by show cells + 1 ≤ 600000; omega, by show slots + 8 ≤ 7302250; omega⟩ (fun H locs (hD1 : xD G A s.heap (tE G t2) t2.1 H locs) (hD2 : xD G A s.heap (mW G b u) t2.1 H locs) (hdj : ∀ q, tE G t2 q = none ∨ mW G b u q = none) => ?_)
  refine lv_aload_n hx hb dL_law_1483 rfl (lv_at hl 2 rfl) ?_
  refine lv_aload_n hx hb dL_law_1484 rfl (lv_at hl 0 rfl) ?_
  refine lv_iload_n hx hb dL_law_1485 rfl (lv_at hl 3 rfl) ?_
  refine lv_iconst (v := (1 : Int32)) hx hb dL_law_1486 (by decide) ?_
  refine lv_iadd hx hb dL_law_1487 ?_
  refine va_sld hx hb hX hbl hbA hD1.2.2.1 h1 dL_law_1488 ?_
  refine kFi (As := [.int (xs (xi + (1 : Int32)).toNatClampNeg)]) (rest := [.int v]) hE hl hD2 hD1 (fun q => (hdj q).symm) (c_X12_liar (b := b) hF2) kl_L_157 (mW_0 _ _ _) rfl rfl rfl rfl (Nat.le_of_ble_eq_true rfl) dL_law_1489 ⟨Nat.le_of_ble_eq_true rfl, Nat.le_of_ble_eq_true rfl⟩ ⟨by show cells + 1 + 0 ≤ 600000; omega, by show slots + 8 + 0 ≤ 7302250; omega⟩ (fun H locs (hD2 : xD G A s.heap (mW G b u2) t2.1 H locs) (hD1 : xD G A s.heap (tE G t2) t2.1 H locs) (hdj : ∀ q, mW G b u2 q = none ∨ tE G t2 q = none) => ?_)
  refine lv_icmp_eq (tgt := 2012) hx hb dL_law_1492 (by decide) (fun _ => ?_) (fun c => absurd rfl c)
  exact kk hD1 hD2 (fun q => (hdj q).symm) hR2 (by omega) (by omega)
set_option maxHeartbeats 1000000 in
theorem lc_prove {RR : xT → Nat → xS → Prop} {p : Program} {l : Launch} {e : Env} {s : State} {m : MethodId} {below : List Frame} {meth : Method} {cd : Code} {G : xG} {b0 L : Nat} {xs : Nat → Int32} {A : Nat → Prop} {Q : State → Prop} {t : xT} {a b : Nat} {u : xS} {H : Heap} {locs : List Loc} {ls : Array Slot} {cells slots : Nat} {xi : Int32} (hst : sT_prove RR) (hkx : ∀ {t : xT} {u : xS}, RR t a u → tK t a = 11) (hE : xE p s m #[Value.ref b0] meth cd cL_law RL G 4 ret) (hX : va_X b0 L xs s s.heap) (hbl : b0 < s.heap.size) (hbA : ¬ A b0) (h1 : vp_in (xi + (1 : Int32)) L) (h2 : vp_in (xi + (2 : Int32)) L) (h3 : vp_in (xi + (3 : Int32)) L) (h4 : vp_in (xi + (4 : Int32)) L) (hD1 : xD G A s.heap (tE G t) t.1 H locs) (hD2 : xD G A s.heap (mW G b u) t.1 H locs) (hdj : ∀ q, tE G t q = none ∨ mW G b u q = none) (hRR : RR t a u) (hl : lv_has ls 4 [(0, .ref b0), (1, .ref a), (2, .ref b), (3, .int xi)]) (hc : cells + 10 ≤ 600000) (hk : slots + 357 ≤ 7302250) (kk : ∀ {t1 : xT} {u1 : xS} {H1 : Heap} {locs1 : List Loc} {cells1 slots1 : Nat}, xD G A s.heap (tE G t1) t1.1 H1 locs1 → xD G A s.heap (mW G b u1) t1.1 H1 locs1 → (∀ q, tE G t1 q = none ∨ mW G b u1 q = none) → RR t1 a u1 → cells1 ≤ cells + 10 → slots1 ≤ slots + 357 → W p l e room_1 s m #[Value.ref b0] below meth cd H1 locs1 cells1 slots1 Q (F0 m 2012 ls [])) : W p l e room_1 s m #[Value.ref b0] below meth cd H locs cells slots Q (F0 m 1497 ls []) := by
  have hx := hE.1; have hb := hE.2.1
  obtain ⟨v, t2, u2, hF1, hF2, hR2⟩ := hst t a u (xs (xi + (1 : Int32)).toNatClampNeg) (xs (xi + (2 : Int32)).toNatClampNeg) (xs (xi + (3 : Int32)).toNatClampNeg) hRR
  refine lv_aload_n hx hb dL_law_1497 rfl (lv_at hl 1 rfl) ?_
  refine lv_aload_n hx hb dL_law_1498 rfl (lv_at hl 0 rfl) ?_
  refine lv_iload_n hx hb dL_law_1499 rfl (lv_at hl 3 rfl) ?_
  refine lv_iconst (v := (1 : Int32)) hx hb dL_law_1500 (by decide) ?_
  refine lv_iadd hx hb dL_law_1501 ?_
  refine va_sld hx hb hX hbl hbA hD1.2.2.1 h1 dL_law_1502 ?_
  refine lv_aload_n hx hb dL_law_1503 rfl (lv_at hl 0 rfl) ?_
  refine lv_iload_n hx hb dL_law_1504 rfl (lv_at hl 3 rfl) ?_
  refine lv_iconst (v := (2 : Int32)) hx hb dL_law_1505 (by decide) ?_
  refine lv_iadd hx hb dL_law_1506 ?_
  refine va_sld hx hb hX hbl hbA hD1.2.2.1 h2 dL_law_1507 ?_
  refine lv_aload_n hx hb dL_law_1508 rfl (lv_at hl 0 rfl) ?_
  refine lv_iload_n hx hb dL_law_1509 rfl (lv_at hl 3 rfl) ?_
  refine lv_iconst (v := (3 : Int32)) hx hb dL_law_1510 (by decide) ?_
  refine lv_iadd hx hb dL_law_1511 ?_
  refine va_sld hx hb hX hbl hbA hD1.2.2.1 h3 dL_law_1512 ?_
  refine kFi (As := [.int (xs (xi + (1 : Int32)).toNatClampNeg), .int (xs (xi + (2 : Int32)).toNatClampNeg), .int (xs (xi + (3 : Int32)).toNatClampNeg)]) (rest := []) hE hl hD1 hD2 hdj (c_X11_prove hF1) kl_L_158 (tE_11 (hkx hRR)) rfl rfl rfl rfl (Nat.le_of_ble_eq_true rfl) dL_law_1513 ⟨Nat.le_of_ble_eq_true rfl, Nat.le_of_ble_eq_true rfl⟩ ⟨by show cells + 0 ≤ 600000; omega, by show slots + 0 ≤ 7302250; omega⟩ (fun H locs (hD1 : xD G A s.heap (tE G t2) t2.1 H locs) (hD2 : xD G A s.heap (mW G b u) t2.1 H locs) (hdj : ∀ q, tE G t2 q = none ∨ mW G b u q = none) => ?_)
  refine lv_aload_n hx hb dL_law_1516 rfl (lv_at hl 2 rfl) ?_
  refine lv_aload_n hx hb dL_law_1517 rfl (lv_at hl 0 rfl) ?_
  refine lv_iload_n hx hb dL_law_1518 rfl (lv_at hl 3 rfl) ?_
  refine lv_iconst (v := (1 : Int32)) hx hb dL_law_1519 (by decide) ?_
  refine lv_iadd hx hb dL_law_1520 ?_
  refine va_sld hx hb hX hbl hbA hD1.2.2.1 h1 dL_law_1521 ?_
  refine lv_aload_n hx hb dL_law_1522 rfl (lv_at hl 0 rfl) ?_
  refine lv_iload_n hx hb dL_law_1523 rfl (lv_at hl 3 rfl) ?_
  refine lv_iconst (v := (2 : Int32)) hx hb dL_law_1524 (by decide) ?_
  refine lv_iadd hx hb dL_law_1525 ?_
  refine va_sld hx hb hX hbl hbA hD1.2.2.1 h2 dL_law_1526 ?_
  refine lv_aload_n hx hb dL_law_1527 rfl (lv_at hl 0 rfl) ?_
  refine lv_iload_n hx hb dL_law_1528 rfl (lv_at hl 3 rfl) ?_
  refine lv_iconst (v := (3 : Int32)) hx hb dL_law_1529 (by decide) ?_
  refine lv_iadd hx hb dL_law_1530 ?_
  refine va_sld hx hb hX hbl hbA hD1.2.2.1 h3 dL_law_1531 ?_
  refine kFi (As := [.int (xs (xi + (1 : Int32)).toNatClampNeg), .int (xs (xi + (2 : Int32)).toNatClampNeg), .int (xs (xi + (3 : Int32)).toNatClampNeg)]) (rest := [.int v]) hE hl hD2 hD1 (fun q => (hdj q).symm) (c_X12_prove (b := b) hF2) kl_L_161 (mW_0 _ _ _) rfl rfl rfl rfl (Nat.le_of_ble_eq_true rfl) dL_law_1532 ⟨Nat.le_of_ble_eq_true rfl, Nat.le_of_ble_eq_true rfl⟩ ⟨by show cells + 0 + 0 ≤ 600000; omega, by show slots + 0 + 0 ≤ 7302250; omega⟩ (fun H locs (hD2 : xD G A s.heap (mW G b u2) t2.1 H locs) (hD1 : xD G A s.heap (tE G t2) t2.1 H locs) (hdj : ∀ q, mW G b u2 q = none ∨ tE G t2 q = none) => ?_)
  refine lv_icmp_eq (tgt := 2012) hx hb dL_law_1535 (by decide) (fun _ => ?_) (fun c => absurd rfl c)
  exact kk hD1 hD2 (fun q => (hdj q).symm) hR2 (by omega) (by omega)
set_option maxHeartbeats 1000000 in
theorem lc_row {RR : xT → Nat → xS → Prop} {p : Program} {l : Launch} {e : Env} {s : State} {m : MethodId} {below : List Frame} {meth : Method} {cd : Code} {G : xG} {b0 L : Nat} {xs : Nat → Int32} {A : Nat → Prop} {Q : State → Prop} {t : xT} {a b : Nat} {u : xS} {H : Heap} {locs : List Loc} {ls : Array Slot} {cells slots : Nat} {xi : Int32} (hst : sT_row RR) (hkx : ∀ {t : xT} {u : xS}, RR t a u → tK t a = 11) (hE : xE p s m #[Value.ref b0] meth cd cL_law RL G 4 ret) (hX : va_X b0 L xs s s.heap) (hbl : b0 < s.heap.size) (hbA : ¬ A b0) (h1 : vp_in (xi + (1 : Int32)) L) (h2 : vp_in (xi + (2 : Int32)) L) (h3 : vp_in (xi + (3 : Int32)) L) (h4 : vp_in (xi + (4 : Int32)) L) (hD1 : xD G A s.heap (tE G t) t.1 H locs) (hD2 : xD G A s.heap (mW G b u) t.1 H locs) (hdj : ∀ q, tE G t q = none ∨ mW G b u q = none) (hRR : RR t a u) (hl : lv_has ls 4 [(0, .ref b0), (1, .ref a), (2, .ref b), (3, .int xi)]) (hc : cells + 10 ≤ 600000) (hk : slots + 357 ≤ 7302250) (kk : ∀ {t1 : xT} {u1 : xS} {H1 : Heap} {locs1 : List Loc} {cells1 slots1 : Nat}, xD G A s.heap (tE G t1) t1.1 H1 locs1 → xD G A s.heap (mW G b u1) t1.1 H1 locs1 → (∀ q, tE G t1 q = none ∨ mW G b u1 q = none) → RR t1 a u1 → cells1 ≤ cells + 10 → slots1 ≤ slots + 357 → W p l e room_1 s m #[Value.ref b0] below meth cd H1 locs1 cells1 slots1 Q (F0 m 2012 ls [])) : W p l e room_1 s m #[Value.ref b0] below meth cd H locs cells slots Q (F0 m 1540 ls []) := by
  have hx := hE.1; have hb := hE.2.1
  obtain ⟨v, hF1, hF2, hR2⟩ := hst t a u (xs (xi + (1 : Int32)).toNatClampNeg) (xs (xi + (2 : Int32)).toNatClampNeg) hRR
  refine lv_aload_n hx hb dL_law_1540 rfl (lv_at hl 1 rfl) ?_
  refine lv_aload_n hx hb dL_law_1541 rfl (lv_at hl 0 rfl) ?_
  refine lv_iload_n hx hb dL_law_1542 rfl (lv_at hl 3 rfl) ?_
  refine lv_iconst (v := (1 : Int32)) hx hb dL_law_1543 (by decide) ?_
  refine lv_iadd hx hb dL_law_1544 ?_
  refine va_sld hx hb hX hbl hbA hD1.2.2.1 h1 dL_law_1545 ?_
  refine lv_aload_n hx hb dL_law_1546 rfl (lv_at hl 0 rfl) ?_
  refine lv_iload_n hx hb dL_law_1547 rfl (lv_at hl 3 rfl) ?_
  refine lv_iconst (v := (2 : Int32)) hx hb dL_law_1548 (by decide) ?_
  refine lv_iadd hx hb dL_law_1549 ?_
  refine va_sld hx hb hX hbl hbA hD1.2.2.1 h2 dL_law_1550 ?_
  refine kFi (As := [.int (xs (xi + (1 : Int32)).toNatClampNeg), .int (xs (xi + (2 : Int32)).toNatClampNeg)]) (rest := []) hE hl hD1 hD2 hdj (c_X11_row hF1) kl_L_162 (tE_11 (hkx hRR)) rfl rfl rfl rfl (Nat.le_of_ble_eq_true rfl) dL_law_1551 ⟨Nat.le_of_ble_eq_true rfl, Nat.le_of_ble_eq_true rfl⟩ ⟨by show cells + 0 ≤ 600000; omega, by show slots + 0 ≤ 7302250; omega⟩ (fun H locs (hD1 : xD G A s.heap (tE G t) t.1 H locs) (hD2 : xD G A s.heap (mW G b u) t.1 H locs) (hdj : ∀ q, tE G t q = none ∨ mW G b u q = none) => ?_)
  refine lv_aload_n hx hb dL_law_1554 rfl (lv_at hl 2 rfl) ?_
  refine lv_aload_n hx hb dL_law_1555 rfl (lv_at hl 0 rfl) ?_
  refine lv_iload_n hx hb dL_law_1556 rfl (lv_at hl 3 rfl) ?_
  refine lv_iconst (v := (1 : Int32)) hx hb dL_law_1557 (by decide) ?_
  refine lv_iadd hx hb dL_law_1558 ?_
  refine va_sld hx hb hX hbl hbA hD1.2.2.1 h1 dL_law_1559 ?_
  refine lv_aload_n hx hb dL_law_1560 rfl (lv_at hl 0 rfl) ?_
  refine lv_iload_n hx hb dL_law_1561 rfl (lv_at hl 3 rfl) ?_
  refine lv_iconst (v := (2 : Int32)) hx hb dL_law_1562 (by decide) ?_
  refine lv_iadd hx hb dL_law_1563 ?_
  refine va_sld hx hb hX hbl hbA hD1.2.2.1 h2 dL_law_1564 ?_
  refine kFi (As := [.int (xs (xi + (1 : Int32)).toNatClampNeg), .int (xs (xi + (2 : Int32)).toNatClampNeg)]) (rest := [.int v]) hE hl hD2 hD1 (fun q => (hdj q).symm) (c_X12_row (b := b) hF2) kl_L_165 (mW_0 _ _ _) rfl rfl rfl rfl (Nat.le_of_ble_eq_true rfl) dL_law_1565 ⟨Nat.le_of_ble_eq_true rfl, Nat.le_of_ble_eq_true rfl⟩ ⟨by show cells + 0 + 0 ≤ 600000; omega, by show slots + 0 + 0 ≤ 7302250; omega⟩ (fun H locs (hD2 : xD G A s.heap (mW G b u) t.1 H locs) (hD1 : xD G A s.heap (tE G t) t.1 H locs) (hdj : ∀ q, mW G b u q = none ∨ tE G t q = none) => ?_)
  refine lv_icmp_eq (tgt := 2012) hx hb dL_law_1568 (by decide) (fun _ => ?_) (fun c => absurd rfl c)
  exact kk hD1 hD2 (fun q => (hdj q).symm) hR2 (by omega) (by omega)
set_option maxHeartbeats 1000000 in
theorem lc_alterRow {RR : xT → Nat → xS → Prop} {p : Program} {l : Launch} {e : Env} {s : State} {m : MethodId} {below : List Frame} {meth : Method} {cd : Code} {G : xG} {b0 L : Nat} {xs : Nat → Int32} {A : Nat → Prop} {Q : State → Prop} {t : xT} {a b : Nat} {u : xS} {H : Heap} {locs : List Loc} {ls : Array Slot} {cells slots : Nat} {xi : Int32} (hst : sT_alterRow RR) (hkx : ∀ {t : xT} {u : xS}, RR t a u → tK t a = 11) (hE : xE p s m #[Value.ref b0] meth cd cL_law RL G 4 ret) (hX : va_X b0 L xs s s.heap) (hbl : b0 < s.heap.size) (hbA : ¬ A b0) (h1 : vp_in (xi + (1 : Int32)) L) (h2 : vp_in (xi + (2 : Int32)) L) (h3 : vp_in (xi + (3 : Int32)) L) (h4 : vp_in (xi + (4 : Int32)) L) (hD1 : xD G A s.heap (tE G t) t.1 H locs) (hD2 : xD G A s.heap (mW G b u) t.1 H locs) (hdj : ∀ q, tE G t q = none ∨ mW G b u q = none) (hRR : RR t a u) (hl : lv_has ls 4 [(0, .ref b0), (1, .ref a), (2, .ref b), (3, .int xi)]) (hc : cells + 10 ≤ 600000) (hk : slots + 357 ≤ 7302250) (kk : ∀ {t1 : xT} {u1 : xS} {H1 : Heap} {locs1 : List Loc} {cells1 slots1 : Nat}, xD G A s.heap (tE G t1) t1.1 H1 locs1 → xD G A s.heap (mW G b u1) t1.1 H1 locs1 → (∀ q, tE G t1 q = none ∨ mW G b u1 q = none) → RR t1 a u1 → cells1 ≤ cells + 10 → slots1 ≤ slots + 357 → W p l e room_1 s m #[Value.ref b0] below meth cd H1 locs1 cells1 slots1 Q (F0 m 2012 ls [])) : W p l e room_1 s m #[Value.ref b0] below meth cd H locs cells slots Q (F0 m 1573 ls []) := by
  have hx := hE.1; have hb := hE.2.1
  obtain ⟨v, t2, u2, hF1, hF2, hR2⟩ := hst t a u (xs (xi + (1 : Int32)).toNatClampNeg) (xs (xi + (2 : Int32)).toNatClampNeg) (xs (xi + (3 : Int32)).toNatClampNeg) hRR
  refine lv_aload_n hx hb dL_law_1573 rfl (lv_at hl 1 rfl) ?_
  refine lv_aload_n hx hb dL_law_1574 rfl (lv_at hl 0 rfl) ?_
  refine lv_iload_n hx hb dL_law_1575 rfl (lv_at hl 3 rfl) ?_
  refine lv_iconst (v := (1 : Int32)) hx hb dL_law_1576 (by decide) ?_
  refine lv_iadd hx hb dL_law_1577 ?_
  refine va_sld hx hb hX hbl hbA hD1.2.2.1 h1 dL_law_1578 ?_
  refine lv_aload_n hx hb dL_law_1579 rfl (lv_at hl 0 rfl) ?_
  refine lv_iload_n hx hb dL_law_1580 rfl (lv_at hl 3 rfl) ?_
  refine lv_iconst (v := (2 : Int32)) hx hb dL_law_1581 (by decide) ?_
  refine lv_iadd hx hb dL_law_1582 ?_
  refine va_sld hx hb hX hbl hbA hD1.2.2.1 h2 dL_law_1583 ?_
  refine lv_aload_n hx hb dL_law_1584 rfl (lv_at hl 0 rfl) ?_
  refine lv_iload_n hx hb dL_law_1585 rfl (lv_at hl 3 rfl) ?_
  refine lv_iconst (v := (3 : Int32)) hx hb dL_law_1586 (by decide) ?_
  refine lv_iadd hx hb dL_law_1587 ?_
  refine va_sld hx hb hX hbl hbA hD1.2.2.1 h3 dL_law_1588 ?_
  refine kFi (As := [.int (xs (xi + (1 : Int32)).toNatClampNeg), .int (xs (xi + (2 : Int32)).toNatClampNeg), .int (xs (xi + (3 : Int32)).toNatClampNeg)]) (rest := []) hE hl hD1 hD2 hdj (c_X11_alterRow hF1) kl_L_166 (tE_11 (hkx hRR)) rfl rfl rfl rfl (Nat.le_of_ble_eq_true rfl) dL_law_1589 ⟨Nat.le_of_ble_eq_true rfl, Nat.le_of_ble_eq_true rfl⟩ ⟨by show cells + 0 ≤ 600000; omega, by show slots + 0 ≤ 7302250; omega⟩ (fun H locs (hD1 : xD G A s.heap (tE G t2) t2.1 H locs) (hD2 : xD G A s.heap (mW G b u) t2.1 H locs) (hdj : ∀ q, tE G t2 q = none ∨ mW G b u q = none) => ?_)
  refine lv_aload_n hx hb dL_law_1592 rfl (lv_at hl 2 rfl) ?_
  refine lv_aload_n hx hb dL_law_1593 rfl (lv_at hl 0 rfl) ?_
  refine lv_iload_n hx hb dL_law_1594 rfl (lv_at hl 3 rfl) ?_
  refine lv_iconst (v := (1 : Int32)) hx hb dL_law_1595 (by decide) ?_
  refine lv_iadd hx hb dL_law_1596 ?_
  refine va_sld hx hb hX hbl hbA hD1.2.2.1 h1 dL_law_1597 ?_
  refine lv_aload_n hx hb dL_law_1598 rfl (lv_at hl 0 rfl) ?_
  refine lv_iload_n hx hb dL_law_1599 rfl (lv_at hl 3 rfl) ?_
  refine lv_iconst (v := (2 : Int32)) hx hb dL_law_1600 (by decide) ?_
  refine lv_iadd hx hb dL_law_1601 ?_
  refine va_sld hx hb hX hbl hbA hD1.2.2.1 h2 dL_law_1602 ?_
  refine lv_aload_n hx hb dL_law_1603 rfl (lv_at hl 0 rfl) ?_
  refine lv_iload_n hx hb dL_law_1604 rfl (lv_at hl 3 rfl) ?_
  refine lv_iconst (v := (3 : Int32)) hx hb dL_law_1605 (by decide) ?_
  refine lv_iadd hx hb dL_law_1606 ?_
  refine va_sld hx hb hX hbl hbA hD1.2.2.1 h3 dL_law_1607 ?_
  refine kFi (As := [.int (xs (xi + (1 : Int32)).toNatClampNeg), .int (xs (xi + (2 : Int32)).toNatClampNeg), .int (xs (xi + (3 : Int32)).toNatClampNeg)]) (rest := [.int v]) hE hl hD2 hD1 (fun q => (hdj q).symm) (c_X12_alterRow (b := b) hF2) kl_L_169 (mW_0 _ _ _) rfl rfl rfl rfl (Nat.le_of_ble_eq_true rfl) dL_law_1608 ⟨Nat.le_of_ble_eq_true rfl, Nat.le_of_ble_eq_true rfl⟩ ⟨by show cells + 0 + 0 ≤ 600000; omega, by show slots + 0 + 0 ≤ 7302250; omega⟩ (fun H locs (hD2 : xD G A s.heap (mW G b u2) t2.1 H locs) (hD1 : xD G A s.heap (tE G t2) t2.1 H locs) (hdj : ∀ q, mW G b u2 q = none ∨ tE G t2 q = none) => ?_)
  refine lv_icmp_eq (tgt := 2012) hx hb dL_law_1611 (by decide) (fun _ => ?_) (fun c => absurd rfl c)
  exact kk hD1 hD2 (fun q => (hdj q).symm) hR2 (by omega) (by omega)
set_option maxHeartbeats 1000000 in
theorem lc_judge {RR : xT → Nat → xS → Prop} {p : Program} {l : Launch} {e : Env} {s : State} {m : MethodId} {below : List Frame} {meth : Method} {cd : Code} {G : xG} {b0 L : Nat} {xs : Nat → Int32} {A : Nat → Prop} {Q : State → Prop} {t : xT} {a b : Nat} {u : xS} {H : Heap} {locs : List Loc} {ls : Array Slot} {cells slots : Nat} {xi : Int32} (hst : sT_judge RR) (hkx : ∀ {t : xT} {u : xS}, RR t a u → tK t a = 11) (hE : xE p s m #[Value.ref b0] meth cd cL_law RL G 4 ret) (hX : va_X b0 L xs s s.heap) (hbl : b0 < s.heap.size) (hbA : ¬ A b0) (h1 : vp_in (xi + (1 : Int32)) L) (h2 : vp_in (xi + (2 : Int32)) L) (h3 : vp_in (xi + (3 : Int32)) L) (h4 : vp_in (xi + (4 : Int32)) L) (hD1 : xD G A s.heap (tE G t) t.1 H locs) (hD2 : xD G A s.heap (mW G b u) t.1 H locs) (hdj : ∀ q, tE G t q = none ∨ mW G b u q = none) (hRR : RR t a u) (hl : lv_has ls 4 [(0, .ref b0), (1, .ref a), (2, .ref b), (3, .int xi)]) (hc : cells + 10 ≤ 600000) (hk : slots + 357 ≤ 7302250) (kk : ∀ {t1 : xT} {u1 : xS} {H1 : Heap} {locs1 : List Loc} {cells1 slots1 : Nat}, xD G A s.heap (tE G t1) t1.1 H1 locs1 → xD G A s.heap (mW G b u1) t1.1 H1 locs1 → (∀ q, tE G t1 q = none ∨ mW G b u1 q = none) → RR t1 a u1 → cells1 ≤ cells + 10 → slots1 ≤ slots + 357 → W p l e room_1 s m #[Value.ref b0] below meth cd H1 locs1 cells1 slots1 Q (F0 m 2012 ls [])) : W p l e room_1 s m #[Value.ref b0] below meth cd H locs cells slots Q (F0 m 1616 ls []) := by
  have hx := hE.1; have hb := hE.2.1
  obtain ⟨v, u2, hF1, hF2, hR2⟩ := hst t a u (xs (xi + (1 : Int32)).toNatClampNeg) hRR
  refine lv_aload_n hx hb dL_law_1616 rfl (lv_at hl 1 rfl) ?_
  refine lv_aload_n hx hb dL_law_1617 rfl (lv_at hl 0 rfl) ?_
  refine lv_iload_n hx hb dL_law_1618 rfl (lv_at hl 3 rfl) ?_
  refine lv_iconst (v := (1 : Int32)) hx hb dL_law_1619 (by decide) ?_
  refine lv_iadd hx hb dL_law_1620 ?_
  refine va_sld hx hb hX hbl hbA hD1.2.2.1 h1 dL_law_1621 ?_
  refine kFi (As := [.int (xs (xi + (1 : Int32)).toNatClampNeg)]) (rest := []) hE hl hD1 hD2 hdj (c_X11_judge hF1) kl_L_170 (tE_11 (hkx hRR)) rfl rfl rfl rfl (Nat.le_of_ble_eq_true rfl) dL_law_1622 ⟨Nat.le_of_ble_eq_true rfl, Nat.le_of_ble_eq_true rfl⟩ ⟨by show cells + 0 ≤ 600000; omega, by show slots + 0 ≤ 7302250; omega⟩ (fun H locs (hD1 : xD G A s.heap (tE G t) t.1 H locs) (hD2 : xD G A s.heap (mW G b u) t.1 H locs) (hdj : ∀ q, tE G t q = none ∨ mW G b u q = none) => ?_)
  refine lv_aload_n hx hb dL_law_1625 rfl (lv_at hl 2 rfl) ?_
  refine lv_aload_n hx hb dL_law_1626 rfl (lv_at hl 0 rfl) ?_
  refine lv_iload_n hx hb dL_law_1627 rfl (lv_at hl 3 rfl) ?_
  refine lv_iconst (v := (1 : Int32)) hx hb dL_law_1628 (by decide) ?_
  refine lv_iadd hx hb dL_law_1629 ?_
  refine va_sld hx hb hX hbl hbA hD1.2.2.1 h1 dL_law_1630 ?_
  refine kFi (As := [.int (xs (xi + (1 : Int32)).toNatClampNeg)]) (rest := [.int v]) hE hl hD2 hD1 (fun q => (hdj q).symm) (c_X12_judge (b := b) hF2) kl_L_173 (mW_0 _ _ _) rfl rfl rfl rfl (Nat.le_of_ble_eq_true rfl) dL_law_1631 ⟨Nat.le_of_ble_eq_true rfl, Nat.le_of_ble_eq_true rfl⟩ ⟨by show cells + 0 + 0 ≤ 600000; omega, by show slots + 0 + 0 ≤ 7302250; omega⟩ (fun H locs (hD2 : xD G A s.heap (mW G b u2) t.1 H locs) (hD1 : xD G A s.heap (tE G t) t.1 H locs) (hdj : ∀ q, mW G b u2 q = none ∨ tE G t q = none) => ?_)
  refine lv_icmp_eq (tgt := 2012) hx hb dL_law_1634 (by decide) (fun _ => ?_) (fun c => absurd rfl c)
  exact kk hD1 hD2 (fun q => (hdj q).symm) hR2 (by omega) (by omega)
set_option maxHeartbeats 1000000 in
theorem lc_sheet {RR : xT → Nat → xS → Prop} {p : Program} {l : Launch} {e : Env} {s : State} {m : MethodId} {below : List Frame} {meth : Method} {cd : Code} {G : xG} {b0 L : Nat} {xs : Nat → Int32} {A : Nat → Prop} {Q : State → Prop} {t : xT} {a b : Nat} {u : xS} {H : Heap} {locs : List Loc} {ls : Array Slot} {cells slots : Nat} {xi : Int32} (hst : sT_sheet RR) (hkx : ∀ {t : xT} {u : xS}, RR t a u → tK t a = 11) (hE : xE p s m #[Value.ref b0] meth cd cL_law RL G 4 ret) (hX : va_X b0 L xs s s.heap) (hbl : b0 < s.heap.size) (hbA : ¬ A b0) (h1 : vp_in (xi + (1 : Int32)) L) (h2 : vp_in (xi + (2 : Int32)) L) (h3 : vp_in (xi + (3 : Int32)) L) (h4 : vp_in (xi + (4 : Int32)) L) (hD1 : xD G A s.heap (tE G t) t.1 H locs) (hD2 : xD G A s.heap (mW G b u) t.1 H locs) (hdj : ∀ q, tE G t q = none ∨ mW G b u q = none) (hRR : RR t a u) (hl : lv_has ls 4 [(0, .ref b0), (1, .ref a), (2, .ref b), (3, .int xi)]) (hc : cells + 10 ≤ 600000) (hk : slots + 357 ≤ 7302250) (kk : ∀ {t1 : xT} {u1 : xS} {H1 : Heap} {locs1 : List Loc} {cells1 slots1 : Nat}, xD G A s.heap (tE G t1) t1.1 H1 locs1 → xD G A s.heap (mW G b u1) t1.1 H1 locs1 → (∀ q, tE G t1 q = none ∨ mW G b u1 q = none) → RR t1 a u1 → cells1 ≤ cells + 10 → slots1 ≤ slots + 357 → W p l e room_1 s m #[Value.ref b0] below meth cd H1 locs1 cells1 slots1 Q (F0 m 2012 ls [])) : W p l e room_1 s m #[Value.ref b0] below meth cd H locs cells slots Q (F0 m 1639 ls []) := by
  have hx := hE.1; have hb := hE.2.1
  obtain ⟨v, t2, u2, hF1, hF2, hR2⟩ := hst t a u (xs (xi + (1 : Int32)).toNatClampNeg) (xs (xi + (2 : Int32)).toNatClampNeg) (xs (xi + (3 : Int32)).toNatClampNeg) hRR
  refine lv_aload_n hx hb dL_law_1639 rfl (lv_at hl 1 rfl) ?_
  refine lv_aload_n hx hb dL_law_1640 rfl (lv_at hl 0 rfl) ?_
  refine lv_iload_n hx hb dL_law_1641 rfl (lv_at hl 3 rfl) ?_
  refine lv_iconst (v := (1 : Int32)) hx hb dL_law_1642 (by decide) ?_
  refine lv_iadd hx hb dL_law_1643 ?_
  refine va_sld hx hb hX hbl hbA hD1.2.2.1 h1 dL_law_1644 ?_
  refine lv_aload_n hx hb dL_law_1645 rfl (lv_at hl 0 rfl) ?_
  refine lv_iload_n hx hb dL_law_1646 rfl (lv_at hl 3 rfl) ?_
  refine lv_iconst (v := (2 : Int32)) hx hb dL_law_1647 (by decide) ?_
  refine lv_iadd hx hb dL_law_1648 ?_
  refine va_sld hx hb hX hbl hbA hD1.2.2.1 h2 dL_law_1649 ?_
  refine lv_aload_n hx hb dL_law_1650 rfl (lv_at hl 0 rfl) ?_
  refine lv_iload_n hx hb dL_law_1651 rfl (lv_at hl 3 rfl) ?_
  refine lv_iconst (v := (3 : Int32)) hx hb dL_law_1652 (by decide) ?_
  refine lv_iadd hx hb dL_law_1653 ?_
  refine va_sld hx hb hX hbl hbA hD1.2.2.1 h3 dL_law_1654 ?_
  refine kFi (As := [.int (xs (xi + (1 : Int32)).toNatClampNeg), .int (xs (xi + (2 : Int32)).toNatClampNeg), .int (xs (xi + (3 : Int32)).toNatClampNeg)]) (rest := []) hE hl hD1 hD2 hdj (c_X11_sheet hF1) kl_L_174 (tE_11 (hkx hRR)) rfl rfl rfl rfl (Nat.le_of_ble_eq_true rfl) dL_law_1655 ⟨Nat.le_of_ble_eq_true rfl, Nat.le_of_ble_eq_true rfl⟩ ⟨by show cells + 2 ≤ 600000; omega, by show slots + 42 ≤ 7302250; omega⟩ (fun H locs (hD1 : xD G A s.heap (tE G t2) t2.1 H locs) (hD2 : xD G A s.heap (mW G b u) t2.1 H locs) (hdj : ∀ q, tE G t2 q = none ∨ mW G b u q = none) => ?_)
  refine lv_aload_n hx hb dL_law_1658 rfl (lv_at hl 2 rfl) ?_
  refine lv_aload_n hx hb dL_law_1659 rfl (lv_at hl 0 rfl) ?_
  refine lv_iload_n hx hb dL_law_1660 rfl (lv_at hl 3 rfl) ?_
  refine lv_iconst (v := (1 : Int32)) hx hb dL_law_1661 (by decide) ?_
  refine lv_iadd hx hb dL_law_1662 ?_
  refine va_sld hx hb hX hbl hbA hD1.2.2.1 h1 dL_law_1663 ?_
  refine lv_aload_n hx hb dL_law_1664 rfl (lv_at hl 0 rfl) ?_
  refine lv_iload_n hx hb dL_law_1665 rfl (lv_at hl 3 rfl) ?_
  refine lv_iconst (v := (2 : Int32)) hx hb dL_law_1666 (by decide) ?_
  refine lv_iadd hx hb dL_law_1667 ?_
  refine va_sld hx hb hX hbl hbA hD1.2.2.1 h2 dL_law_1668 ?_
  refine lv_aload_n hx hb dL_law_1669 rfl (lv_at hl 0 rfl) ?_
  refine lv_iload_n hx hb dL_law_1670 rfl (lv_at hl 3 rfl) ?_
  refine lv_iconst (v := (3 : Int32)) hx hb dL_law_1671 (by decide) ?_
  refine lv_iadd hx hb dL_law_1672 ?_
  refine va_sld hx hb hX hbl hbA hD1.2.2.1 h3 dL_law_1673 ?_
  refine kFi (As := [.int (xs (xi + (1 : Int32)).toNatClampNeg), .int (xs (xi + (2 : Int32)).toNatClampNeg), .int (xs (xi + (3 : Int32)).toNatClampNeg)]) (rest := [.int v]) hE hl hD2 hD1 (fun q => (hdj q).symm) (c_X12_sheet (b := b) hF2) kl_L_177 (mW_0 _ _ _) rfl rfl rfl rfl (Nat.le_of_ble_eq_true rfl) dL_law_1674 ⟨Nat.le_of_ble_eq_true rfl, Nat.le_of_ble_eq_true rfl⟩ ⟨by show cells + 2 + 0 ≤ 600000; omega, by show slots + 42 + 0 ≤ 7302250; omega⟩ (fun H locs (hD2 : xD G A s.heap (mW G b u2) t2.1 H locs) (hD1 : xD G A s.heap (tE G t2) t2.1 H locs) (hdj : ∀ q, mW G b u2 q = none ∨ tE G t2 q = none) => ?_)
  refine lv_icmp_eq (tgt := 2012) hx hb dL_law_1677 (by decide) (fun _ => ?_) (fun c => absurd rfl c)
  exact kk hD1 hD2 (fun q => (hdj q).symm) hR2 (by omega) (by omega)
set_option maxHeartbeats 1000000 in
theorem lc_write {RR : xT → Nat → xS → Prop} {p : Program} {l : Launch} {e : Env} {s : State} {m : MethodId} {below : List Frame} {meth : Method} {cd : Code} {G : xG} {b0 L : Nat} {xs : Nat → Int32} {A : Nat → Prop} {Q : State → Prop} {t : xT} {a b : Nat} {u : xS} {H : Heap} {locs : List Loc} {ls : Array Slot} {cells slots : Nat} {xi : Int32} (hst : sT_write RR) (hkx : ∀ {t : xT} {u : xS}, RR t a u → tK t a = 11) (hE : xE p s m #[Value.ref b0] meth cd cL_law RL G 4 ret) (hX : va_X b0 L xs s s.heap) (hbl : b0 < s.heap.size) (hbA : ¬ A b0) (h1 : vp_in (xi + (1 : Int32)) L) (h2 : vp_in (xi + (2 : Int32)) L) (h3 : vp_in (xi + (3 : Int32)) L) (h4 : vp_in (xi + (4 : Int32)) L) (hD1 : xD G A s.heap (tE G t) t.1 H locs) (hD2 : xD G A s.heap (mW G b u) t.1 H locs) (hdj : ∀ q, tE G t q = none ∨ mW G b u q = none) (hRR : RR t a u) (hl : lv_has ls 4 [(0, .ref b0), (1, .ref a), (2, .ref b), (3, .int xi)]) (hc : cells + 10 ≤ 600000) (hk : slots + 357 ≤ 7302250) (kk : ∀ {t1 : xT} {u1 : xS} {H1 : Heap} {locs1 : List Loc} {cells1 slots1 : Nat}, xD G A s.heap (tE G t1) t1.1 H1 locs1 → xD G A s.heap (mW G b u1) t1.1 H1 locs1 → (∀ q, tE G t1 q = none ∨ mW G b u1 q = none) → RR t1 a u1 → cells1 ≤ cells + 10 → slots1 ≤ slots + 357 → W p l e room_1 s m #[Value.ref b0] below meth cd H1 locs1 cells1 slots1 Q (F0 m 2012 ls [])) : W p l e room_1 s m #[Value.ref b0] below meth cd H locs cells slots Q (F0 m 1682 ls []) := by
  have hx := hE.1; have hb := hE.2.1
  obtain ⟨v, t2, u2, hF1, hF2, hR2⟩ := hst t a u (xs (xi + (1 : Int32)).toNatClampNeg) (xs (xi + (2 : Int32)).toNatClampNeg) (xs (xi + (3 : Int32)).toNatClampNeg) hRR
  refine lv_aload_n hx hb dL_law_1682 rfl (lv_at hl 1 rfl) ?_
  refine lv_aload_n hx hb dL_law_1683 rfl (lv_at hl 0 rfl) ?_
  refine lv_iload_n hx hb dL_law_1684 rfl (lv_at hl 3 rfl) ?_
  refine lv_iconst (v := (1 : Int32)) hx hb dL_law_1685 (by decide) ?_
  refine lv_iadd hx hb dL_law_1686 ?_
  refine va_sld hx hb hX hbl hbA hD1.2.2.1 h1 dL_law_1687 ?_
  refine lv_aload_n hx hb dL_law_1688 rfl (lv_at hl 0 rfl) ?_
  refine lv_iload_n hx hb dL_law_1689 rfl (lv_at hl 3 rfl) ?_
  refine lv_iconst (v := (2 : Int32)) hx hb dL_law_1690 (by decide) ?_
  refine lv_iadd hx hb dL_law_1691 ?_
  refine va_sld hx hb hX hbl hbA hD1.2.2.1 h2 dL_law_1692 ?_
  refine lv_aload_n hx hb dL_law_1693 rfl (lv_at hl 0 rfl) ?_
  refine lv_iload_n hx hb dL_law_1694 rfl (lv_at hl 3 rfl) ?_
  refine lv_iconst (v := (3 : Int32)) hx hb dL_law_1695 (by decide) ?_
  refine lv_iadd hx hb dL_law_1696 ?_
  refine va_sld hx hb hX hbl hbA hD1.2.2.1 h3 dL_law_1697 ?_
  refine kFi (As := [.int (xs (xi + (1 : Int32)).toNatClampNeg), .int (xs (xi + (2 : Int32)).toNatClampNeg), .int (xs (xi + (3 : Int32)).toNatClampNeg)]) (rest := []) hE hl hD1 hD2 hdj (c_X11_write hF1) kl_L_178 (tE_11 (hkx hRR)) rfl rfl rfl rfl (Nat.le_of_ble_eq_true rfl) dL_law_1698 ⟨Nat.le_of_ble_eq_true rfl, Nat.le_of_ble_eq_true rfl⟩ ⟨by show cells + 0 ≤ 600000; omega, by show slots + 0 ≤ 7302250; omega⟩ (fun H locs (hD1 : xD G A s.heap (tE G t2) t2.1 H locs) (hD2 : xD G A s.heap (mW G b u) t2.1 H locs) (hdj : ∀ q, tE G t2 q = none ∨ mW G b u q = none) => ?_)
  refine lv_aload_n hx hb dL_law_1701 rfl (lv_at hl 2 rfl) ?_
  refine lv_aload_n hx hb dL_law_1702 rfl (lv_at hl 0 rfl) ?_
  refine lv_iload_n hx hb dL_law_1703 rfl (lv_at hl 3 rfl) ?_
  refine lv_iconst (v := (1 : Int32)) hx hb dL_law_1704 (by decide) ?_
  refine lv_iadd hx hb dL_law_1705 ?_
  refine va_sld hx hb hX hbl hbA hD1.2.2.1 h1 dL_law_1706 ?_
  refine lv_aload_n hx hb dL_law_1707 rfl (lv_at hl 0 rfl) ?_
  refine lv_iload_n hx hb dL_law_1708 rfl (lv_at hl 3 rfl) ?_
  refine lv_iconst (v := (2 : Int32)) hx hb dL_law_1709 (by decide) ?_
  refine lv_iadd hx hb dL_law_1710 ?_
  refine va_sld hx hb hX hbl hbA hD1.2.2.1 h2 dL_law_1711 ?_
  refine lv_aload_n hx hb dL_law_1712 rfl (lv_at hl 0 rfl) ?_
  refine lv_iload_n hx hb dL_law_1713 rfl (lv_at hl 3 rfl) ?_
  refine lv_iconst (v := (3 : Int32)) hx hb dL_law_1714 (by decide) ?_
  refine lv_iadd hx hb dL_law_1715 ?_
  refine va_sld hx hb hX hbl hbA hD1.2.2.1 h3 dL_law_1716 ?_
  refine kFi (As := [.int (xs (xi + (1 : Int32)).toNatClampNeg), .int (xs (xi + (2 : Int32)).toNatClampNeg), .int (xs (xi + (3 : Int32)).toNatClampNeg)]) (rest := [.int v]) hE hl hD2 hD1 (fun q => (hdj q).symm) (c_X12_write (b := b) hF2) kl_L_181 (mW_0 _ _ _) rfl rfl rfl rfl (Nat.le_of_ble_eq_true rfl) dL_law_1717 ⟨Nat.le_of_ble_eq_true rfl, Nat.le_of_ble_eq_true rfl⟩ ⟨by show cells + 0 + 0 ≤ 600000; omega, by show slots + 0 + 0 ≤ 7302250; omega⟩ (fun H locs (hD2 : xD G A s.heap (mW G b u2) t2.1 H locs) (hD1 : xD G A s.heap (tE G t2) t2.1 H locs) (hdj : ∀ q, mW G b u2 q = none ∨ tE G t2 q = none) => ?_)
  refine lv_icmp_eq (tgt := 2012) hx hb dL_law_1720 (by decide) (fun _ => ?_) (fun c => absurd rfl c)
  exact kk hD1 hD2 (fun q => (hdj q).symm) hR2 (by omega) (by omega)
set_option maxHeartbeats 1000000 in
theorem lc_item {RR : xT → Nat → xS → Prop} {p : Program} {l : Launch} {e : Env} {s : State} {m : MethodId} {below : List Frame} {meth : Method} {cd : Code} {G : xG} {b0 L : Nat} {xs : Nat → Int32} {A : Nat → Prop} {Q : State → Prop} {t : xT} {a b : Nat} {u : xS} {H : Heap} {locs : List Loc} {ls : Array Slot} {cells slots : Nat} {xi : Int32} (hst : sT_item RR) (hkx : ∀ {t : xT} {u : xS}, RR t a u → tK t a = 11) (hE : xE p s m #[Value.ref b0] meth cd cL_law RL G 4 ret) (hX : va_X b0 L xs s s.heap) (hbl : b0 < s.heap.size) (hbA : ¬ A b0) (h1 : vp_in (xi + (1 : Int32)) L) (h2 : vp_in (xi + (2 : Int32)) L) (h3 : vp_in (xi + (3 : Int32)) L) (h4 : vp_in (xi + (4 : Int32)) L) (hD1 : xD G A s.heap (tE G t) t.1 H locs) (hD2 : xD G A s.heap (mW G b u) t.1 H locs) (hdj : ∀ q, tE G t q = none ∨ mW G b u q = none) (hRR : RR t a u) (hl : lv_has ls 4 [(0, .ref b0), (1, .ref a), (2, .ref b), (3, .int xi)]) (hc : cells + 10 ≤ 600000) (hk : slots + 357 ≤ 7302250) (kk : ∀ {t1 : xT} {u1 : xS} {H1 : Heap} {locs1 : List Loc} {cells1 slots1 : Nat}, xD G A s.heap (tE G t1) t1.1 H1 locs1 → xD G A s.heap (mW G b u1) t1.1 H1 locs1 → (∀ q, tE G t1 q = none ∨ mW G b u1 q = none) → RR t1 a u1 → cells1 ≤ cells + 10 → slots1 ≤ slots + 357 → W p l e room_1 s m #[Value.ref b0] below meth cd H1 locs1 cells1 slots1 Q (F0 m 2012 ls [])) : W p l e room_1 s m #[Value.ref b0] below meth cd H locs cells slots Q (F0 m 1725 ls []) := by
  have hx := hE.1; have hb := hE.2.1
  obtain ⟨v, hF1, hF2, hR2⟩ := hst t a u (xs (xi + (1 : Int32)).toNatClampNeg) (xs (xi + (2 : Int32)).toNatClampNeg) (xs (xi + (3 : Int32)).toNatClampNeg) hRR
  refine lv_aload_n hx hb dL_law_1725 rfl (lv_at hl 1 rfl) ?_
  refine lv_aload_n hx hb dL_law_1726 rfl (lv_at hl 0 rfl) ?_
  refine lv_iload_n hx hb dL_law_1727 rfl (lv_at hl 3 rfl) ?_
  refine lv_iconst (v := (1 : Int32)) hx hb dL_law_1728 (by decide) ?_
  refine lv_iadd hx hb dL_law_1729 ?_
  refine va_sld hx hb hX hbl hbA hD1.2.2.1 h1 dL_law_1730 ?_
  refine lv_aload_n hx hb dL_law_1731 rfl (lv_at hl 0 rfl) ?_
  refine lv_iload_n hx hb dL_law_1732 rfl (lv_at hl 3 rfl) ?_
  refine lv_iconst (v := (2 : Int32)) hx hb dL_law_1733 (by decide) ?_
  refine lv_iadd hx hb dL_law_1734 ?_
  refine va_sld hx hb hX hbl hbA hD1.2.2.1 h2 dL_law_1735 ?_
  refine lv_aload_n hx hb dL_law_1736 rfl (lv_at hl 0 rfl) ?_
  refine lv_iload_n hx hb dL_law_1737 rfl (lv_at hl 3 rfl) ?_
  refine lv_iconst (v := (3 : Int32)) hx hb dL_law_1738 (by decide) ?_
  refine lv_iadd hx hb dL_law_1739 ?_
  refine va_sld hx hb hX hbl hbA hD1.2.2.1 h3 dL_law_1740 ?_
  refine kFi (As := [.int (xs (xi + (1 : Int32)).toNatClampNeg), .int (xs (xi + (2 : Int32)).toNatClampNeg), .int (xs (xi + (3 : Int32)).toNatClampNeg)]) (rest := []) hE hl hD1 hD2 hdj (c_X11_item hF1) kl_L_182 (tE_11 (hkx hRR)) rfl rfl rfl rfl (Nat.le_of_ble_eq_true rfl) dL_law_1741 ⟨Nat.le_of_ble_eq_true rfl, Nat.le_of_ble_eq_true rfl⟩ ⟨by show cells + 0 ≤ 600000; omega, by show slots + 0 ≤ 7302250; omega⟩ (fun H locs (hD1 : xD G A s.heap (tE G t) t.1 H locs) (hD2 : xD G A s.heap (mW G b u) t.1 H locs) (hdj : ∀ q, tE G t q = none ∨ mW G b u q = none) => ?_)
  refine lv_aload_n hx hb dL_law_1744 rfl (lv_at hl 2 rfl) ?_
  refine lv_aload_n hx hb dL_law_1745 rfl (lv_at hl 0 rfl) ?_
  refine lv_iload_n hx hb dL_law_1746 rfl (lv_at hl 3 rfl) ?_
  refine lv_iconst (v := (1 : Int32)) hx hb dL_law_1747 (by decide) ?_
  refine lv_iadd hx hb dL_law_1748 ?_
  refine va_sld hx hb hX hbl hbA hD1.2.2.1 h1 dL_law_1749 ?_
  refine lv_aload_n hx hb dL_law_1750 rfl (lv_at hl 0 rfl) ?_
  refine lv_iload_n hx hb dL_law_1751 rfl (lv_at hl 3 rfl) ?_
  refine lv_iconst (v := (2 : Int32)) hx hb dL_law_1752 (by decide) ?_
  refine lv_iadd hx hb dL_law_1753 ?_
  refine va_sld hx hb hX hbl hbA hD1.2.2.1 h2 dL_law_1754 ?_
  refine lv_aload_n hx hb dL_law_1755 rfl (lv_at hl 0 rfl) ?_
  refine lv_iload_n hx hb dL_law_1756 rfl (lv_at hl 3 rfl) ?_
  refine lv_iconst (v := (3 : Int32)) hx hb dL_law_1757 (by decide) ?_
  refine lv_iadd hx hb dL_law_1758 ?_
  refine va_sld hx hb hX hbl hbA hD1.2.2.1 h3 dL_law_1759 ?_
  refine kFi (As := [.int (xs (xi + (1 : Int32)).toNatClampNeg), .int (xs (xi + (2 : Int32)).toNatClampNeg), .int (xs (xi + (3 : Int32)).toNatClampNeg)]) (rest := [.int v]) hE hl hD2 hD1 (fun q => (hdj q).symm) (c_X12_item (b := b) hF2) kl_L_185 (mW_0 _ _ _) rfl rfl rfl rfl (Nat.le_of_ble_eq_true rfl) dL_law_1760 ⟨Nat.le_of_ble_eq_true rfl, Nat.le_of_ble_eq_true rfl⟩ ⟨by show cells + 0 + 0 ≤ 600000; omega, by show slots + 0 + 0 ≤ 7302250; omega⟩ (fun H locs (hD2 : xD G A s.heap (mW G b u) t.1 H locs) (hD1 : xD G A s.heap (tE G t) t.1 H locs) (hdj : ∀ q, mW G b u q = none ∨ tE G t q = none) => ?_)
  refine lv_icmp_eq (tgt := 2012) hx hb dL_law_1763 (by decide) (fun _ => ?_) (fun c => absurd rfl c)
  exact kk hD1 hD2 (fun q => (hdj q).symm) hR2 (by omega) (by omega)
set_option maxHeartbeats 1000000 in
theorem lc_walks {RR : xT → Nat → xS → Prop} {p : Program} {l : Launch} {e : Env} {s : State} {m : MethodId} {below : List Frame} {meth : Method} {cd : Code} {G : xG} {b0 L : Nat} {xs : Nat → Int32} {A : Nat → Prop} {Q : State → Prop} {t : xT} {a b : Nat} {u : xS} {H : Heap} {locs : List Loc} {ls : Array Slot} {cells slots : Nat} {xi : Int32} (hst : sT_walks RR) (hkx : ∀ {t : xT} {u : xS}, RR t a u → tK t a = 11) (hE : xE p s m #[Value.ref b0] meth cd cL_law RL G 4 ret) (hX : va_X b0 L xs s s.heap) (hbl : b0 < s.heap.size) (hbA : ¬ A b0) (h1 : vp_in (xi + (1 : Int32)) L) (h2 : vp_in (xi + (2 : Int32)) L) (h3 : vp_in (xi + (3 : Int32)) L) (h4 : vp_in (xi + (4 : Int32)) L) (hD1 : xD G A s.heap (tE G t) t.1 H locs) (hD2 : xD G A s.heap (mW G b u) t.1 H locs) (hdj : ∀ q, tE G t q = none ∨ mW G b u q = none) (hRR : RR t a u) (hl : lv_has ls 4 [(0, .ref b0), (1, .ref a), (2, .ref b), (3, .int xi)]) (hc : cells + 10 ≤ 600000) (hk : slots + 357 ≤ 7302250) (kk : ∀ {t1 : xT} {u1 : xS} {H1 : Heap} {locs1 : List Loc} {cells1 slots1 : Nat}, xD G A s.heap (tE G t1) t1.1 H1 locs1 → xD G A s.heap (mW G b u1) t1.1 H1 locs1 → (∀ q, tE G t1 q = none ∨ mW G b u1 q = none) → RR t1 a u1 → cells1 ≤ cells + 10 → slots1 ≤ slots + 357 → W p l e room_1 s m #[Value.ref b0] below meth cd H1 locs1 cells1 slots1 Q (F0 m 2012 ls [])) : W p l e room_1 s m #[Value.ref b0] below meth cd H locs cells slots Q (F0 m 1768 ls []) := by
  have hx := hE.1; have hb := hE.2.1
  obtain ⟨v, t2, u2, hF1, hF2, hR2⟩ := hst t a u (xs (xi + (1 : Int32)).toNatClampNeg) (xs (xi + (2 : Int32)).toNatClampNeg) (xs (xi + (3 : Int32)).toNatClampNeg) (xs (xi + (4 : Int32)).toNatClampNeg) hRR
  refine lv_aload_n hx hb dL_law_1768 rfl (lv_at hl 1 rfl) ?_
  refine lv_aload_n hx hb dL_law_1769 rfl (lv_at hl 0 rfl) ?_
  refine lv_iload_n hx hb dL_law_1770 rfl (lv_at hl 3 rfl) ?_
  refine lv_iconst (v := (1 : Int32)) hx hb dL_law_1771 (by decide) ?_
  refine lv_iadd hx hb dL_law_1772 ?_
  refine va_sld hx hb hX hbl hbA hD1.2.2.1 h1 dL_law_1773 ?_
  refine lv_aload_n hx hb dL_law_1774 rfl (lv_at hl 0 rfl) ?_
  refine lv_iload_n hx hb dL_law_1775 rfl (lv_at hl 3 rfl) ?_
  refine lv_iconst (v := (2 : Int32)) hx hb dL_law_1776 (by decide) ?_
  refine lv_iadd hx hb dL_law_1777 ?_
  refine va_sld hx hb hX hbl hbA hD1.2.2.1 h2 dL_law_1778 ?_
  refine lv_aload_n hx hb dL_law_1779 rfl (lv_at hl 0 rfl) ?_
  refine lv_iload_n hx hb dL_law_1780 rfl (lv_at hl 3 rfl) ?_
  refine lv_iconst (v := (3 : Int32)) hx hb dL_law_1781 (by decide) ?_
  refine lv_iadd hx hb dL_law_1782 ?_
  refine va_sld hx hb hX hbl hbA hD1.2.2.1 h3 dL_law_1783 ?_
  refine lv_aload_n hx hb dL_law_1784 rfl (lv_at hl 0 rfl) ?_
  refine lv_iload_n hx hb dL_law_1785 rfl (lv_at hl 3 rfl) ?_
  refine lv_iconst (v := (4 : Int32)) hx hb dL_law_1786 (by decide) ?_
  refine lv_iadd hx hb dL_law_1787 ?_
  refine va_sld hx hb hX hbl hbA hD1.2.2.1 h4 dL_law_1788 ?_
  refine kFi (As := [.int (xs (xi + (1 : Int32)).toNatClampNeg), .int (xs (xi + (2 : Int32)).toNatClampNeg), .int (xs (xi + (3 : Int32)).toNatClampNeg), .int (xs (xi + (4 : Int32)).toNatClampNeg)]) (rest := []) hE hl hD1 hD2 hdj (c_X11_walks hF1) kl_L_186 (tE_11 (hkx hRR)) rfl rfl rfl rfl (Nat.le_of_ble_eq_true rfl) dL_law_1789 ⟨Nat.le_of_ble_eq_true rfl, Nat.le_of_ble_eq_true rfl⟩ ⟨by show cells + 0 ≤ 600000; omega, by show slots + 0 ≤ 7302250; omega⟩ (fun H locs (hD1 : xD G A s.heap (tE G t2) t2.1 H locs) (hD2 : xD G A s.heap (mW G b u) t2.1 H locs) (hdj : ∀ q, tE G t2 q = none ∨ mW G b u q = none) => ?_)
  refine lv_aload_n hx hb dL_law_1792 rfl (lv_at hl 2 rfl) ?_
  refine lv_aload_n hx hb dL_law_1793 rfl (lv_at hl 0 rfl) ?_
  refine lv_iload_n hx hb dL_law_1794 rfl (lv_at hl 3 rfl) ?_
  refine lv_iconst (v := (1 : Int32)) hx hb dL_law_1795 (by decide) ?_
  refine lv_iadd hx hb dL_law_1796 ?_
  refine va_sld hx hb hX hbl hbA hD1.2.2.1 h1 dL_law_1797 ?_
  refine lv_aload_n hx hb dL_law_1798 rfl (lv_at hl 0 rfl) ?_
  refine lv_iload_n hx hb dL_law_1799 rfl (lv_at hl 3 rfl) ?_
  refine lv_iconst (v := (2 : Int32)) hx hb dL_law_1800 (by decide) ?_
  refine lv_iadd hx hb dL_law_1801 ?_
  refine va_sld hx hb hX hbl hbA hD1.2.2.1 h2 dL_law_1802 ?_
  refine lv_aload_n hx hb dL_law_1803 rfl (lv_at hl 0 rfl) ?_
  refine lv_iload_n hx hb dL_law_1804 rfl (lv_at hl 3 rfl) ?_
  refine lv_iconst (v := (3 : Int32)) hx hb dL_law_1805 (by decide) ?_
  refine lv_iadd hx hb dL_law_1806 ?_
  refine va_sld hx hb hX hbl hbA hD1.2.2.1 h3 dL_law_1807 ?_
  refine lv_aload_n hx hb dL_law_1808 rfl (lv_at hl 0 rfl) ?_
  refine lv_iload_n hx hb dL_law_1809 rfl (lv_at hl 3 rfl) ?_
  refine lv_iconst (v := (4 : Int32)) hx hb dL_law_1810 (by decide) ?_
  refine lv_iadd hx hb dL_law_1811 ?_
  refine va_sld hx hb hX hbl hbA hD1.2.2.1 h4 dL_law_1812 ?_
  refine kFi (As := [.int (xs (xi + (1 : Int32)).toNatClampNeg), .int (xs (xi + (2 : Int32)).toNatClampNeg), .int (xs (xi + (3 : Int32)).toNatClampNeg), .int (xs (xi + (4 : Int32)).toNatClampNeg)]) (rest := [.int v]) hE hl hD2 hD1 (fun q => (hdj q).symm) (c_X12_walks (b := b) hF2) kl_L_189 (mW_0 _ _ _) rfl rfl rfl rfl (Nat.le_of_ble_eq_true rfl) dL_law_1813 ⟨Nat.le_of_ble_eq_true rfl, Nat.le_of_ble_eq_true rfl⟩ ⟨by show cells + 0 + 0 ≤ 600000; omega, by show slots + 0 + 0 ≤ 7302250; omega⟩ (fun H locs (hD2 : xD G A s.heap (mW G b u2) t2.1 H locs) (hD1 : xD G A s.heap (tE G t2) t2.1 H locs) (hdj : ∀ q, mW G b u2 q = none ∨ tE G t2 q = none) => ?_)
  refine lv_icmp_eq (tgt := 2012) hx hb dL_law_1816 (by decide) (fun _ => ?_) (fun c => absurd rfl c)
  exact kk hD1 hD2 (fun q => (hdj q).symm) hR2 (by omega) (by omega)
set_option maxHeartbeats 1000000 in
theorem lc_shelf {RR : xT → Nat → xS → Prop} {p : Program} {l : Launch} {e : Env} {s : State} {m : MethodId} {below : List Frame} {meth : Method} {cd : Code} {G : xG} {b0 L : Nat} {xs : Nat → Int32} {A : Nat → Prop} {Q : State → Prop} {t : xT} {a b : Nat} {u : xS} {H : Heap} {locs : List Loc} {ls : Array Slot} {cells slots : Nat} {xi : Int32} (hst : sT_shelf RR) (hkx : ∀ {t : xT} {u : xS}, RR t a u → tK t a = 11) (hE : xE p s m #[Value.ref b0] meth cd cL_law RL G 4 ret) (hX : va_X b0 L xs s s.heap) (hbl : b0 < s.heap.size) (hbA : ¬ A b0) (h1 : vp_in (xi + (1 : Int32)) L) (h2 : vp_in (xi + (2 : Int32)) L) (h3 : vp_in (xi + (3 : Int32)) L) (h4 : vp_in (xi + (4 : Int32)) L) (hD1 : xD G A s.heap (tE G t) t.1 H locs) (hD2 : xD G A s.heap (mW G b u) t.1 H locs) (hdj : ∀ q, tE G t q = none ∨ mW G b u q = none) (hRR : RR t a u) (hl : lv_has ls 4 [(0, .ref b0), (1, .ref a), (2, .ref b), (3, .int xi)]) (hc : cells + 10 ≤ 600000) (hk : slots + 357 ≤ 7302250) (kk : ∀ {t1 : xT} {u1 : xS} {H1 : Heap} {locs1 : List Loc} {cells1 slots1 : Nat}, xD G A s.heap (tE G t1) t1.1 H1 locs1 → xD G A s.heap (mW G b u1) t1.1 H1 locs1 → (∀ q, tE G t1 q = none ∨ mW G b u1 q = none) → RR t1 a u1 → cells1 ≤ cells + 10 → slots1 ≤ slots + 357 → W p l e room_1 s m #[Value.ref b0] below meth cd H1 locs1 cells1 slots1 Q (F0 m 2012 ls [])) : W p l e room_1 s m #[Value.ref b0] below meth cd H locs cells slots Q (F0 m 1821 ls []) := by
  have hx := hE.1; have hb := hE.2.1
  obtain ⟨v, t2, u2, hF1, hF2, hR2⟩ := hst t a u (xs (xi + (1 : Int32)).toNatClampNeg) (xs (xi + (2 : Int32)).toNatClampNeg) (xs (xi + (3 : Int32)).toNatClampNeg) hRR
  refine lv_aload_n hx hb dL_law_1821 rfl (lv_at hl 1 rfl) ?_
  refine lv_aload_n hx hb dL_law_1822 rfl (lv_at hl 0 rfl) ?_
  refine lv_iload_n hx hb dL_law_1823 rfl (lv_at hl 3 rfl) ?_
  refine lv_iconst (v := (1 : Int32)) hx hb dL_law_1824 (by decide) ?_
  refine lv_iadd hx hb dL_law_1825 ?_
  refine va_sld hx hb hX hbl hbA hD1.2.2.1 h1 dL_law_1826 ?_
  refine lv_aload_n hx hb dL_law_1827 rfl (lv_at hl 0 rfl) ?_
  refine lv_iload_n hx hb dL_law_1828 rfl (lv_at hl 3 rfl) ?_
  refine lv_iconst (v := (2 : Int32)) hx hb dL_law_1829 (by decide) ?_
  refine lv_iadd hx hb dL_law_1830 ?_
  refine va_sld hx hb hX hbl hbA hD1.2.2.1 h2 dL_law_1831 ?_
  refine lv_aload_n hx hb dL_law_1832 rfl (lv_at hl 0 rfl) ?_
  refine lv_iload_n hx hb dL_law_1833 rfl (lv_at hl 3 rfl) ?_
  refine lv_iconst (v := (3 : Int32)) hx hb dL_law_1834 (by decide) ?_
  refine lv_iadd hx hb dL_law_1835 ?_
  refine va_sld hx hb hX hbl hbA hD1.2.2.1 h3 dL_law_1836 ?_
  refine kFi (As := [.int (xs (xi + (1 : Int32)).toNatClampNeg), .int (xs (xi + (2 : Int32)).toNatClampNeg), .int (xs (xi + (3 : Int32)).toNatClampNeg)]) (rest := []) hE hl hD1 hD2 hdj (c_X11_shelf hF1) kl_L_190 (tE_11 (hkx hRR)) rfl rfl rfl rfl (Nat.le_of_ble_eq_true rfl) dL_law_1837 ⟨Nat.le_of_ble_eq_true rfl, Nat.le_of_ble_eq_true rfl⟩ ⟨by show cells + 0 ≤ 600000; omega, by show slots + 0 ≤ 7302250; omega⟩ (fun H locs (hD1 : xD G A s.heap (tE G t2) t2.1 H locs) (hD2 : xD G A s.heap (mW G b u) t2.1 H locs) (hdj : ∀ q, tE G t2 q = none ∨ mW G b u q = none) => ?_)
  refine lv_aload_n hx hb dL_law_1840 rfl (lv_at hl 2 rfl) ?_
  refine lv_aload_n hx hb dL_law_1841 rfl (lv_at hl 0 rfl) ?_
  refine lv_iload_n hx hb dL_law_1842 rfl (lv_at hl 3 rfl) ?_
  refine lv_iconst (v := (1 : Int32)) hx hb dL_law_1843 (by decide) ?_
  refine lv_iadd hx hb dL_law_1844 ?_
  refine va_sld hx hb hX hbl hbA hD1.2.2.1 h1 dL_law_1845 ?_
  refine lv_aload_n hx hb dL_law_1846 rfl (lv_at hl 0 rfl) ?_
  refine lv_iload_n hx hb dL_law_1847 rfl (lv_at hl 3 rfl) ?_
  refine lv_iconst (v := (2 : Int32)) hx hb dL_law_1848 (by decide) ?_
  refine lv_iadd hx hb dL_law_1849 ?_
  refine va_sld hx hb hX hbl hbA hD1.2.2.1 h2 dL_law_1850 ?_
  refine lv_aload_n hx hb dL_law_1851 rfl (lv_at hl 0 rfl) ?_
  refine lv_iload_n hx hb dL_law_1852 rfl (lv_at hl 3 rfl) ?_
  refine lv_iconst (v := (3 : Int32)) hx hb dL_law_1853 (by decide) ?_
  refine lv_iadd hx hb dL_law_1854 ?_
  refine va_sld hx hb hX hbl hbA hD1.2.2.1 h3 dL_law_1855 ?_
  refine kFi (As := [.int (xs (xi + (1 : Int32)).toNatClampNeg), .int (xs (xi + (2 : Int32)).toNatClampNeg), .int (xs (xi + (3 : Int32)).toNatClampNeg)]) (rest := [.int v]) hE hl hD2 hD1 (fun q => (hdj q).symm) (c_X12_shelf (b := b) hF2) kl_L_193 (mW_0 _ _ _) rfl rfl rfl rfl (Nat.le_of_ble_eq_true rfl) dL_law_1856 ⟨Nat.le_of_ble_eq_true rfl, Nat.le_of_ble_eq_true rfl⟩ ⟨by show cells + 0 + 0 ≤ 600000; omega, by show slots + 0 + 0 ≤ 7302250; omega⟩ (fun H locs (hD2 : xD G A s.heap (mW G b u2) t2.1 H locs) (hD1 : xD G A s.heap (tE G t2) t2.1 H locs) (hdj : ∀ q, mW G b u2 q = none ∨ tE G t2 q = none) => ?_)
  refine lv_icmp_eq (tgt := 2012) hx hb dL_law_1859 (by decide) (fun _ => ?_) (fun c => absurd rfl c)
  exact kk hD1 hD2 (fun q => (hdj q).symm) hR2 (by omega) (by omega)
set_option maxHeartbeats 1000000 in
theorem lc_taken {RR : xT → Nat → xS → Prop} {p : Program} {l : Launch} {e : Env} {s : State} {m : MethodId} {below : List Frame} {meth : Method} {cd : Code} {G : xG} {b0 L : Nat} {xs : Nat → Int32} {A : Nat → Prop} {Q : State → Prop} {t : xT} {a b : Nat} {u : xS} {H : Heap} {locs : List Loc} {ls : Array Slot} {cells slots : Nat} {xi : Int32} (hst : sT_taken RR) (hkx : ∀ {t : xT} {u : xS}, RR t a u → tK t a = 11) (hE : xE p s m #[Value.ref b0] meth cd cL_law RL G 4 ret) (hX : va_X b0 L xs s s.heap) (hbl : b0 < s.heap.size) (hbA : ¬ A b0) (h1 : vp_in (xi + (1 : Int32)) L) (h2 : vp_in (xi + (2 : Int32)) L) (h3 : vp_in (xi + (3 : Int32)) L) (h4 : vp_in (xi + (4 : Int32)) L) (hD1 : xD G A s.heap (tE G t) t.1 H locs) (hD2 : xD G A s.heap (mW G b u) t.1 H locs) (hdj : ∀ q, tE G t q = none ∨ mW G b u q = none) (hRR : RR t a u) (hl : lv_has ls 4 [(0, .ref b0), (1, .ref a), (2, .ref b), (3, .int xi)]) (hc : cells + 10 ≤ 600000) (hk : slots + 357 ≤ 7302250) (kk : ∀ {t1 : xT} {u1 : xS} {H1 : Heap} {locs1 : List Loc} {cells1 slots1 : Nat}, xD G A s.heap (tE G t1) t1.1 H1 locs1 → xD G A s.heap (mW G b u1) t1.1 H1 locs1 → (∀ q, tE G t1 q = none ∨ mW G b u1 q = none) → RR t1 a u1 → cells1 ≤ cells + 10 → slots1 ≤ slots + 357 → W p l e room_1 s m #[Value.ref b0] below meth cd H1 locs1 cells1 slots1 Q (F0 m 2012 ls [])) : W p l e room_1 s m #[Value.ref b0] below meth cd H locs cells slots Q (F0 m 1864 ls []) := by
  have hx := hE.1; have hb := hE.2.1
  obtain ⟨v, hF1, hF2, hR2⟩ := hst t a u (xs (xi + (1 : Int32)).toNatClampNeg) (xs (xi + (2 : Int32)).toNatClampNeg) hRR
  refine lv_aload_n hx hb dL_law_1864 rfl (lv_at hl 1 rfl) ?_
  refine lv_aload_n hx hb dL_law_1865 rfl (lv_at hl 0 rfl) ?_
  refine lv_iload_n hx hb dL_law_1866 rfl (lv_at hl 3 rfl) ?_
  refine lv_iconst (v := (1 : Int32)) hx hb dL_law_1867 (by decide) ?_
  refine lv_iadd hx hb dL_law_1868 ?_
  refine va_sld hx hb hX hbl hbA hD1.2.2.1 h1 dL_law_1869 ?_
  refine lv_aload_n hx hb dL_law_1870 rfl (lv_at hl 0 rfl) ?_
  refine lv_iload_n hx hb dL_law_1871 rfl (lv_at hl 3 rfl) ?_
  refine lv_iconst (v := (2 : Int32)) hx hb dL_law_1872 (by decide) ?_
  refine lv_iadd hx hb dL_law_1873 ?_
  refine va_sld hx hb hX hbl hbA hD1.2.2.1 h2 dL_law_1874 ?_
  refine kFi (As := [.int (xs (xi + (1 : Int32)).toNatClampNeg), .int (xs (xi + (2 : Int32)).toNatClampNeg)]) (rest := []) hE hl hD1 hD2 hdj (c_X11_taken hF1) kl_L_194 (tE_11 (hkx hRR)) rfl rfl rfl rfl (Nat.le_of_ble_eq_true rfl) dL_law_1875 ⟨Nat.le_of_ble_eq_true rfl, Nat.le_of_ble_eq_true rfl⟩ ⟨by show cells + 0 ≤ 600000; omega, by show slots + 0 ≤ 7302250; omega⟩ (fun H locs (hD1 : xD G A s.heap (tE G t) t.1 H locs) (hD2 : xD G A s.heap (mW G b u) t.1 H locs) (hdj : ∀ q, tE G t q = none ∨ mW G b u q = none) => ?_)
  refine lv_aload_n hx hb dL_law_1878 rfl (lv_at hl 2 rfl) ?_
  refine lv_aload_n hx hb dL_law_1879 rfl (lv_at hl 0 rfl) ?_
  refine lv_iload_n hx hb dL_law_1880 rfl (lv_at hl 3 rfl) ?_
  refine lv_iconst (v := (1 : Int32)) hx hb dL_law_1881 (by decide) ?_
  refine lv_iadd hx hb dL_law_1882 ?_
  refine va_sld hx hb hX hbl hbA hD1.2.2.1 h1 dL_law_1883 ?_
  refine lv_aload_n hx hb dL_law_1884 rfl (lv_at hl 0 rfl) ?_
  refine lv_iload_n hx hb dL_law_1885 rfl (lv_at hl 3 rfl) ?_
  refine lv_iconst (v := (2 : Int32)) hx hb dL_law_1886 (by decide) ?_
  refine lv_iadd hx hb dL_law_1887 ?_
  refine va_sld hx hb hX hbl hbA hD1.2.2.1 h2 dL_law_1888 ?_
  refine kFi (As := [.int (xs (xi + (1 : Int32)).toNatClampNeg), .int (xs (xi + (2 : Int32)).toNatClampNeg)]) (rest := [.int v]) hE hl hD2 hD1 (fun q => (hdj q).symm) (c_X12_taken (b := b) hF2) kl_L_197 (mW_0 _ _ _) rfl rfl rfl rfl (Nat.le_of_ble_eq_true rfl) dL_law_1889 ⟨Nat.le_of_ble_eq_true rfl, Nat.le_of_ble_eq_true rfl⟩ ⟨by show cells + 0 + 0 ≤ 600000; omega, by show slots + 0 + 0 ≤ 7302250; omega⟩ (fun H locs (hD2 : xD G A s.heap (mW G b u) t.1 H locs) (hD1 : xD G A s.heap (tE G t) t.1 H locs) (hdj : ∀ q, mW G b u q = none ∨ tE G t q = none) => ?_)
  refine lv_icmp_eq (tgt := 2012) hx hb dL_law_1892 (by decide) (fun _ => ?_) (fun c => absurd rfl c)
  exact kk hD1 hD2 (fun q => (hdj q).symm) hR2 (by omega) (by omega)
set_option maxHeartbeats 1000000 in
theorem lc_act {RR : xT → Nat → xS → Prop} {p : Program} {l : Launch} {e : Env} {s : State} {m : MethodId} {below : List Frame} {meth : Method} {cd : Code} {G : xG} {b0 L : Nat} {xs : Nat → Int32} {A : Nat → Prop} {Q : State → Prop} {t : xT} {a b : Nat} {u : xS} {H : Heap} {locs : List Loc} {ls : Array Slot} {cells slots : Nat} {xi : Int32} (hst : sT_act RR) (hkx : ∀ {t : xT} {u : xS}, RR t a u → tK t a = 11) (hE : xE p s m #[Value.ref b0] meth cd cL_law RL G 4 ret) (hX : va_X b0 L xs s s.heap) (hbl : b0 < s.heap.size) (hbA : ¬ A b0) (h1 : vp_in (xi + (1 : Int32)) L) (h2 : vp_in (xi + (2 : Int32)) L) (h3 : vp_in (xi + (3 : Int32)) L) (h4 : vp_in (xi + (4 : Int32)) L) (hD1 : xD G A s.heap (tE G t) t.1 H locs) (hD2 : xD G A s.heap (mW G b u) t.1 H locs) (hdj : ∀ q, tE G t q = none ∨ mW G b u q = none) (hRR : RR t a u) (hl : lv_has ls 4 [(0, .ref b0), (1, .ref a), (2, .ref b), (3, .int xi)]) (hc : cells + 10 ≤ 600000) (hk : slots + 357 ≤ 7302250) (kk : ∀ {t1 : xT} {u1 : xS} {H1 : Heap} {locs1 : List Loc} {cells1 slots1 : Nat}, xD G A s.heap (tE G t1) t1.1 H1 locs1 → xD G A s.heap (mW G b u1) t1.1 H1 locs1 → (∀ q, tE G t1 q = none ∨ mW G b u1 q = none) → RR t1 a u1 → cells1 ≤ cells + 10 → slots1 ≤ slots + 357 → W p l e room_1 s m #[Value.ref b0] below meth cd H1 locs1 cells1 slots1 Q (F0 m 2012 ls [])) : W p l e room_1 s m #[Value.ref b0] below meth cd H locs cells slots Q (F0 m 1897 ls []) := by
  have hx := hE.1; have hb := hE.2.1
  obtain ⟨v, t2, u2, hF1, hF2, hR2⟩ := hst t a u (xs (xi + (1 : Int32)).toNatClampNeg) (xs (xi + (2 : Int32)).toNatClampNeg) (xs (xi + (3 : Int32)).toNatClampNeg) hRR
  refine lv_aload_n hx hb dL_law_1897 rfl (lv_at hl 1 rfl) ?_
  refine lv_aload_n hx hb dL_law_1898 rfl (lv_at hl 0 rfl) ?_
  refine lv_iload_n hx hb dL_law_1899 rfl (lv_at hl 3 rfl) ?_
  refine lv_iconst (v := (1 : Int32)) hx hb dL_law_1900 (by decide) ?_
  refine lv_iadd hx hb dL_law_1901 ?_
  refine va_sld hx hb hX hbl hbA hD1.2.2.1 h1 dL_law_1902 ?_
  refine lv_aload_n hx hb dL_law_1903 rfl (lv_at hl 0 rfl) ?_
  refine lv_iload_n hx hb dL_law_1904 rfl (lv_at hl 3 rfl) ?_
  refine lv_iconst (v := (2 : Int32)) hx hb dL_law_1905 (by decide) ?_
  refine lv_iadd hx hb dL_law_1906 ?_
  refine va_sld hx hb hX hbl hbA hD1.2.2.1 h2 dL_law_1907 ?_
  refine lv_aload_n hx hb dL_law_1908 rfl (lv_at hl 0 rfl) ?_
  refine lv_iload_n hx hb dL_law_1909 rfl (lv_at hl 3 rfl) ?_
  refine lv_iconst (v := (3 : Int32)) hx hb dL_law_1910 (by decide) ?_
  refine lv_iadd hx hb dL_law_1911 ?_
  refine va_sld hx hb hX hbl hbA hD1.2.2.1 h3 dL_law_1912 ?_
  refine kFi (As := [.int (xs (xi + (1 : Int32)).toNatClampNeg), .int (xs (xi + (2 : Int32)).toNatClampNeg), .int (xs (xi + (3 : Int32)).toNatClampNeg)]) (rest := []) hE hl hD1 hD2 hdj (c_X11_act hF1) kl_L_198 (tE_11 (hkx hRR)) rfl rfl rfl rfl (Nat.le_of_ble_eq_true rfl) dL_law_1913 ⟨Nat.le_of_ble_eq_true rfl, Nat.le_of_ble_eq_true rfl⟩ ⟨by show cells + 0 ≤ 600000; omega, by show slots + 0 ≤ 7302250; omega⟩ (fun H locs (hD1 : xD G A s.heap (tE G t2) t2.1 H locs) (hD2 : xD G A s.heap (mW G b u) t2.1 H locs) (hdj : ∀ q, tE G t2 q = none ∨ mW G b u q = none) => ?_)
  refine lv_aload_n hx hb dL_law_1916 rfl (lv_at hl 2 rfl) ?_
  refine lv_aload_n hx hb dL_law_1917 rfl (lv_at hl 0 rfl) ?_
  refine lv_iload_n hx hb dL_law_1918 rfl (lv_at hl 3 rfl) ?_
  refine lv_iconst (v := (1 : Int32)) hx hb dL_law_1919 (by decide) ?_
  refine lv_iadd hx hb dL_law_1920 ?_
  refine va_sld hx hb hX hbl hbA hD1.2.2.1 h1 dL_law_1921 ?_
  refine lv_aload_n hx hb dL_law_1922 rfl (lv_at hl 0 rfl) ?_
  refine lv_iload_n hx hb dL_law_1923 rfl (lv_at hl 3 rfl) ?_
  refine lv_iconst (v := (2 : Int32)) hx hb dL_law_1924 (by decide) ?_
  refine lv_iadd hx hb dL_law_1925 ?_
  refine va_sld hx hb hX hbl hbA hD1.2.2.1 h2 dL_law_1926 ?_
  refine lv_aload_n hx hb dL_law_1927 rfl (lv_at hl 0 rfl) ?_
  refine lv_iload_n hx hb dL_law_1928 rfl (lv_at hl 3 rfl) ?_
  refine lv_iconst (v := (3 : Int32)) hx hb dL_law_1929 (by decide) ?_
  refine lv_iadd hx hb dL_law_1930 ?_
  refine va_sld hx hb hX hbl hbA hD1.2.2.1 h3 dL_law_1931 ?_
  refine kFi (As := [.int (xs (xi + (1 : Int32)).toNatClampNeg), .int (xs (xi + (2 : Int32)).toNatClampNeg), .int (xs (xi + (3 : Int32)).toNatClampNeg)]) (rest := [.int v]) hE hl hD2 hD1 (fun q => (hdj q).symm) (c_X12_act (b := b) hF2) kl_L_201 (mW_0 _ _ _) rfl rfl rfl rfl (Nat.le_of_ble_eq_true rfl) dL_law_1932 ⟨Nat.le_of_ble_eq_true rfl, Nat.le_of_ble_eq_true rfl⟩ ⟨by show cells + 0 + 0 ≤ 600000; omega, by show slots + 0 + 0 ≤ 7302250; omega⟩ (fun H locs (hD2 : xD G A s.heap (mW G b u2) t2.1 H locs) (hD1 : xD G A s.heap (tE G t2) t2.1 H locs) (hdj : ∀ q, mW G b u2 q = none ∨ tE G t2 q = none) => ?_)
  refine lv_icmp_eq (tgt := 2012) hx hb dL_law_1935 (by decide) (fun _ => ?_) (fun c => absurd rfl c)
  exact kk hD1 hD2 (fun q => (hdj q).symm) hR2 (by omega) (by omega)
set_option maxHeartbeats 1000000 in
theorem lc_trace {RR : xT → Nat → xS → Prop} {p : Program} {l : Launch} {e : Env} {s : State} {m : MethodId} {below : List Frame} {meth : Method} {cd : Code} {G : xG} {b0 L : Nat} {xs : Nat → Int32} {A : Nat → Prop} {Q : State → Prop} {t : xT} {a b : Nat} {u : xS} {H : Heap} {locs : List Loc} {ls : Array Slot} {cells slots : Nat} {xi : Int32} (hst : sT_trace RR) (hkx : ∀ {t : xT} {u : xS}, RR t a u → tK t a = 11) (hE : xE p s m #[Value.ref b0] meth cd cL_law RL G 4 ret) (hX : va_X b0 L xs s s.heap) (hbl : b0 < s.heap.size) (hbA : ¬ A b0) (h1 : vp_in (xi + (1 : Int32)) L) (h2 : vp_in (xi + (2 : Int32)) L) (h3 : vp_in (xi + (3 : Int32)) L) (h4 : vp_in (xi + (4 : Int32)) L) (hD1 : xD G A s.heap (tE G t) t.1 H locs) (hD2 : xD G A s.heap (mW G b u) t.1 H locs) (hdj : ∀ q, tE G t q = none ∨ mW G b u q = none) (hRR : RR t a u) (hl : lv_has ls 4 [(0, .ref b0), (1, .ref a), (2, .ref b), (3, .int xi)]) (hc : cells + 10 ≤ 600000) (hk : slots + 357 ≤ 7302250) (kk : ∀ {t1 : xT} {u1 : xS} {H1 : Heap} {locs1 : List Loc} {cells1 slots1 : Nat}, xD G A s.heap (tE G t1) t1.1 H1 locs1 → xD G A s.heap (mW G b u1) t1.1 H1 locs1 → (∀ q, tE G t1 q = none ∨ mW G b u1 q = none) → RR t1 a u1 → cells1 ≤ cells + 10 → slots1 ≤ slots + 357 → W p l e room_1 s m #[Value.ref b0] below meth cd H1 locs1 cells1 slots1 Q (F0 m 2012 ls [])) : W p l e room_1 s m #[Value.ref b0] below meth cd H locs cells slots Q (F0 m 1940 ls []) := by
  have hx := hE.1; have hb := hE.2.1
  obtain ⟨v, hF1, hF2, hR2⟩ := hst t a u (xs (xi + (1 : Int32)).toNatClampNeg) hRR
  refine lv_aload_n hx hb dL_law_1940 rfl (lv_at hl 1 rfl) ?_
  refine lv_aload_n hx hb dL_law_1941 rfl (lv_at hl 0 rfl) ?_
  refine lv_iload_n hx hb dL_law_1942 rfl (lv_at hl 3 rfl) ?_
  refine lv_iconst (v := (1 : Int32)) hx hb dL_law_1943 (by decide) ?_
  refine lv_iadd hx hb dL_law_1944 ?_
  refine va_sld hx hb hX hbl hbA hD1.2.2.1 h1 dL_law_1945 ?_
  refine kFi (As := [.int (xs (xi + (1 : Int32)).toNatClampNeg)]) (rest := []) hE hl hD1 hD2 hdj (c_X11_trace hF1) kl_L_202 (tE_11 (hkx hRR)) rfl rfl rfl rfl (Nat.le_of_ble_eq_true rfl) dL_law_1946 ⟨Nat.le_of_ble_eq_true rfl, Nat.le_of_ble_eq_true rfl⟩ ⟨by show cells + 0 ≤ 600000; omega, by show slots + 0 ≤ 7302250; omega⟩ (fun H locs (hD1 : xD G A s.heap (tE G t) t.1 H locs) (hD2 : xD G A s.heap (mW G b u) t.1 H locs) (hdj : ∀ q, tE G t q = none ∨ mW G b u q = none) => ?_)
  refine lv_aload_n hx hb dL_law_1949 rfl (lv_at hl 2 rfl) ?_
  refine lv_aload_n hx hb dL_law_1950 rfl (lv_at hl 0 rfl) ?_
  refine lv_iload_n hx hb dL_law_1951 rfl (lv_at hl 3 rfl) ?_
  refine lv_iconst (v := (1 : Int32)) hx hb dL_law_1952 (by decide) ?_
  refine lv_iadd hx hb dL_law_1953 ?_
  refine va_sld hx hb hX hbl hbA hD1.2.2.1 h1 dL_law_1954 ?_
  refine kFi (As := [.int (xs (xi + (1 : Int32)).toNatClampNeg)]) (rest := [.int v]) hE hl hD2 hD1 (fun q => (hdj q).symm) (c_X12_trace (b := b) hF2) kl_L_205 (mW_0 _ _ _) rfl rfl rfl rfl (Nat.le_of_ble_eq_true rfl) dL_law_1955 ⟨Nat.le_of_ble_eq_true rfl, Nat.le_of_ble_eq_true rfl⟩ ⟨by show cells + 0 + 0 ≤ 600000; omega, by show slots + 0 + 0 ≤ 7302250; omega⟩ (fun H locs (hD2 : xD G A s.heap (mW G b u) t.1 H locs) (hD1 : xD G A s.heap (tE G t) t.1 H locs) (hdj : ∀ q, mW G b u q = none ∨ tE G t q = none) => ?_)
  refine lv_icmp_eq (tgt := 2012) hx hb dL_law_1958 (by decide) (fun _ => ?_) (fun c => absurd rfl c)
  exact kk hD1 hD2 (fun q => (hdj q).symm) hR2 (by omega) (by omega)
set_option maxHeartbeats 1000000 in
theorem lc_many {RR : xT → Nat → xS → Prop} {p : Program} {l : Launch} {e : Env} {s : State} {m : MethodId} {below : List Frame} {meth : Method} {cd : Code} {G : xG} {b0 L : Nat} {xs : Nat → Int32} {A : Nat → Prop} {Q : State → Prop} {t : xT} {a b : Nat} {u : xS} {H : Heap} {locs : List Loc} {ls : Array Slot} {cells slots : Nat} {xi : Int32} (hst : sT_many RR) (hkx : ∀ {t : xT} {u : xS}, RR t a u → tK t a = 11) (hE : xE p s m #[Value.ref b0] meth cd cL_law RL G 4 ret) (hX : va_X b0 L xs s s.heap) (hbl : b0 < s.heap.size) (hbA : ¬ A b0) (h1 : vp_in (xi + (1 : Int32)) L) (h2 : vp_in (xi + (2 : Int32)) L) (h3 : vp_in (xi + (3 : Int32)) L) (h4 : vp_in (xi + (4 : Int32)) L) (hD1 : xD G A s.heap (tE G t) t.1 H locs) (hD2 : xD G A s.heap (mW G b u) t.1 H locs) (hdj : ∀ q, tE G t q = none ∨ mW G b u q = none) (hRR : RR t a u) (hl : lv_has ls 4 [(0, .ref b0), (1, .ref a), (2, .ref b), (3, .int xi)]) (hc : cells + 10 ≤ 600000) (hk : slots + 357 ≤ 7302250) (kk : ∀ {t1 : xT} {u1 : xS} {H1 : Heap} {locs1 : List Loc} {cells1 slots1 : Nat}, xD G A s.heap (tE G t1) t1.1 H1 locs1 → xD G A s.heap (mW G b u1) t1.1 H1 locs1 → (∀ q, tE G t1 q = none ∨ mW G b u1 q = none) → RR t1 a u1 → cells1 ≤ cells + 10 → slots1 ≤ slots + 357 → W p l e room_1 s m #[Value.ref b0] below meth cd H1 locs1 cells1 slots1 Q (F0 m 2012 ls [])) : W p l e room_1 s m #[Value.ref b0] below meth cd H locs cells slots Q (F0 m 1963 ls []) := by
  have hx := hE.1; have hb := hE.2.1
  obtain ⟨v, hF1, hF2, hR2⟩ := hst t a u (xs (xi + (1 : Int32)).toNatClampNeg) hRR
  refine lv_aload_n hx hb dL_law_1963 rfl (lv_at hl 1 rfl) ?_
  refine lv_aload_n hx hb dL_law_1964 rfl (lv_at hl 0 rfl) ?_
  refine lv_iload_n hx hb dL_law_1965 rfl (lv_at hl 3 rfl) ?_
  refine lv_iconst (v := (1 : Int32)) hx hb dL_law_1966 (by decide) ?_
  refine lv_iadd hx hb dL_law_1967 ?_
  refine va_sld hx hb hX hbl hbA hD1.2.2.1 h1 dL_law_1968 ?_
  refine kFi (As := [.int (xs (xi + (1 : Int32)).toNatClampNeg)]) (rest := []) hE hl hD1 hD2 hdj (c_X11_many hF1) kl_L_206 (tE_11 (hkx hRR)) rfl rfl rfl rfl (Nat.le_of_ble_eq_true rfl) dL_law_1969 ⟨Nat.le_of_ble_eq_true rfl, Nat.le_of_ble_eq_true rfl⟩ ⟨by show cells + 0 ≤ 600000; omega, by show slots + 0 ≤ 7302250; omega⟩ (fun H locs (hD1 : xD G A s.heap (tE G t) t.1 H locs) (hD2 : xD G A s.heap (mW G b u) t.1 H locs) (hdj : ∀ q, tE G t q = none ∨ mW G b u q = none) => ?_)
  refine lv_aload_n hx hb dL_law_1972 rfl (lv_at hl 2 rfl) ?_
  refine lv_aload_n hx hb dL_law_1973 rfl (lv_at hl 0 rfl) ?_
  refine lv_iload_n hx hb dL_law_1974 rfl (lv_at hl 3 rfl) ?_
  refine lv_iconst (v := (1 : Int32)) hx hb dL_law_1975 (by decide) ?_
  refine lv_iadd hx hb dL_law_1976 ?_
  refine va_sld hx hb hX hbl hbA hD1.2.2.1 h1 dL_law_1977 ?_
  refine kFi (As := [.int (xs (xi + (1 : Int32)).toNatClampNeg)]) (rest := [.int v]) hE hl hD2 hD1 (fun q => (hdj q).symm) (c_X12_many (b := b) hF2) kl_L_209 (mW_0 _ _ _) rfl rfl rfl rfl (Nat.le_of_ble_eq_true rfl) dL_law_1978 ⟨Nat.le_of_ble_eq_true rfl, Nat.le_of_ble_eq_true rfl⟩ ⟨by show cells + 0 + 0 ≤ 600000; omega, by show slots + 0 + 0 ≤ 7302250; omega⟩ (fun H locs (hD2 : xD G A s.heap (mW G b u) t.1 H locs) (hD1 : xD G A s.heap (tE G t) t.1 H locs) (hdj : ∀ q, mW G b u q = none ∨ tE G t q = none) => ?_)
  refine lv_icmp_eq (tgt := 2012) hx hb dL_law_1981 (by decide) (fun _ => ?_) (fun c => absurd rfl c)
  exact kk hD1 hD2 (fun q => (hdj q).symm) hR2 (by omega) (by omega)
set_option maxHeartbeats 1000000 in
theorem lc_keep {RR : xT → Nat → xS → Prop} {p : Program} {l : Launch} {e : Env} {s : State} {m : MethodId} {below : List Frame} {meth : Method} {cd : Code} {G : xG} {b0 L : Nat} {xs : Nat → Int32} {A : Nat → Prop} {Q : State → Prop} {t : xT} {a b : Nat} {u : xS} {H : Heap} {locs : List Loc} {ls : Array Slot} {cells slots : Nat} {xi : Int32} (hst : sT_keep RR) (hkx : ∀ {t : xT} {u : xS}, RR t a u → tK t a = 11) (hE : xE p s m #[Value.ref b0] meth cd cL_law RL G 4 ret) (hX : va_X b0 L xs s s.heap) (hbl : b0 < s.heap.size) (hbA : ¬ A b0) (h1 : vp_in (xi + (1 : Int32)) L) (h2 : vp_in (xi + (2 : Int32)) L) (h3 : vp_in (xi + (3 : Int32)) L) (h4 : vp_in (xi + (4 : Int32)) L) (hD1 : xD G A s.heap (tE G t) t.1 H locs) (hD2 : xD G A s.heap (mW G b u) t.1 H locs) (hdj : ∀ q, tE G t q = none ∨ mW G b u q = none) (hRR : RR t a u) (hl : lv_has ls 4 [(0, .ref b0), (1, .ref a), (2, .ref b), (3, .int xi)]) (hc : cells + 10 ≤ 600000) (hk : slots + 357 ≤ 7302250) (kk : ∀ {t1 : xT} {u1 : xS} {H1 : Heap} {locs1 : List Loc} {cells1 slots1 : Nat}, xD G A s.heap (tE G t1) t1.1 H1 locs1 → xD G A s.heap (mW G b u1) t1.1 H1 locs1 → (∀ q, tE G t1 q = none ∨ mW G b u1 q = none) → RR t1 a u1 → cells1 ≤ cells + 10 → slots1 ≤ slots + 357 → W p l e room_1 s m #[Value.ref b0] below meth cd H1 locs1 cells1 slots1 Q (F0 m 2012 ls [])) : W p l e room_1 s m #[Value.ref b0] below meth cd H locs cells slots Q (F0 m 1986 ls []) := by
  have hx := hE.1; have hb := hE.2.1
  obtain ⟨v, t2, u2, hF1, hF2, hR2⟩ := hst t a u  hRR
  refine lv_aload_n hx hb dL_law_1986 rfl (lv_at hl 1 rfl) ?_
  refine kFi (As := []) (rest := []) hE hl hD1 hD2 hdj (c_X11_keep hF1) kl_L_210 (tE_11 (hkx hRR)) rfl rfl rfl rfl (Nat.le_of_ble_eq_true rfl) dL_law_1987 ⟨Nat.le_of_ble_eq_true rfl, Nat.le_of_ble_eq_true rfl⟩ ⟨by show cells + 10 ≤ 600000; omega, by show slots + 80 ≤ 7302250; omega⟩ (fun H locs (hD1 : xD G A s.heap (tE G t2) t2.1 H locs) (hD2 : xD G A s.heap (mW G b u) t2.1 H locs) (hdj : ∀ q, tE G t2 q = none ∨ mW G b u q = none) => ?_)
  refine lv_aload_n hx hb dL_law_1990 rfl (lv_at hl 2 rfl) ?_
  refine kFi (As := []) (rest := [.int v]) hE hl hD2 hD1 (fun q => (hdj q).symm) (c_X12_keep (b := b) hF2) kl_L_213 (mW_0 _ _ _) rfl rfl rfl rfl (Nat.le_of_ble_eq_true rfl) dL_law_1991 ⟨Nat.le_of_ble_eq_true rfl, Nat.le_of_ble_eq_true rfl⟩ ⟨by show cells + 10 + 0 ≤ 600000; omega, by show slots + 80 + 0 ≤ 7302250; omega⟩ (fun H locs (hD2 : xD G A s.heap (mW G b u2) t2.1 H locs) (hD1 : xD G A s.heap (tE G t2) t2.1 H locs) (hdj : ∀ q, mW G b u2 q = none ∨ tE G t2 q = none) => ?_)
  refine lv_icmp_eq (tgt := 2012) hx hb dL_law_1994 (by decide) (fun _ => ?_) (fun c => absurd rfl c)
  exact kk hD1 hD2 (fun q => (hdj q).symm) hR2 (by omega) (by omega)
set_option maxHeartbeats 1000000 in
theorem lc_again {RR : xT → Nat → xS → Prop} {p : Program} {l : Launch} {e : Env} {s : State} {m : MethodId} {below : List Frame} {meth : Method} {cd : Code} {G : xG} {b0 L : Nat} {xs : Nat → Int32} {A : Nat → Prop} {Q : State → Prop} {t : xT} {a b : Nat} {u : xS} {H : Heap} {locs : List Loc} {ls : Array Slot} {cells slots : Nat} {xi : Int32} (hst : sT_again RR) (hkx : ∀ {t : xT} {u : xS}, RR t a u → tK t a = 11) (hE : xE p s m #[Value.ref b0] meth cd cL_law RL G 4 ret) (hX : va_X b0 L xs s s.heap) (hbl : b0 < s.heap.size) (hbA : ¬ A b0) (h1 : vp_in (xi + (1 : Int32)) L) (h2 : vp_in (xi + (2 : Int32)) L) (h3 : vp_in (xi + (3 : Int32)) L) (h4 : vp_in (xi + (4 : Int32)) L) (hD1 : xD G A s.heap (tE G t) t.1 H locs) (hD2 : xD G A s.heap (mW G b u) t.1 H locs) (hdj : ∀ q, tE G t q = none ∨ mW G b u q = none) (hRR : RR t a u) (hl : lv_has ls 4 [(0, .ref b0), (1, .ref a), (2, .ref b), (3, .int xi)]) (hc : cells + 10 ≤ 600000) (hk : slots + 357 ≤ 7302250) (kk : ∀ {t1 : xT} {u1 : xS} {H1 : Heap} {locs1 : List Loc} {cells1 slots1 : Nat}, xD G A s.heap (tE G t1) t1.1 H1 locs1 → xD G A s.heap (mW G b u1) t1.1 H1 locs1 → (∀ q, tE G t1 q = none ∨ mW G b u1 q = none) → RR t1 a u1 → cells1 ≤ cells + 10 → slots1 ≤ slots + 357 → W p l e room_1 s m #[Value.ref b0] below meth cd H1 locs1 cells1 slots1 Q (F0 m 2012 ls [])) : W p l e room_1 s m #[Value.ref b0] below meth cd H locs cells slots Q (F0 m 1999 ls []) := by
  have hx := hE.1; have hb := hE.2.1
  obtain ⟨v, t2, u2, hF1, hF2, hR2⟩ := hst t a u  hRR
  refine lv_aload_n hx hb dL_law_1999 rfl (lv_at hl 1 rfl) ?_
  refine kFi (As := []) (rest := []) hE hl hD1 hD2 hdj (c_X11_again hF1) kl_L_214 (tE_11 (hkx hRR)) rfl rfl rfl rfl (Nat.le_of_ble_eq_true rfl) dL_law_2000 ⟨Nat.le_of_ble_eq_true rfl, Nat.le_of_ble_eq_true rfl⟩ ⟨by show cells + 10 ≤ 600000; omega, by show slots + 80 ≤ 7302250; omega⟩ (fun H locs (hD1 : xD G A s.heap (tE G t2) t2.1 H locs) (hD2 : xD G A s.heap (mW G b u) t2.1 H locs) (hdj : ∀ q, tE G t2 q = none ∨ mW G b u q = none) => ?_)
  refine lv_aload_n hx hb dL_law_2003 rfl (lv_at hl 2 rfl) ?_
  refine kFi (As := []) (rest := [.int v]) hE hl hD2 hD1 (fun q => (hdj q).symm) (c_X12_again (b := b) hF2) kl_L_217 (mW_0 _ _ _) rfl rfl rfl rfl (Nat.le_of_ble_eq_true rfl) dL_law_2004 ⟨Nat.le_of_ble_eq_true rfl, Nat.le_of_ble_eq_true rfl⟩ ⟨by show cells + 10 + 0 ≤ 600000; omega, by show slots + 80 + 0 ≤ 7302250; omega⟩ (fun H locs (hD2 : xD G A s.heap (mW G b u2) t2.1 H locs) (hD1 : xD G A s.heap (tE G t2) t2.1 H locs) (hdj : ∀ q, mW G b u2 q = none ∨ tE G t2 q = none) => ?_)
  refine lv_icmp_eq (tgt := 2012) hx hb dL_law_2007 (by decide) (fun _ => ?_) (fun c => absurd rfl c)
  exact kk hD1 hD2 (fun q => (hdj q).symm) hR2 (by omega) (by omega)
