/-! ===== pure mathematics 3: the relation of the two states ===== -/
abbrev yLS : Type := Nat → List (Int32 × Int32 × Int32)
def stp (f : Int32 → Int32) (x : Int32 × Int32 × Int32) (st : List Bool) : List Bool :=
  if x.1 = 3 then (match st with | b :: q => (!b) :: q | [] => [])
  else if x.1 = 4 then (match st with | b :: c :: q => (c && b) :: q | z => z)
  else if x.1 = 5 then (match st with | b :: c :: q => (c || b) :: q | z => z)
  else (if x.1 = 0 then decide (f x.2.1 < f x.2.2) else if x.1 = 1 then decide (f x.2.1 = f x.2.2) else decide (f x.2.2 < f x.2.1)) :: st
def evS (f : Int32 → Int32) : List (Int32 × Int32 × Int32) → List Bool → List Bool
  | [], st => st
  | x :: q, st => evS f q (stp f x st)
def okS : List (Int32 × Int32 × Int32) → Nat → Prop
  | [], d => d = 1
  | x :: q, d => d ≤ 40 ∧ ((x.1 = 3 ∧ 1 ≤ d ∧ okS q d) ∨ ((x.1 = 4 ∨ x.1 = 5) ∧ 2 ≤ d ∧ okS q (d - 1)) ∨ ((x.1 = 0 ∨ x.1 = 1 ∨ x.1 = 2) ∧ (-10 : Int32) < x.2.1 ∧ (-10 : Int32) < x.2.2 ∧ okS q (d + 1)))
def enc (x : Int32 × Int32 × Int32) : List Int32 := if x.1 = 3 then [-20] else if x.1 = 4 then [-21] else if x.1 = 5 then [-22] else [x.2.1, x.2.2, -11 - x.1]
def encL : List (Int32 × Int32 × Int32) → List Int32
  | [] => []
  | x :: q => enc x ++ encL q
def fct (s : Nat → Int32) (k : Nat) (c : Int32) : Int32 := if c = -5 then nI k else if c = -4 then s (5 + 4 * k + 3) else if c = -3 then s (5 + 4 * k + 2) else if c = -2 then s (5 + 4 * k + 1) else if c = -1 then s 3 else c
def un (kd as : Int32) : Bool := decide (as = 0 ∨ kd = as ∨ (as = 2 ∧ kd = 3) ∨ (as = 4 ∧ kd = 5))
def hold (ls : yLS) (s : Nat → Int32) (k i : Nat) : Bool := (evS (fct s k) (ls i) []).headD true
def clF (ls : yLS) (s : Nat → Int32) (k : Nat) : Nat → Nat → Option Nat
  | 0, _ => none
  | m + 1, i => if un (s (5 + 4 * k)) (s (71 + 4 * i)) = true ∧ hold ls s k i = true then some i else clF ls s k m (i + 1)
def nB (s : Nat → Int32) : Nat := (s 0).toNatClampNeg
def nP (s : Nat → Int32) : Nat := (s 1).toNatClampNeg
def nT (s : Nat → Int32) : Nat := (s 2).toNatClampNeg
def nC (s : Nat → Int32) : Nat := (s 4).toNatClampNeg
def clS (ls : yLS) (s : Nat → Int32) (k : Nat) : Option Nat := clF ls s k (nC s) 0
def ddS (ls : yLS) (s : Nat → Int32) (k : Nat) : Int32 := match clS ls s k with | none => -1 | some i => s (72 + 4 * i)
def mmS (ls : yLS) (s : Nat → Int32) (k : Nat) : Int32 := match clS ls s k with | none => 0 | some i => s (73 + 4 * i)
def ftS (s : Nat → Int32) (k : Nat) (kd : Int32) : Prop := s (5 + 4 * k) = kd ∧ s 3 = s (5 + 4 * k + 3)
def tmS (ls : yLS) (s : Nat → Int32) (k : Nat) : Int32 := (s (5 + 4 * k + 1) + (if ddS ls s k = 2 then 1 else 0)) + (if s (5 + 4 * k) = 3 ∧ s 3 = s (5 + 4 * k + 3) then 1 else 0)
def tbS (ls : yLS) (s : Nat → Int32) (k : Nat) : Int32 := if ddS ls s k = 0 then 0 else s (5 + 4 * k + 2) + mmS ls s k
def tlS (ls : yLS) (s : Nat → Int32) (k : Nat) : Int32 := if s (5 + 4 * k) = 5 ∧ s 3 = s (5 + 4 * k + 3) then tbS ls s k / 2 else tbS ls s k
def opS (ls : yLS) (s : Nat → Int32) (k : Nat) : Int32 := if ddS ls s k = 3 then 0 else 1
def Ri (x : Int32) (a b : Int) : Prop := a ≤ x.toInt ∧ x.toInt ≤ b
def Iv (s : Nat → Int32) : Prop := (nB s ≤ 9 ∧ s 0 = nI (nB s)) ∧ (nP s ≤ 6 ∧ s 1 = nI (nP s)) ∧ (nT s ≤ 6 ∧ s 2 = nI (nT s)) ∧ (nC s ≤ 8 ∧ s 4 = nI (nC s)) ∧ Ri (s 3) 0 6 ∧ (∀ k, k < nB s → Ri (s (5 + 4 * k)) 1 5 ∧ Ri (s (5 + 4 * k + 1)) 1 9 ∧ Ri (s (5 + 4 * k + 2)) 0 999 ∧ Ri (s (5 + 4 * k + 3)) 0 6) ∧ (∀ p, p < nP s → Ri (s (41 + 3 * p)) 0 1000000000)
def Sm (t t' : xT) (q : Nat) : Prop := tK t' q = tK t q ∧ tN t' q = tN t q ∧ tI t' q = tI t q ∧ tP t' q = tP t q
theorem Sm.rf (t : xT) (q : Nat) : Sm t t q := ⟨rfl, rfl, rfl, rfl⟩
theorem Sm.tr {t t' t'' : xT} {q : Nat} (h : Sm t t' q) (h' : Sm t' t'' q) : Sm t t'' q := ⟨h'.1.trans h.1, h'.2.1.trans h.2.1, h'.2.2.1.trans h.2.2.1, h'.2.2.2.trans h.2.2.2⟩
theorem Sm.SI {t : xT} {q x : Nat} (k : Nat) (v : Int32) (h : q ≠ x) : Sm t (tSI t x k v) q := ⟨rfl, rfl, tI_SIn _ _ _ _ h, rfl⟩
theorem Sm.SP {t : xT} {q x : Nat} (k : Nat) (v : Option Nat) (h : q ≠ x) : Sm t (tSP t x k v) q := ⟨rfl, rfl, rfl, tP_SPn _ _ _ _ h⟩
theorem Sm.SA {t : xT} {q x : Nat} (v : Nat → Int32) (h : q ≠ x) : Sm t (tSA t x v) q := ⟨rfl, rfl, tI_SAn _ _ _ h, rfl⟩
theorem Sm.N {t : xT} {q : Nat} (k n : Nat) (h : q ≠ t.1) : Sm t (tNew t k n) q := ⟨tK_Nn _ _ _ h, tN_Nn _ _ _ h, tI_Nn _ _ _ h, tP_Nn _ _ _ h⟩
def ArO (t : xT) (q n : Nat) : Prop := tK t q = 20 ∧ tN t q = n
def Rd0 (t : xT) (r : Nat) : Prop := tK t r = 7 ∧ tP t r 0 = some (r + 1) ∧ tP t r 4 = some (r + 11) ∧ tP t r 5 = some (r + 12) ∧ tP t r 6 = some (r + 13) ∧ tP t r 8 = some (r + 14) ∧ tP t r 9 = some (r + 15) ∧ (tK t (r + 1) = 22 ∧ tN t (r + 1) = 9) ∧ ArO t (r + 11) 6 ∧ ArO t (r + 12) 6 ∧ ArO t (r + 13) 6 ∧ ArO t (r + 14) 6 ∧ ArO t (r + 15) 6
def SkC (t : xT) (a : Nat) : Prop := tK t a = 11 ∧ tP t a 0 = some (a + 1) ∧ tP t a 1 = some (a + 17) ∧ tP t a 3 = some (a + 33) ∧ tP t a 5 = some (a + 34) ∧ tP t a 7 = some (a + 35) ∧ tP t a 8 = some (a + 36) ∧ tP t a 9 = some (a + 37) ∧ tP t a 10 = some (a + 38) ∧ tP t a 11 = some (a + 40) ∧ tP t a 12 = some (a + 41) ∧ tP t a 13 = some (a + 42) ∧
  Rd0 t (a + 1) ∧ Rd0 t (a + 17) ∧ ArO t (a + 33) 200 ∧ ArO t (a + 34) 60 ∧ (tK t (a + 35) = 23 ∧ tN t (a + 35) = 4) ∧ ArO t (a + 36) 4 ∧ (tK t (a + 37) = 23 ∧ tN t (a + 37) = 4) ∧ (tK t (a + 38) = 10 ∧ tP t (a + 38) 0 = some (a + 39)) ∧ ArO t (a + 39) 30 ∧ ArO t (a + 40) 512 ∧ ArO t (a + 41) 512 ∧ ArO t (a + 42) 61 ∧ a + 43 ≤ t.1
def RdC (t : xT) (r : Nat) (s : Nat → Int32) : Prop := tI t r 1 = s 0 ∧ tI t r 2 = s 3 ∧ tI t r 7 = s 1 ∧ tI t r 10 = s 2 ∧ (∀ p, p < 6 → tI t (r + 11) p = s (41 + 3 * p) ∧ tI t (r + 12) p = s (41 + 3 * p + 1) ∧ tI t (r + 13) p = s (41 + 3 * p + 2)) ∧ (∀ j, j < 6 → tI t (r + 14) j = s (59 + 2 * j) ∧ tI t (r + 15) j = s (59 + 2 * j + 1))
def LwO (t : xT) (a L : Nat) : Prop := tK t L = 2 ∧ (∀ j, 1 ≤ j → j ≤ 5 → tP t L j = some (L + j) ∧ ArO t (L + j) 8) ∧ (∀ j, 6 ≤ j → j ≤ 8 → tP t L j = some (L + j) ∧ ArO t (L + j) 100) ∧ L + 9 ≤ t.1 ∧ (L = a + 3 ∨ L = a + 19 ∨ a + 43 ≤ L)
def LwK (T : Nat → Nat → Int32) (ls : yLS) (s : Nat → Int32) (n : Nat) (fs cs : Nat → Nat) : Prop := fs 0 = 0 ∧ cs 0 = 0 ∧ ∀ i, i < n →
  (T 1 i = s (71 + 4 * i) ∧ T 2 i = s (72 + 4 * i) ∧ T 3 i = s (73 + 4 * i) ∧ T 4 i = nI (fs i) ∧ T 5 i = nI (fs (i + 1)) ∧ s (74 + 4 * i) = nI (cs (i + 1))) ∧ Ri (s (73 + 4 * i)) 0 999 ∧ (s (72 + 4 * i) ≠ 1 → s (73 + 4 * i) = 0) ∧
  fs (i + 1) = fs i + (ls i).length ∧ fs (i + 1) ≤ 100 ∧ cs (i + 1) = cs i + (encL (ls i)).length ∧ cs (i + 1) ≤ 200 ∧
  (∀ j x, (ls i)[j]? = some x → T 6 (fs i + j) = x.1 ∧ T 7 (fs i + j) = x.2.1 ∧ T 8 (fs i + j) = x.2.2) ∧
  (∀ j c, (encL (ls i))[j]? = some c → s (103 + (cs i + j)) = c) ∧ (ls i = [] ∨ okS (ls i) 0)
def LawC (t : xT) (a r L : Nat) (ls : yLS) (s : Nat → Int32) : Prop := tP t r 3 = some L ∧ LwO t a L ∧ tI t L 0 = s 4 ∧ ∃ fs cs, LwK (fun j => tI t (L + j)) ls s (nC s) fs cs
def BkC (t : xT) (p k : Nat) (s : Nat → Int32) : Prop := tK t p = kK (s (5 + 4 * k)) ∧ tI t p 0 = s (5 + 4 * k) ∧ tI t p 1 = nI k ∧ tI t p 2 = s (5 + 4 * k + 1) ∧ tI t p 3 = s (5 + 4 * k + 2) ∧ tI t p 4 = s (5 + 4 * k + 3)
def BgC (t : xT) (a r : Nat) (B : Nat → Nat) (s : Nat → Int32) : Prop := ∀ k, k < nB s → tP t (r + 1) k = some (B k) ∧ a + 43 ≤ B k ∧ B k < t.1 ∧ BkC t (B k) k s
def StC (t : xT) (B : Nat → Nat) (ls : yLS) (s : Nat → Int32) : Prop := ∀ k, k < nB s → tI t (B k) 5 = tmS ls s k ∧ tI t (B k) 6 = tlS ls s k ∧ tI t (B k) 7 = opS ls s k
def TpC (t : xT) (a : Nat) (u : xS) : Prop := (∀ i, i < 200 → tI t (a + 33) i = u.2.1 17 i) ∧ tI t a 4 = u.1 18 ∧ ∃ m, m ≤ 200 ∧ u.1 18 = nI m
def RwC (t : xT) (a : Nat) (u : xS) : Prop := (∀ i, i < 60 → tI t (a + 34) i = u.2.1 15 i) ∧ tI t a 6 = u.1 16 ∧ ∃ m, m ≤ 20 ∧ u.1 16 = nI m
def RoO (t : xT) (a r : Nat) : Prop := a + 43 ≤ r ∧ r + 1 < t.1 ∧ tK t r = 8 ∧ tP t r 1 = some (r + 1) ∧ tK t (r + 1) = 20
def ShO (t : xT) (a : Nat) (u : xS) (j : Nat) : Prop := (tP t (a + 35) j = none ∧ u.2.1 25 j = -1) ∨ ∃ r, tP t (a + 35) j = some r ∧ RoO t a r ∧ tI t r 0 = u.2.1 25 j ∧ Ri (u.2.1 25 j) 0 4 ∧ tN t (r + 1) ≤ 40 ∧ u.2.1 26 j = nI (tN t (r + 1)) ∧ ∀ i, i < tN t (r + 1) → tI t (r + 1) i = u.2.1 27 (40 * j + i)
def ShC (t : xT) (a : Nat) (u : xS) : Prop := (∀ j, j < 4 → ShO t a u j) ∧ ∀ i j r, i < 4 → j < 4 → i ≠ j → tP t (a + 35) i = some r → tP t (a + 35) j ≠ some r
def SfO (t : xT) (a : Nat) (u : xS) (j : Nat) : Prop := (u.2.1 28 j = 1 ∧ tI t (a + 36) j = u.2.1 29 j ∧ tP t (a + 37) j = none) ∨ (u.2.1 28 j = 0 ∧ tI t (a + 36) j = -1 ∧ tP t (a + 37) j = none) ∨ (u.2.1 28 j = 2 ∧ tI t (a + 36) j = -1 ∧ ∃ r, tP t (a + 37) j = some r ∧ RoO t a r ∧ tI t r 0 = u.2.1 30 j ∧ Ri (u.2.1 30 j) 0 4 ∧ u.2.1 29 j = nI (tN t (r + 1)))
def SfC (t : xT) (a : Nat) (u : xS) : Prop := ∀ j, j < 4 → SfO t a u j
def TrC (t : xT) (a : Nat) (u : xS) : Prop := (∀ i, i < 30 → tI t (a + 39) i = u.2.1 31 i) ∧ tI t (a + 38) 1 = u.1 32 ∧ ∃ m, m ≤ 30 ∧ u.1 32 = nI m
def NwC (t : xT) (a : Nat) (B : Nat → Nat) (L : Nat) (ls : yLS) (s : Nat → Int32) : Prop := Iv s ∧ RdC t (a + 1) s ∧ LawC t a (a + 1) L ls s ∧ BgC t a (a + 1) B s ∧ StC t B ls s
def KpC (t : xT) (a : Nat) (B B' : Nat → Nat) (L' : Nat) (ls' : yLS) (s s' : Nat → Int32) : Prop := Iv s' ∧ RdC t (a + 17) s' ∧ LawC t a (a + 17) L' ls' s' ∧ BgC t a (a + 17) B' s' ∧ ∀ j k, j < nB s → k < nB s' → B j ≠ B' k
def RR (t : xT) (a : Nat) (u : xS) : Prop := ∃ (B B' : Nat → Nat) (L L' : Nat) (ls ls' : yLS), SkC t a ∧ NwC t a B L ls (u.2.1 0) ∧ tI t a 2 = u.1 3 ∧ (u.1 3 ≠ 0 → KpC t a B B' L' ls' (u.2.1 0) (u.2.1 1)) ∧ TpC t a u ∧ RwC t a u ∧ ShC t a u ∧ SfC t a u ∧ TrC t a u
theorem RR_k {t : xT} {a : Nat} {u : xS} (h : RR t a u) : tK t a = 11 := by
  obtain ⟨_, _, _, _, _, _, h, -⟩ := h
  exact h.1
/-- what of the reference's state counts -/
def Cr (u : xS) : (Nat → Int32) × (Nat → Int32) × (Nat → Int32) × (Nat → Int32) × (Nat → Int32) × (Nat → Int32) × (Nat → Int32) × (Nat → Int32) × (Nat → Int32) × (Nat → Int32) × (Nat → Int32) × Int32 × Int32 × Int32 × Int32 := (u.2.1 0, u.2.1 1, u.2.1 15, u.2.1 17, u.2.1 25, u.2.1 26, u.2.1 27, u.2.1 28, u.2.1 29, u.2.1 30, u.2.1 31, u.1 3, u.1 16, u.1 18, u.1 32)
theorem Cr_e {u u' : xS} (h : Cr u' = Cr u) : u'.2.1 0 = u.2.1 0 ∧ u'.2.1 1 = u.2.1 1 ∧ u'.2.1 15 = u.2.1 15 ∧ u'.2.1 17 = u.2.1 17 ∧ u'.2.1 25 = u.2.1 25 ∧ u'.2.1 26 = u.2.1 26 ∧ u'.2.1 27 = u.2.1 27 ∧ u'.2.1 28 = u.2.1 28 ∧ u'.2.1 29 = u.2.1 29 ∧ u'.2.1 30 = u.2.1 30 ∧ u'.2.1 31 = u.2.1 31 ∧ u'.1 3 = u.1 3 ∧ u'.1 16 = u.1 16 ∧ u'.1 18 = u.1 18 ∧ u'.1 32 = u.1 32 := by
  simpa only [Cr, Prod.mk.injEq] using h
theorem RR.scr {t : xT} {a : Nat} {u u' : xS} (h : RR t a u) (he : Cr u' = Cr u) : RR t a u' := by
  obtain ⟨e0, e1, e15, e17, e25, e26, e27, e28, e29, e30, e31, f3, f16, f18, f32⟩ := Cr_e he
  unfold RR TpC RwC ShC ShO SfC SfO TrC at *
  rw [e0, e1, e15, e17, e25, e26, e27, e28, e29, e30, e31, f3, f16, f18, f32]
  exact h
