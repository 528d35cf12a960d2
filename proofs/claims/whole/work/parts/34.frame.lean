/-! ===== pure mathematics 13: the relation kept when states change ===== -/
/-- old objects keep kind and length; ints change in X alone, references in Y alone -/
def Ol (t t' : xT) (X Y : Nat → Prop) : Prop := t.1 ≤ t'.1 ∧ (∀ q, q < t.1 → tK t' q = tK t q ∧ tN t' q = tN t q) ∧ (∀ q, q < t.1 → ¬ X q → tI t' q = tI t q) ∧ (∀ q, q < t.1 → ¬ Y q → tP t' q = tP t q)
theorem Ol.rf (t : xT) (X Y : Nat → Prop) : Ol t t X Y := ⟨Nat.le_refl _, fun _ _ => ⟨rfl, rfl⟩, fun _ _ _ => rfl, fun _ _ _ => rfl⟩
theorem Ol.tr {t t' t'' : xT} {X Y : Nat → Prop} (h : Ol t t' X Y) (h' : Ol t' t'' X Y) : Ol t t'' X Y :=
  ⟨Nat.le_trans h.1 h'.1, fun q hq => ⟨(h'.2.1 q (Nat.lt_of_lt_of_le hq h.1)).1.trans (h.2.1 q hq).1, (h'.2.1 q (Nat.lt_of_lt_of_le hq h.1)).2.trans (h.2.1 q hq).2⟩, fun q hq hx => (h'.2.2.1 q (Nat.lt_of_lt_of_le hq h.1) hx).trans (h.2.2.1 q hq hx), fun q hq hx => (h'.2.2.2 q (Nat.lt_of_lt_of_le hq h.1) hx).trans (h.2.2.2 q hq hx)⟩
theorem Ol.SI (t : xT) {X Y : Nat → Prop} {x : Nat} (k : Nat) (v : Int32) (h : X x) : Ol t (tSI t x k v) X Y := ⟨Nat.le_refl _, fun _ _ => ⟨rfl, rfl⟩, fun q _ hx => tI_SIn _ _ _ _ (fun e => hx (e ▸ h)), fun _ _ _ => rfl⟩
theorem Ol.SA (t : xT) {X Y : Nat → Prop} {x : Nat} (v : Nat → Int32) (h : X x) : Ol t (tSA t x v) X Y := ⟨Nat.le_refl _, fun _ _ => ⟨rfl, rfl⟩, fun q _ hx => tI_SAn _ _ _ (fun e => hx (e ▸ h)), fun _ _ _ => rfl⟩
theorem Ol.SP (t : xT) {X Y : Nat → Prop} {x : Nat} (k : Nat) (v : Option Nat) (h : Y x) : Ol t (tSP t x k v) X Y := ⟨Nat.le_refl _, fun _ _ => ⟨rfl, rfl⟩, fun _ _ _ => rfl, fun q _ hx => tP_SPn _ _ _ _ (fun e => hx (e ▸ h))⟩
theorem Ol.N (t : xT) {X Y : Nat → Prop} (k n : Nat) : Ol t (tNew t k n) X Y := ⟨Nat.le_succ _, fun q hq => ⟨tK_Nn _ _ _ (Nat.ne_of_lt hq), tN_Nn _ _ _ (Nat.ne_of_lt hq)⟩, fun q hq _ => tI_Nn _ _ _ (Nat.ne_of_lt hq), fun q hq _ => tP_Nn _ _ _ (Nat.ne_of_lt hq)⟩
theorem Ol.w {t t' : xT} {X Y X' Y' : Nat → Prop} (h : Ol t t' X Y) (hx : ∀ q, q < t.1 → X q → X' q) (hy : ∀ q, q < t.1 → Y q → Y' q) : Ol t t' X' Y' := ⟨h.1, h.2.1, fun q hq n => h.2.2.1 q hq (fun x => n (hx q hq x)), fun q hq n => h.2.2.2 q hq (fun y => n (hy q hq y))⟩
/-- where new addresses may be written too -/
theorem Ol.tr2 {t t' t'' : xT} {X Y X' Y' : Nat → Prop} (h : Ol t t' X Y) (h' : Ol t' t'' X' Y') (hx : ∀ q, q < t.1 → X' q → X q) (hy : ∀ q, q < t.1 → Y' q → Y q) : Ol t t'' X Y :=
  ⟨Nat.le_trans h.1 h'.1, fun q hq => ⟨(h'.2.1 q (Nat.lt_of_lt_of_le hq h.1)).1.trans (h.2.1 q hq).1, (h'.2.1 q (Nat.lt_of_lt_of_le hq h.1)).2.trans (h.2.1 q hq).2⟩, fun q hq n => (h'.2.2.1 q (Nat.lt_of_lt_of_le hq h.1) (fun x => n (hx q hq x))).trans (h.2.2.1 q hq n), fun q hq n => (h'.2.2.2 q (Nat.lt_of_lt_of_le hq h.1) (fun y => n (hy q hq y))).trans (h.2.2.2 q hq n)⟩
theorem SkC.lt {t : xT} {a : Nat} (h : SkC t a) : a + 43 ≤ t.1 := h.2.2.2.2.2.2.2.2.2.2.2.2.2.2.2.2.2.2.2.2.2.2.2.2
theorem Rd0.ol {t t' : xT} {X Y : Nat → Prop} {r : Nat} (h : Rd0 t r) (o : Ol t t' X Y) (hr : r + 15 < t.1) (hP : ∀ j, j ≠ 3 → tP t' r j = tP t r j) : Rd0 t' r := by
  obtain ⟨-, oK, -, -⟩ := o
  have eK : ∀ q, q < t.1 → tK t' q = tK t q := fun q hq => (oK q hq).1
  have eN : ∀ q, q < t.1 → tN t' q = tN t q := fun q hq => (oK q hq).2
  unfold Rd0 ArO at h ⊢
  rw [hP 0 (by decide), hP 4 (by decide), hP 5 (by decide), hP 6 (by decide), hP 8 (by decide), hP 9 (by decide), eK r (by omega), eK (r + 1) (by omega), eN (r + 1) (by omega), eK (r + 11) (by omega), eN (r + 11) (by omega), eK (r + 12) (by omega), eN (r + 12) (by omega), eK (r + 13) (by omega), eN (r + 13) (by omega), eK (r + 14) (by omega), eN (r + 14) (by omega), eK (r + 15) (by omega), eN (r + 15) (by omega)]
  exact h
theorem SkC.ol3 {t t' : xT} {X Y : Nat → Prop} {a : Nat} (h : SkC t a) (o : Ol t t' X Y) (hP : tP t' a = tP t a) (hP38 : tP t' (a + 38) = tP t (a + 38)) (hR : ∀ j, j ≠ 3 → tP t' (a + 1) j = tP t (a + 1) j) (hR' : ∀ j, j ≠ 3 → tP t' (a + 17) j = tP t (a + 17) j) : SkC t' a := by
  have hl := h.lt
  have oo := o
  obtain ⟨o1, oK, -, -⟩ := o
  have eK : ∀ q, q < t.1 → tK t' q = tK t q := fun q hq => (oK q hq).1
  have eN : ∀ q, q < t.1 → tN t' q = tN t q := fun q hq => (oK q hq).2
  obtain ⟨k0, p0, p1, p3, p5, p7, p8, p9, p10, p11, p12, p13, r1, r17, o33, o34, o35, o36, o37, o38, o39, o40, o41, o42, lt⟩ := h
  unfold ArO at o33 o34 o36 o39 o40 o41 o42
  refine ⟨?_, ?_, ?_, ?_, ?_, ?_, ?_, ?_, ?_, ?_, ?_, ?_, r1.ol oo (by omega) hR, r17.ol oo (by omega) hR', ?_, ?_, ?_, ?_, ?_, ?_, ?_, ?_, ?_, ?_, by omega⟩
  · rw [eK a (by omega)]; exact k0
  · rw [hP]; exact p0
  · rw [hP]; exact p1
  · rw [hP]; exact p3
  · rw [hP]; exact p5
  · rw [hP]; exact p7
  · rw [hP]; exact p8
  · rw [hP]; exact p9
  · rw [hP]; exact p10
  · rw [hP]; exact p11
  · rw [hP]; exact p12
  · rw [hP]; exact p13
  · unfold ArO; rw [eK _ (by omega), eN _ (by omega)]; exact o33
  · unfold ArO; rw [eK _ (by omega), eN _ (by omega)]; exact o34
  · rw [eK _ (by omega), eN _ (by omega)]; exact o35
  · unfold ArO; rw [eK _ (by omega), eN _ (by omega)]; exact o36
  · rw [eK _ (by omega), eN _ (by omega)]; exact o37
  · rw [eK _ (by omega), hP38]; exact o38
  · unfold ArO; rw [eK _ (by omega), eN _ (by omega)]; exact o39
  · unfold ArO; rw [eK _ (by omega), eN _ (by omega)]; exact o40
  · unfold ArO; rw [eK _ (by omega), eN _ (by omega)]; exact o41
  · unfold ArO; rw [eK _ (by omega), eN _ (by omega)]; exact o42
theorem SkC.ol {t t' : xT} {X Y : Nat → Prop} {a : Nat} (h : SkC t a) (o : Ol t t' X Y) (y0 : ¬ Y a) (y1 : ¬ Y (a + 1)) (y17 : ¬ Y (a + 17)) (y38 : ¬ Y (a + 38)) : SkC t' a := by
  have hl := h.lt
  exact h.ol3 o (o.2.2.2 a (by omega) y0) (o.2.2.2 _ (by omega) y38) (fun j _ => by rw [o.2.2.2 (a + 1) (by omega) y1]) (fun j _ => by rw [o.2.2.2 (a + 17) (by omega) y17])
theorem RdC.ol {t t' : xT} {X Y : Nat → Prop} {r : Nat} {s : Nat → Int32} (h : RdC t r s) (o : Ol t t' X Y) (hr : r + 15 < t.1) (hx : ∀ q, q = r ∨ (r + 11 ≤ q ∧ q ≤ r + 15) → ¬ X q) : RdC t' r s := by
  have e : ∀ q, q = r ∨ (r + 11 ≤ q ∧ q ≤ r + 15) → tI t' q = tI t q := fun q hq => o.2.2.1 q (by omega) (hx q hq)
  unfold RdC at h ⊢
  rw [e r (by omega), e (r + 11) (by omega), e (r + 12) (by omega), e (r + 13) (by omega), e (r + 14) (by omega), e (r + 15) (by omega)]
  exact h
theorem LwO.ol {t t' : xT} {X Y : Nat → Prop} {a L : Nat} (h : LwO t a L) (o : Ol t t' X Y) (hy : ¬ Y L) : LwO t' a L := by
  obtain ⟨h1, h2, h3, h4, h5⟩ := h
  refine ⟨(o.2.1 L (by omega)).1.trans h1, fun j j1 j2 => ?_, fun j j1 j2 => ?_, Nat.le_trans h4 o.1, h5⟩
  · unfold ArO; rw [o.2.2.2 L (by omega) hy, (o.2.1 (L + j) (by omega)).1, (o.2.1 (L + j) (by omega)).2]; exact h2 j j1 j2
  · unfold ArO; rw [o.2.2.2 L (by omega) hy, (o.2.1 (L + j) (by omega)).1, (o.2.1 (L + j) (by omega)).2]; exact h3 j j1 j2
theorem LawC.ol3 {t t' : xT} {X Y : Nat → Prop} {a r L : Nat} {ls : yLS} {s : Nat → Int32} (h : LawC t a r L ls s) (o : Ol t t' X Y) (hr : tP t' r 3 = tP t r 3) (hy : ¬ Y L) (hx : ∀ q, L ≤ q → q ≤ L + 8 → ¬ X q) : LawC t' a r L ls s := by
  obtain ⟨h1, h2, h3, fs, cs, h4⟩ := h
  have hl := h2.2.2.2.1
  refine ⟨hr.trans h1, h2.ol o hy, ?_, fs, cs, h4.congr fun j j1 j2 => o.2.2.1 (L + j) (by omega) (hx _ (by omega) (by omega))⟩
  rw [o.2.2.1 L (by omega) (hx _ (by omega) (by omega))]; exact h3
theorem BkC.ol {t t' : xT} {X Y : Nat → Prop} {p k : Nat} {s : Nat → Int32} (h : BkC t p k s) (o : Ol t t' X Y) (hp : p < t.1) (hx : ¬ X p) : BkC t' p k s := by
  unfold BkC at h ⊢
  rw [(o.2.1 p hp).1, o.2.2.1 p hp hx]
  exact h
theorem BgC.ol {t t' : xT} {X Y : Nat → Prop} {a r : Nat} {B : Nat → Nat} {s : Nat → Int32} (h : BgC t a r B s) (o : Ol t t' X Y) (hr : r + 1 < t.1) (hy : ¬ Y (r + 1)) (hx : ∀ k, k < nB s → ¬ X (B k)) : BgC t' a r B s := by
  intro k hk
  obtain ⟨h1, h2, h3, h4⟩ := h k hk
  refine ⟨?_, h2, Nat.lt_of_lt_of_le h3 o.1, h4.ol o h3 (hx k hk)⟩
  rw [o.2.2.2 _ hr hy]; exact h1
theorem StC.ol {t t' : xT} {X Y : Nat → Prop} {B : Nat → Nat} {s : Nat → Int32} {ls : yLS} (h : StC t B ls s) (o : Ol t t' X Y) (hb : ∀ k, k < nB s → B k < t.1) (hx : ∀ k, k < nB s → ¬ X (B k)) : StC t' B ls s := by
  intro k hk
  rw [o.2.2.1 _ (hb k hk) (hx k hk)]; exact h k hk
/-- the law's place -/
theorem LwO.at {t : xT} {a L : Nat} (h : LwO t a L) : L + 9 ≤ t.1 ∧ ((a + 3 ≤ L ∧ L + 8 ≤ a + 27) ∨ a + 43 ≤ L) := by
  obtain ⟨-, -, -, h4, h5⟩ := h
  exact ⟨h4, by omega⟩
theorem LwO.kind {t : xT} {a L q : Nat} (h : LwO t a L) (h1 : L ≤ q) (h2 : q ≤ L + 8) : tK t q = 2 ∨ tK t q = 20 := by
  obtain ⟨g1, g2, g3, -⟩ := h
  by_cases e : q = L
  · subst e; exact Or.inl g1
  · have e2 : q = L + (q - L) := by omega
    by_cases c : q - L ≤ 5
    · rw [e2]; exact Or.inr (g2 (q - L) (by omega) c).2.1
    · rw [e2]; exact Or.inr (g3 (q - L) (by omega) (by omega)).2.1
theorem LwO.nb {t : xT} {a L q : Nat} (h : LwO t a L) (hb : isBk (tK t q)) : ∀ x, L ≤ x → x ≤ L + 8 → ¬ x = q := by
  intro x h1 h2 e
  subst e
  rcases h.kind h1 h2 with k | k <;> rw [k] at hb <;> revert hb <;> decide
theorem NwC.ol {t t' : xT} {X Y : Nat → Prop} {a : Nat} {B : Nat → Nat} {L : Nat} {ls : yLS} {s : Nat → Int32} (h : NwC t a B L ls s) (o : Ol t t' X Y) (hl : a + 43 ≤ t.1) (hx : ∀ q, a + 1 ≤ q → q ≤ a + 27 → ¬ X q) (hy : ∀ q, a + 1 ≤ q → q ≤ a + 27 → ¬ Y q) (hx2 : ∀ q, a + 43 ≤ q → q < t.1 → (q = L ∨ isBk (tK t q) ∨ (L + 1 ≤ q ∧ q ≤ L + 8)) → ¬ X q) (hy2 : a + 43 ≤ L → ¬ Y L) : NwC t' a B L ls s := by
  obtain ⟨h1, h2, h3, h4, h5⟩ := h
  have hL := h3.2.1.at
  have hb : ∀ k, k < nB s → ¬ X (B k) := fun k hk => hx2 _ (h4 k hk).2.1 (h4 k hk).2.2.1 (Or.inr (Or.inl (by rw [(h4 k hk).2.2.2.1]; exact kK_bk _)))
  refine ⟨h1, h2.ol o (by omega) (fun q hq => hx q (by omega) (by omega)), h3.ol3 o (by rw [o.2.2.2 (a + 1) (by omega) (hy _ (by omega) (by omega))]) ?_ ?_, h4.ol o (by omega) (hy _ (by omega) (by omega)) hb, h5.ol o (fun k hk => (h4 k hk).2.2.1) hb⟩
  · rcases hL.2 with c | c
    · exact hy _ (by omega) (by omega)
    · exact hy2 c
  · intro q q1 q2
    rcases hL.2 with c | c
    · exact hx _ (by omega) (by omega)
    · exact hx2 q (by omega) (by omega) (by omega)
theorem KpC.ol {t t' : xT} {X Y : Nat → Prop} {a : Nat} {B B' : Nat → Nat} {L' : Nat} {ls' : yLS} {s s' : Nat → Int32} (h : KpC t a B B' L' ls' s s') (o : Ol t t' X Y) (hl : a + 43 ≤ t.1) (hx : ∀ q, a + 3 ≤ q → q ≤ a + 11 → ¬ X q) (hx3 : ∀ q, a + 17 ≤ q → q ≤ a + 32 → ¬ X q) (hy : ∀ q, a + 3 ≤ q → q ≤ a + 11 → ¬ Y q) (hy3 : ∀ q, a + 17 ≤ q → q ≤ a + 32 → ¬ Y q) (hx2 : ∀ q, a + 43 ≤ q → q < t.1 → (q = L' ∨ (isBk (tK t q) ∧ ∃ k, k < nB s' ∧ q = B' k) ∨ (L' + 1 ≤ q ∧ q ≤ L' + 8)) → ¬ X q) (hy2 : a + 43 ≤ L' → ¬ Y L') : KpC t' a B B' L' ls' s s' := by
  obtain ⟨h1, h2, h3, h4, h5⟩ := h
  have hL := h3.2.1.2.2.2
  have hb : ∀ k, k < nB s' → ¬ X (B' k) := fun k hk => hx2 _ (h4 k hk).2.1 (h4 k hk).2.2.1 (Or.inr (Or.inl ⟨by rw [(h4 k hk).2.2.2.1]; exact kK_bk _, k, hk, rfl⟩))
  refine ⟨h1, h2.ol o (by omega) (fun q hq => hx3 q (by omega) (by omega)), h3.ol3 o (by rw [o.2.2.2 (a + 17) (by omega) (hy3 _ (by omega) (by omega))]) ?_ ?_, h4.ol o (by omega) (hy3 _ (by omega) (by omega)) hb, h5⟩
  · rcases hL.2 with c | c | c
    · exact hy _ (by omega) (by omega)
    · exact hy3 _ (by omega) (by omega)
    · exact hy2 c
  · intro q q1 q2
    rcases hL.2 with c | c | c
    · exact hx _ (by omega) (by omega)
    · exact hx3 _ (by omega) (by omega)
    · exact hx2 q (by omega) (by omega) (by omega)
theorem TpC.ol {t t' : xT} {X Y : Nat → Prop} {a : Nat} {u u' : xS} (h : TpC t a u) (o : Ol t t' X Y) (hl : a + 43 ≤ t.1) (h1 : tI t' a 4 = tI t a 4) (x33 : ¬ X (a + 33)) (e1 : u'.2.1 17 = u.2.1 17) (e2 : u'.1 18 = u.1 18) : TpC t' a u' := by
  unfold TpC at h ⊢
  rw [h1, o.2.2.1 _ (by omega) x33, e1, e2]; exact h
theorem RwC.ol {t t' : xT} {X Y : Nat → Prop} {a : Nat} {u u' : xS} (h : RwC t a u) (o : Ol t t' X Y) (hl : a + 43 ≤ t.1) (h1 : tI t' a 6 = tI t a 6) (x34 : ¬ X (a + 34)) (e1 : u'.2.1 15 = u.2.1 15) (e2 : u'.1 16 = u.1 16) : RwC t' a u' := by
  unfold RwC at h ⊢
  rw [h1, o.2.2.1 _ (by omega) x34, e1, e2]; exact h
theorem TrC.ol {t t' : xT} {X Y : Nat → Prop} {a : Nat} {u u' : xS} (h : TrC t a u) (o : Ol t t' X Y) (hl : a + 43 ≤ t.1) (x38 : ¬ X (a + 38)) (x39 : ¬ X (a + 39)) (e1 : u'.2.1 31 = u.2.1 31) (e2 : u'.1 32 = u.1 32) : TrC t' a u' := by
  unfold TrC at h ⊢
  rw [o.2.2.1 _ (by omega) x38, o.2.2.1 _ (by omega) x39, e1, e2]; exact h
theorem RoO.ol {t t' : xT} {X Y : Nat → Prop} {a r : Nat} (h : RoO t a r) (o : Ol t t' X Y) (hy : ¬ Y r) : RoO t' a r := by
  obtain ⟨h1, h2, h3, h4, h5⟩ := h
  refine ⟨h1, Nat.lt_of_lt_of_le h2 o.1, (o.2.1 r (by omega)).1.trans h3, ?_, (o.2.1 (r + 1) h2).1.trans h5⟩
  rw [o.2.2.2 r (by omega) hy]; exact h4
theorem ShO.ol {t t' : xT} {X Y : Nat → Prop} {a j : Nat} {u u' : xS} (h : ShO t a u j) (o : Ol t t' X Y) (hP : tP t' (a + 35) j = tP t (a + 35) j) (hx : ∀ r, tP t (a + 35) j = some r → RoO t a r → ¬ X r ∧ ¬ X (r + 1) ∧ ¬ Y r) (e1 : u'.2.1 25 j = u.2.1 25 j) (e2 : u'.2.1 26 j = u.2.1 26 j) (e3 : ∀ i, i < 40 → u'.2.1 27 (40 * j + i) = u.2.1 27 (40 * j + i)) : ShO t' a u' j := by
  rcases h with ⟨h1, h2⟩ | ⟨r, h1, h2, h3, h4, h5, h6, h7⟩
  · left; rw [hP, e1]; exact ⟨h1, h2⟩
  · right
    obtain ⟨x1, x2, x3⟩ := hx r h1 h2
    have hr := h2.2.1
    refine ⟨r, hP.trans h1, h2.ol o x3, ?_, ?_, ?_, ?_, ?_⟩
    · rw [o.2.2.1 r (by omega) x1, e1]; exact h3
    · rw [e1]; exact h4
    · rw [(o.2.1 (r + 1) hr).2]; exact h5
    · rw [(o.2.1 (r + 1) hr).2, e2]; exact h6
    · intro i hi
      rw [(o.2.1 (r + 1) hr).2] at hi
      rw [o.2.2.1 (r + 1) hr x2, e3 i (by omega)]; exact h7 i hi
theorem ShC.ol {t t' : xT} {X Y : Nat → Prop} {a : Nat} {u u' : xS} (h : ShC t a u) (o : Ol t t' X Y) (hl : a + 43 ≤ t.1) (y35 : ¬ Y (a + 35)) (hx : ∀ r, RoO t a r → ¬ X r ∧ ¬ X (r + 1) ∧ ¬ Y r) (e1 : u'.2.1 25 = u.2.1 25) (e2 : u'.2.1 26 = u.2.1 26) (e3 : u'.2.1 27 = u.2.1 27) : ShC t' a u' := by
  have eP : tP t' (a + 35) = tP t (a + 35) := o.2.2.2 _ (by omega) y35
  refine ⟨fun j hj => (h.1 j hj).ol o (by rw [eP]) (fun r _ hr => hx r hr) (by rw [e1]) (by rw [e2]) (fun i _ => by rw [e3]), ?_⟩
  rw [eP]; exact h.2
theorem SfO.ol {t t' : xT} {X Y : Nat → Prop} {a j : Nat} {u u' : xS} (h : SfO t a u j) (o : Ol t t' X Y) (hI : tI t' (a + 36) j = tI t (a + 36) j) (hP : tP t' (a + 37) j = tP t (a + 37) j) (hx : ∀ r, RoO t a r → ¬ X r ∧ ¬ Y r) (e1 : u'.2.1 28 j = u.2.1 28 j) (e2 : u'.2.1 29 j = u.2.1 29 j) (e3 : u'.2.1 30 j = u.2.1 30 j) : SfO t' a u' j := by
  unfold SfO at h ⊢
  rw [hI, hP, e1, e2, e3]
  rcases h with h | h | ⟨h1, h2, r, h3, h4, h5, h6, h7⟩
  · exact Or.inl h
  · exact Or.inr (Or.inl h)
  · obtain ⟨x1, x2⟩ := hx r h4
    have hr := h4.2.1
    refine Or.inr (Or.inr ⟨h1, h2, r, h3, h4.ol o x2, ?_, h6, ?_⟩)
    · rw [o.2.2.1 r (by omega) x1]; exact h5
    · rw [(o.2.1 (r + 1) hr).2]; exact h7
theorem SfC.ol {t t' : xT} {X Y : Nat → Prop} {a : Nat} {u u' : xS} (h : SfC t a u) (o : Ol t t' X Y) (hl : a + 43 ≤ t.1) (x36 : ¬ X (a + 36)) (y37 : ¬ Y (a + 37)) (hx : ∀ r, RoO t a r → ¬ X r ∧ ¬ Y r) (e1 : u'.2.1 28 = u.2.1 28) (e2 : u'.2.1 29 = u.2.1 29) (e3 : u'.2.1 30 = u.2.1 30) : SfC t' a u' := fun j hj => (h j hj).ol o (by rw [o.2.2.1 _ (by omega) x36]) (by rw [o.2.2.2 _ (by omega) y37]) hx (by rw [e1]) (by rw [e2]) (by rw [e3])
/-- the class's own things change; road, bridges, laws stand -/
theorem RR.own {t t' : xT} {X Y : Nat → Prop} {a : Nat} {u u' : xS} (h : RR t a u) (o : Ol t t' X Y) (hx : ∀ q, X q → q = a ∨ (a + 33 ≤ q ∧ q ≤ a + 42)) (hy : ∀ q, Y q → a + 33 ≤ q ∧ q ≤ a + 37) (h2 : tI t' a 2 = tI t a 2) (e0 : u'.2.1 0 = u.2.1 0) (e1 : u'.2.1 1 = u.2.1 1) (e3 : u'.1 3 = u.1 3) (hTp : TpC t' a u') (hRw : RwC t' a u') (hSh : ShC t' a u') (hSf : SfC t' a u') (hTr : TrC t' a u') : RR t' a u' := by
  obtain ⟨B, B', L, L', ls, ls', hS, hN, hk, hK, -⟩ := h
  have hl := hS.lt
  have nx : ∀ q, (a + 1 ≤ q ∧ q ≤ a + 32) ∨ a + 43 ≤ q → ¬ X q := fun q hq hxq => by have := hx q hxq; omega
  have ny : ∀ q, (a + 1 ≤ q ∧ q ≤ a + 32) ∨ a + 43 ≤ q ∨ q = a + 38 ∨ q = a → ¬ Y q := fun q hq hxq => by have := hy q hxq; omega
  refine ⟨B, B', L, L', ls, ls', hS.ol o (ny _ (by omega)) (ny _ (by omega)) (ny _ (by omega)) (ny _ (by omega)), ?_, ?_, ?_, hTp, hRw, hSh, hSf, hTr⟩
  · rw [e0]; exact hN.ol o hl (fun q q1 q2 => nx q (by omega)) (fun q q1 q2 => ny q (by omega)) (fun q q1 _ _ => nx q (by omega)) (fun c => ny _ (by omega))
  · rw [h2, e3]; exact hk
  · rw [e3, e0, e1]; intro g
    exact (hK g).ol o hl (fun q q1 q2 => nx q (by omega)) (fun q q1 q2 => nx q (by omega)) (fun q q1 q2 => ny q (by omega)) (fun q q1 q2 => ny q (by omega)) (fun q q1 _ _ => nx q (by omega)) (fun c => ny _ (by omega))
/-- only new objects and scratch rows -/
theorem RR.scratch {t t' : xT} {a : Nat} {u : xS} (h : RR t a u) (o : Ol t t' (fun q => a + 40 ≤ q ∧ q ≤ a + 42) (fun _ => False)) : RR t' a u := by
  obtain ⟨hS, hTp, hRw, hSh, hSf, hTr, -⟩ := h.more
  have hl := hS.lt
  have ea : tI t' a = tI t a := o.2.2.1 a (by omega) (by omega)
  exact h.own o (fun q hq => by omega) (fun q hq => hq.elim) (by rw [ea]) rfl rfl rfl
    (hTp.ol o hl (by rw [ea]) (by omega) rfl rfl) (hRw.ol o hl (by rw [ea]) (by omega) rfl rfl)
    (hSh.ol o hl id (fun r hr => by have := hr.1; exact ⟨by omega, by omega, id⟩) rfl rfl rfl)
    (hSf.ol o hl (by omega) id (fun r hr => by have := hr.1; exact ⟨by omega, id⟩) rfl rfl rfl)
    (hTr.ol o hl (by omega) (by omega) rfl rfl)
/-! what a change of people and tales leaves -/
def Sg (s s' : Nat → Int32) : Prop := s' 0 = s 0 ∧ s' 3 = s 3 ∧ s' 4 = s 4 ∧ (∀ j, 5 ≤ j → j < 41 → s' j = s j) ∧ ∀ j, 71 ≤ j → s' j = s j
theorem Sg.fctE {s s' : Nat → Int32} (h : Sg s s') {k : Nat} (hk : k < 9) (c : Int32) : fct s' k c = fct s k c := by
  obtain ⟨h0, h3, h4, hb, hc⟩ := h
  unfold fct
  rw [h3, hb (5 + 4 * k + 1) (by omega) (by omega), hb (5 + 4 * k + 2) (by omega) (by omega), hb (5 + 4 * k + 3) (by omega) (by omega)]
theorem Sg.cl {ls : yLS} {s s' : Nat → Int32} (h : Sg s s') {k : Nat} (hk : k < 9) : clS ls s' k = clS ls s k := by
  have hf : fct s' k = fct s k := funext fun c => h.fctE hk c
  have hh : ∀ i, hold ls s' k i = hold ls s k i := fun i => by unfold hold; rw [hf]
  have hF : ∀ m i, clF ls s' k m i = clF ls s k m i := by
    intro m
    induction m with
    | zero => intro i; rfl
    | succ m ih => intro i; unfold clF; rw [hh, ih, h.2.2.2.1 (5 + 4 * k) (by omega) (by omega), h.2.2.2.2 (71 + 4 * i) (by omega)]
  unfold clS nC
  rw [h.2.2.1, hF]
theorem Sg.dd {ls : yLS} {s s' : Nat → Int32} (h : Sg s s') {k : Nat} (hk : k < 9) : ddS ls s' k = ddS ls s k ∧ mmS ls s' k = mmS ls s k := by
  unfold ddS mmS
  rw [h.cl hk]
  cases clS ls s k with
  | none => exact ⟨rfl, rfl⟩
  | some i => exact ⟨h.2.2.2.2 _ (by omega), h.2.2.2.2 _ (by omega)⟩
theorem Sg.now {ls : yLS} {s s' : Nat → Int32} (h : Sg s s') {k : Nat} (hk : k < 9) : tmS ls s' k = tmS ls s k ∧ tlS ls s' k = tlS ls s k ∧ opS ls s' k = opS ls s k := by
  obtain ⟨d1, d2⟩ := h.dd (ls := ls) hk
  have e : ∀ w, w < 4 → s' (5 + 4 * k + w) = s (5 + 4 * k + w) := fun w hw => h.2.2.2.1 _ (by omega) (by omega)
  have e0 : s' (5 + 4 * k) = s (5 + 4 * k) := e 0 (by decide)
  unfold tmS tlS tbS opS
  rw [d1, d2, e0, e 1 (by decide), e 2 (by decide), e 3 (by decide), h.2.1]
  exact ⟨rfl, rfl, rfl⟩
theorem Sg.nBE {s s' : Nat → Int32} (h : Sg s s') : nB s' = nB s := by unfold nB; rw [h.1]
theorem Sg.nCE {s s' : Nat → Int32} (h : Sg s s') : nC s' = nC s := by unfold nC; rw [h.2.2.1]
theorem Sg.lw {T : Nat → Nat → Int32} {ls : yLS} {s s' : Nat → Int32} {n : Nat} {fs cs : Nat → Nat} (h : Sg s s') (hW : LwK T ls s n fs cs) : LwK T ls s' n fs cs := by
  refine ⟨hW.1, hW.2.1, fun i hi => ?_⟩
  obtain ⟨g1, g2, g3, g4, g5, g6, g7, g8, g9, g10⟩ := hW.2.2 i hi
  have e : ∀ j, 71 ≤ j → s' j = s j := h.2.2.2.2
  rw [e (71 + 4 * i) (by omega), e (72 + 4 * i) (by omega), e (73 + 4 * i) (by omega), e (74 + 4 * i) (by omega)]
  exact ⟨g1, g2, g3, g4, g5, g6, g7, g8, fun j c hc => by rw [e _ (by omega)]; exact g9 j c hc, g10⟩
theorem Sg.law {t : xT} {a r L : Nat} {ls : yLS} {s s' : Nat → Int32} (h : Sg s s') (hL : LawC t a r L ls s) : LawC t a r L ls s' := by
  obtain ⟨h1, h2, h3, fs, cs, h4⟩ := hL
  exact ⟨h1, h2, by rw [h.2.2.1]; exact h3, fs, cs, by rw [h.nCE]; exact h.lw h4⟩
theorem Sg.bk {t : xT} {p k : Nat} {s s' : Nat → Int32} (h : Sg s s') (hk : k < 9) (hB : BkC t p k s) : BkC t p k s' := by
  have e : ∀ w, w < 4 → s' (5 + 4 * k + w) = s (5 + 4 * k + w) := fun w hw => h.2.2.2.1 _ (by omega) (by omega)
  have e0 : s' (5 + 4 * k) = s (5 + 4 * k) := e 0 (by decide)
  unfold BkC at hB ⊢
  rw [e0, e 1 (by decide), e 2 (by decide), e 3 (by decide)]; exact hB
theorem Sg.bg {t : xT} {a r : Nat} {B : Nat → Nat} {s s' : Nat → Int32} (h : Sg s s') (h9 : nB s ≤ 9) (hB : BgC t a r B s) : BgC t a r B s' := by
  intro k hk
  rw [h.nBE] at hk
  obtain ⟨g1, g2, g3, g4⟩ := hB k hk
  exact ⟨g1, g2, g3, h.bk (by omega) g4⟩
theorem Sg.st {t : xT} {B : Nat → Nat} {ls : yLS} {s s' : Nat → Int32} (h : Sg s s') (h9 : nB s ≤ 9) (hB : StC t B ls s) : StC t B ls s' := by
  intro k hk
  rw [h.nBE] at hk
  obtain ⟨e1, e2, e3⟩ := h.now (ls := ls) (k := k) (by omega)
  rw [e1, e2, e3]; exact hB k hk
/-- people, tales: X lies in the road's own rows of the now -/
theorem RR.road {t t' : xT} {X : Nat → Prop} {a : Nat} {u u' : xS} (h : RR t a u) (o : Ol t t' X (fun _ => False)) (hx : ∀ q, X q → q = a + 1 ∨ (a + 12 ≤ q ∧ q ≤ a + 16)) (hg : Sg (u.2.1 0) (u'.2.1 0)) (hI : Iv (u'.2.1 0)) (hR : RdC t' (a + 1) (u'.2.1 0)) (e : Cr u' = Cr (u.1, fun j => if j = 0 then u'.2.1 0 else u.2.1 j, u.2.2)) : RR t' a u' := by
  obtain ⟨B, B', L, L', ls, ls', hS, ⟨hI0, hR0, hL0, hB0, hSt0⟩, hk, hK, hTp, hRw, hSh, hSf, hTr⟩ := h
  have hl := hS.lt
  have h9 := hI0.1.1
  obtain ⟨-, e1, e15, e17, e25, e26, e27, e28, e29, e30, e31, f3, f16, f18, f32⟩ := Cr_e e
  have nx : ∀ q, q ≠ a + 1 → (q < a + 12 ∨ a + 17 ≤ q) → ¬ X q := fun q h1 hq hxq => by have := hx q hxq; omega
  have ea : tI t' a = tI t a := o.2.2.1 a (by omega) (nx _ (by omega) (by omega))
  have hL := hL0.2.1.at
  have hLx := hL0.2.1.2.2.2.2
  have hb : ∀ k, k < nB (u.2.1 0) → ¬ X (B k) := fun k hk => by have := (hB0 k hk).2.1; exact nx _ (by omega) (by omega)
  have hr : ∀ r, RoO t a r → ¬ X r ∧ ¬ X (r + 1) ∧ ¬ (fun _ => False) r := fun r hr => by have := hr.1; exact ⟨nx _ (by omega) (by omega), nx _ (by omega) (by omega), id⟩
  refine ⟨B, B', L, L', ls, ls', hS.ol o id id id id, ⟨hI, hR, ?_, ?_, ?_⟩, ?_, ?_, ?_, ?_, ?_, ?_, ?_⟩
  · exact hg.law (hL0.ol3 o (by rw [o.2.2.2 (a + 1) (by omega) id]) id (fun q q1 q2 => nx q (by omega) (by omega)))
  · exact hg.bg h9 (hB0.ol o (by omega) id hb)
  · exact hg.st h9 (hSt0.ol o (fun k hk => (hB0 k hk).2.2.1) hb)
  · rw [ea, f3]; exact hk
  · rw [f3, e1]; intro g
    have := (hK g).ol o hl (fun q q1 q2 => nx q (by omega) (by omega)) (fun q q1 q2 => nx q (by omega) (by omega)) (fun q q1 q2 => id) (fun q q1 q2 => id) (fun q q1 _ _ => nx q (by omega) (by omega)) (fun c => id)
    exact ⟨this.1, this.2.1, this.2.2.1, this.2.2.2.1, fun j k hj hk => this.2.2.2.2 j k (by rw [hg.nBE] at hj; exact hj) hk⟩
  · exact hTp.ol o hl (by rw [ea]) (nx _ (by omega) (by omega)) e17 f18
  · exact hRw.ol o hl (by rw [ea]) (nx _ (by omega) (by omega)) e15 f16
  · exact hSh.ol o hl id hr e25 e26 e27
  · exact hSf.ol o hl (nx _ (by omega) (by omega)) id (fun r h => ⟨(hr r h).1, id⟩) e28 e29 e30
  · exact hTr.ol o hl (nx _ (by omega) (by omega)) (nx _ (by omega) (by omega)) e31 f32
