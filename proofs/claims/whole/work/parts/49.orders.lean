/-! ===== pure mathematics 28: orders of sets ===== -/
def clr (q b : Nat) : Nat := if q.testBit b = true then q - 2 ^ b else q
theorem bt1 : ∀ q, q < 512 → ∀ b, b < 9 → ((nI q >>> (nI b &&& 31)) &&& (1 : Int32)) = if q.testBit b = true then 1 else 0 := by decide +kernel
theorem bt2 : ∀ q, q < 512 → ∀ b, b < 9 → (nI q &&& (((1 : Int32) <<< (nI b &&& 31)) ^^^ (-1 : Int32))) = nI (clr q b) := by decide +kernel
theorem bt3 : ∀ q, q < 512 → ∀ b, b < 9 → q.testBit b = true → clr q b < q := by decide +kernel
theorem bt4 : ∀ q, q < 512 → ∀ b, b < 9 → ∀ c, c < 9 → (clr q b).testBit c = (q.testBit c && !decide (c = b)) := by decide +kernel
theorem bt5 : ∀ q, q < 512 → (∀ b, b < 9 → q.testBit b = false) → q = 0 := by decide +kernel
def pc (q : Nat) : Nat := (if q.testBit 0 = true then 1 else 0) + (if q.testBit 1 = true then 1 else 0) + (if q.testBit 2 = true then 1 else 0) + (if q.testBit 3 = true then 1 else 0) + (if q.testBit 4 = true then 1 else 0) + (if q.testBit 5 = true then 1 else 0) + (if q.testBit 6 = true then 1 else 0) + (if q.testBit 7 = true then 1 else 0) + (if q.testBit 8 = true then 1 else 0)
theorem bt6 : ∀ q, q < 512 → F_J6_bitCount_0f7a4 (nI q) = some (nI (pc q)) := by decide +kernel
theorem bt7 : ∀ q, q < 512 → ∀ b, b < 9 → q.testBit b = true → pc (clr q b) + 1 = pc q := by decide +kernel
theorem bt8 : ∀ q, q < 512 → pc q = 0 → q = 0 := by decide +kernel
theorem bt9 : ∀ q, q < 512 → pc q ≤ 9 := by decide +kernel
theorem bt0 : ∀ N, N ≤ 9 → (1 : Int32) <<< (nI N &&& 31) = nI (2 ^ N) := by decide +kernel
theorem pow9 : ∀ N, N ≤ 9 → 2 ^ N ≤ 512 := by decide
theorem clr_le (q b : Nat) : clr q b ≤ q := by
  unfold clr
  by_cases c : q.testBit b = true
  · rw [if_pos c]; exact Nat.sub_le _ _
  · rw [if_neg c]; exact Nat.le_refl _
theorem tb_N {q N b : Nat} (h : q < 2 ^ N) (hb : N ≤ b) : q.testBit b = false := Nat.testBit_lt_two_pow (Nat.lt_of_lt_of_le h (Nat.pow_le_pow_right (by decide) hb))
def Sub (q s : Nat) : Prop := ∀ b, b < 9 → q.testBit b = true → s.testBit b = true
theorem Sub.clr {q s b : Nat} (hq : q < 512) (hb : b < 9) (h : Sub q s) : Sub (clr q b) s := fun c hc h1 => by
  rw [bt4 q hq b hb c hc] at h1
  exact h c hc (by revert h1; cases q.testBit c <;> simp)
theorem bt_sub {q s : Nat} (hq : q < 512) (hs : s < 512) : ((nI q &&& (nI s ^^^ (-1 : Int32))) = 0) ↔ Sub q s := by
  have e : ∀ i, i < 32 → (nI q &&& (nI s ^^^ (-1 : Int32))).toBitVec.getLsbD i = (q.testBit i && !s.testBit i) := by
    intro i hi
    have e1 : (nI q &&& (nI s ^^^ (-1 : Int32))).toBitVec = BitVec.ofNat 32 q &&& (BitVec.ofNat 32 s ^^^ (-1 : Int32).toBitVec) := rfl
    have e2 : ∀ i, i < 32 → (-1 : Int32).toBitVec.getLsbD i = true := by decide
    rw [e1, BitVec.getLsbD_and, BitVec.getLsbD_xor, BitVec.getLsbD_ofNat, BitVec.getLsbD_ofNat, e2 i hi]
    simp [hi]
  constructor
  · intro h b hb h1
    have := e b (by omega)
    rw [h] at this
    have z : (0 : Int32).toBitVec.getLsbD b = false := by simp
    rw [z, h1, Bool.true_and] at this
    revert this; cases s.testBit b <;> simp
  · intro h
    apply Int32.toBitVec_inj.1
    apply BitVec.eq_of_getLsbD_eq
    intro i hi
    rw [e i hi]
    have z : (0 : Int32).toBitVec.getLsbD i = false := by simp
    rw [z]
    by_cases c : i < 9
    · cases d : q.testBit i with
      | false => rfl
      | true => rw [h i c d]; rfl
    · rw [tb_N (N := 9) (q := q) (by omega) (by omega)]; rfl
def mxB (f : Nat → Int32 → Int32) (T : Nat → Int32) (q : Nat) : Nat → Nat → Int32 → Int32
  | 0, _, y => y
  | m + 1, i, y => mxB f T q m (i + 1) (if q.testBit i = true then (if y < f i (T (clr q i)) then f i (T (clr q i)) else y) else y)
def mnB (l : Nat → Int32 → Int32) (T : Nat → Int32) (q : Nat) : Nat → Nat → Int32 → Int32
  | 0, _, y => y
  | m + 1, i, y => mnB l T q m (i + 1) (if q.testBit i = true then lsr y (l i (T (clr q i))) else y)
def IsT (f : Nat → Int32 → Int32) (p : Int32) (s : Nat) (T : Nat → Int32) : Prop := T 0 = p ∧ ∀ q, 1 ≤ q → q ≤ s → Sub q s → T q = mxB f T q 9 0 (-1)
def IsL (l : Nat → Int32 → Int32) (g : Int32) (s : Nat) (T : Nat → Int32) : Prop := T 0 = g ∧ ∀ q, 1 ≤ q → q ≤ s → Sub q s → T q = mnB l T q 9 0 (-1)
theorem mxB_eq {f : Nat → Int32 → Int32} {T T' : Nat → Int32} {q : Nat} (h : ∀ i, i < 9 → q.testBit i = true → T' (clr q i) = T (clr q i)) : ∀ m i y, i + m ≤ 9 → mxB f T' q m i y = mxB f T q m i y
  | 0, _, _, _ => rfl
  | m + 1, i, y, hi => by
    unfold mxB
    by_cases c : q.testBit i = true
    · rw [if_pos c, if_pos c, h i (by omega) c]; exact mxB_eq h m (i + 1) _ (by omega)
    · rw [if_neg c, if_neg c]; exact mxB_eq h m (i + 1) _ (by omega)
theorem mnB_eq {l : Nat → Int32 → Int32} {T T' : Nat → Int32} {q : Nat} (h : ∀ i, i < 9 → q.testBit i = true → T' (clr q i) = T (clr q i)) : ∀ m i y, i + m ≤ 9 → mnB l T' q m i y = mnB l T q m i y
  | 0, _, _, _ => rfl
  | m + 1, i, y, hi => by
    unfold mnB
    by_cases c : q.testBit i = true
    · rw [if_pos c, if_pos c, h i (by omega) c]; exact mnB_eq h m (i + 1) _ (by omega)
    · rw [if_neg c, if_neg c]; exact mnB_eq h m (i + 1) _ (by omega)
theorem mxB_no {f : Nat → Int32 → Int32} {T : Nat → Int32} {q : Nat} : ∀ m i y, (∀ b, i ≤ b → b < i + m → q.testBit b = false) → mxB f T q m i y = y
  | 0, _, _, _ => rfl
  | m + 1, i, y, h => by
    unfold mxB
    rw [if_neg (by rw [h i (Nat.le_refl _) (by omega)]; decide)]
    exact mxB_no m (i + 1) y (fun b b1 b2 => h b (by omega) (by omega))
theorem mxB_cut {f : Nat → Int32 → Int32} {T : Nat → Int32} {q : Nat} (m' : Nat) : ∀ m i y, (∀ b, i + m ≤ b → b < i + m + m' → q.testBit b = false) → mxB f T q (m + m') i y = mxB f T q m i y
  | 0, i, y, h => by rw [Nat.zero_add]; exact mxB_no m' i y (fun b b1 b2 => h b (by omega) (by omega))
  | m + 1, i, y, h => by
    rw [show m + 1 + m' = (m + m') + 1 by omega]
    unfold mxB
    exact mxB_cut m' m (i + 1) _ (fun b b1 b2 => h b (by omega) (by omega))
theorem T_uniq {f : Nat → Int32 → Int32} {p : Int32} {s : Nat} {T T' : Nat → Int32} (hs : s < 512) (h : IsT f p s T) (h' : IsT f p s T') : ∀ n q, q < n → q ≤ s → Sub q s → T' q = T q
  | 0, q, hn, _, _ => absurd hn (Nat.not_lt_zero _)
  | n + 1, q, hn, hq, hsub => by
    by_cases c : q = 0
    · subst c; rw [h.1, h'.1]
    · rw [h.2 q (by omega) hq hsub, h'.2 q (by omega) hq hsub]
      refine mxB_eq (fun i hi hb => ?_) 9 0 _ (by omega)
      have := bt3 q (by omega) i hi hb
      exact T_uniq hs h h' n (clr q i) (by omega) (by omega) (hsub.clr (by omega) hi)
/-! walks in orders -/
def run (f : Nat → Int32 → Int32) : List Nat → Int32 → Int32
  | [], p => p
  | b :: o, p => run f o (f b p)
def Ord : Nat → List Nat → Prop
  | q, [] => q = 0
  | q, b :: o => b < 9 ∧ q.testBit b = true ∧ Ord (clr q b) o
theorem run_app (f : Nat → Int32 → Int32) (b : Nat) : ∀ (o : List Nat) (p : Int32), run f (o ++ [b]) p = f b (run f o p)
  | [], _ => rfl
  | c :: o, p => run_app f b o (f c p)
theorem clr_comm {q b c : Nat} (hq : q < 512) (hb : b < 9) (hc : c < 9) (h1 : q.testBit b = true) (h2 : q.testBit c = true) (hne : b ≠ c) : clr (clr q b) c = clr (clr q c) b := by
  have t1 : (clr q b).testBit c = true := by rw [bt4 q hq b hb c hc, h2]; simp; exact fun h => hne h.symm
  have t2 : (clr q c).testBit b = true := by rw [bt4 q hq c hc b hb, h1]; simp; exact hne
  unfold clr at t1 t2 ⊢
  rw [if_pos h1] at t1 ⊢
  rw [if_pos h2] at t2 ⊢
  rw [if_pos t1, if_pos t2]
  omega
theorem ord_app {b : Nat} : ∀ (o : List Nat) (q : Nat), q < 512 → b < 9 → (Ord q (o ++ [b]) ↔ q.testBit b = true ∧ Ord (clr q b) o)
  | [], q, hq, hb => by
    show (b < 9 ∧ q.testBit b = true ∧ clr q b = 0) ↔ _
    exact ⟨fun h => ⟨h.2.1, h.2.2⟩, fun h => ⟨hb, h.1, h.2⟩⟩
  | c :: o, q, hq, hb => by
    have ih := ord_app o (clr q c) (Nat.lt_of_le_of_lt (clr_le q c) hq) hb
    show (c < 9 ∧ q.testBit c = true ∧ Ord (clr q c) (o ++ [b])) ↔ q.testBit b = true ∧ (c < 9 ∧ (clr q b).testBit c = true ∧ Ord (clr (clr q b) c) o)
    rw [ih]
    constructor
    · intro ⟨c9, hc, hb1, ho⟩
      rw [bt4 q hq c c9 b hb] at hb1
      have hb2 : q.testBit b = true := by revert hb1; cases q.testBit b <;> simp
      have hne : b ≠ c := by
        intro e; subst e; simp at hb1
      refine ⟨hb2, c9, ?_, ?_⟩
      · rw [bt4 q hq b hb c c9, hc]; simp; exact fun h => hne h.symm
      · rw [clr_comm hq hb c9 hb2 hc hne]; exact ho
    · intro ⟨hb2, c9, hc1, ho⟩
      rw [bt4 q hq b hb c c9] at hc1
      have hc : q.testBit c = true := by revert hc1; cases q.testBit c <;> simp
      have hne : b ≠ c := by
        intro e; subst e; simp at hc1
      refine ⟨c9, hc, ?_, ?_⟩
      · rw [bt4 q hq c c9 b hb, hb2]; simp; exact hne
      · rw [← clr_comm hq hb c9 hb2 hc hne]; exact ho
theorem ord_last : ∀ (o : List Nat) (q : Nat), q < 512 → q ≠ 0 → Ord q o → ∃ o' b, b < 9 ∧ o = o' ++ [b] ∧ q.testBit b = true ∧ Ord (clr q b) o' := by
  intro o q hq hne ho
  rcases List.eq_nil_or_concat o with h | ⟨o', b, h⟩
  · subst h; exact absurd ho hne
  · have h : o = o' ++ [b] := by simpa using h
    subst h
    have hb : b < 9 := by
      have : ∀ (o : List Nat) (q : Nat), Ord q (o ++ [b]) → b < 9 := by
        intro o
        induction o with
        | nil => intro q h; exact h.1
        | cons c o ih => intro q h; exact ih _ h.2.2
      exact this o' q ho
    exact ⟨o', b, hb, rfl, (ord_app o' q hq hb).1 ho⟩
theorem mxB_Rg {f : Nat → Int32 → Int32} {T : Nat → Int32} {q : Nat} (hf : ∀ b x, Rg (f b x)) : ∀ m i y, Rg y → Rg (mxB f T q m i y)
  | 0, _, _, h => h
  | m + 1, i, y, h => by
    refine mxB_Rg hf m (i + 1) _ ?_
    by_cases c : q.testBit i = true
    · rw [if_pos c]
      by_cases d : y < f i (T (clr q i))
      · rw [if_pos d]; exact hf _ _
      · rw [if_neg d]; exact h
    · rw [if_neg c]; exact h
theorem mxB_ge {f : Nat → Int32 → Int32} {T : Nat → Int32} {q : Nat} : ∀ m i y, y.toInt ≤ (mxB f T q m i y).toInt ∧ ∀ b, i ≤ b → b < i + m → q.testBit b = true → (f b (T (clr q b))).toInt ≤ (mxB f T q m i y).toInt
  | 0, i, y => ⟨Int.le_refl _, fun b h1 h2 => by omega⟩
  | m + 1, i, y => by
    have ih := mxB_ge (f := f) (T := T) (q := q) m (i + 1) (if q.testBit i = true then (if y < f i (T (clr q i)) then f i (T (clr q i)) else y) else y)
    unfold mxB
    by_cases c : q.testBit i = true
    · rw [if_pos c] at ih ⊢
      have e := mx_I y (f i (T (clr q i)))
      refine ⟨?_, fun b h1 h2 h3 => ?_⟩
      · have := ih.1
        rw [e] at this
        by_cases d : y.toInt < (f i (T (clr q i))).toInt
        · rw [if_pos d] at this; omega
        · rw [if_neg d] at this; exact this
      · by_cases hb : b = i
        · subst hb
          have := ih.1
          rw [e] at this
          by_cases d : y.toInt < (f b (T (clr q b))).toInt
          · rw [if_pos d] at this; exact this
          · rw [if_neg d] at this; omega
        · exact ih.2 b (by omega) (by omega) h3
    · rw [if_neg c] at ih ⊢
      refine ⟨ih.1, fun b h1 h2 h3 => ?_⟩
      have hb : b ≠ i := fun e => c (e ▸ h3)
      exact ih.2 b (by omega) (by omega) h3
theorem mxB_mem {f : Nat → Int32 → Int32} {T : Nat → Int32} {q : Nat} : ∀ m i y, mxB f T q m i y = y ∨ ∃ b, i ≤ b ∧ b < i + m ∧ q.testBit b = true ∧ mxB f T q m i y = f b (T (clr q b))
  | 0, _, _ => Or.inl rfl
  | m + 1, i, y => by
    have ih := mxB_mem (f := f) (T := T) (q := q) m (i + 1) (if q.testBit i = true then (if y < f i (T (clr q i)) then f i (T (clr q i)) else y) else y)
    unfold mxB
    rcases ih with h | ⟨b, h1, h2, h3, h4⟩
    · rw [h]
      by_cases c : q.testBit i = true
      · rw [if_pos c]
        by_cases d : y < f i (T (clr q i))
        · rw [if_pos d]; exact Or.inr ⟨i, Nat.le_refl _, by omega, c, rfl⟩
        · rw [if_neg d]; exact Or.inl rfl
      · rw [if_neg c]; exact Or.inl rfl
    · exact Or.inr ⟨b, by omega, by omega, h3, h4⟩
/-- the bridges' crossings, beside one another -/
def GalN (f l : Nat → Int32 → Int32) (N : Nat) : Prop := ∀ b, b < N → Gal (f b) (l b)
theorem best_1 {f l : Nat → Int32 → Int32} {N s : Nat} {p : Int32} {T : Nat → Int32} (G : GalN f l N) (hs : s < 2 ^ N) (hN : N ≤ 9) (hp : Pu p) (h : IsT f p s T) : ∀ n q, q < n → q ≤ s → Sub q s → Rg (T q) ∧ (∀ o, Ord q o → (run f o p).toInt ≤ (T q).toInt ∧ Rg (run f o p)) ∧ ((T q).toInt < 0 ∨ ∃ o, Ord q o ∧ run f o p = T q)
  | 0, q, hn, _, _ => absurd hn (Nat.not_lt_zero _)
  | n + 1, q, hn, hq, hsub => by
    have p9 := pow9 N hN
    by_cases c : q = 0
    · subst c
      rw [h.1]
      refine ⟨hp.rg, fun o ho => ?_, Or.inr ⟨[], rfl, rfl⟩⟩
      cases o with
      | nil => exact ⟨Int.le_refl _, hp.rg⟩
      | cons b o => have := ho.2.1; rw [Nat.zero_testBit] at this; exact absurd this (by decide)
    · have e := h.2 q (by omega) hq hsub
      have bN : ∀ b, b < 9 → q.testBit b = true → b < N := fun b hb h1 => by
        by_cases d : b < N
        · exact d
        · rw [tb_N (N := N) (q := q) (by omega) (by omega)] at h1; exact absurd h1 (by decide)
      have ih : ∀ b, b < 9 → q.testBit b = true → _ := fun b hb h1 => best_1 G hs hN hp h n (clr q b) (by have := bt3 q (by omega) b hb h1; omega) (by have := clr_le q b; omega) (hsub.clr (by omega) hb)
      have ge := mxB_ge (f := f) (T := T) (q := q) 9 0 (-1)
      rw [← e] at ge
      have rg : Rg (T q) := by
        rcases mxB_mem (f := f) (T := T) (q := q) 9 0 (-1) with h1 | ⟨b, -, b2, b3, b4⟩
        · rw [e, h1]; exact Rg.m1
        · rw [e, b4]; exact (G b (bN b (by omega) b3)).1 _
      refine ⟨rg, fun o ho => ?_, ?_⟩
      · obtain ⟨o', b, hb, ho1, ho2, ho3⟩ := ord_last o q (by omega) c ho
        obtain ⟨i1, i2, -⟩ := ih b hb ho2
        obtain ⟨j1, j2⟩ := i2 o' ho3
        have Gb := G b (bN b hb ho2)
        rw [ho1, run_app]
        exact ⟨Int.le_trans (gal_mono Gb j2 i1 j1) (ge.2 b (Nat.zero_le _) (by omega) ho2), Gb.1 _⟩
      · rcases mxB_mem (f := f) (T := T) (q := q) 9 0 (-1) with h1 | ⟨b, -, b2, b3, b4⟩
        · left; rw [e, h1]; decide
        · by_cases d : (T q).toInt < 0
          · exact Or.inl d
          · right
            have Gb := G b (bN b (by omega) b3)
            obtain ⟨-, -, i3⟩ := ih b (by omega) b3
            rcases i3 with i3 | ⟨o, o1, o2⟩
            · have := Gb.2.2.1 _ i3
              rw [e, b4] at d; omega
            · exact ⟨o ++ [b], (ord_app o q (by omega) (by omega)).2 ⟨b3, o1⟩, by rw [run_app, o2, e, b4]⟩
theorem run_neg {f l : Nat → Int32 → Int32} {N : Nat} (G : GalN f l N) : ∀ (o : List Nat) (p : Int32), (∀ b, b ∈ o → b < N) → p.toInt < 0 → (run f o p).toInt < 0
  | [], _, _, h => h
  | b :: o, p, hb, h => run_neg G o (f b p) (fun c hc => hb c (List.mem_cons_of_mem _ hc)) ((G b (hb b (List.mem_cons_self))).2.2.1 p h)
theorem ord_N {N : Nat} : ∀ (o : List Nat) (q : Nat), q < 2 ^ N → q < 512 → Ord q o → ∀ b, b ∈ o → b < N
  | [], _, _, _, _, b, hb => by cases hb
  | c :: o, q, hq, h5, ho, b, hb => by
    have hle := clr_le q c
    rcases List.mem_cons.1 hb with h | h
    · subst h
      by_cases d : b < N
      · exact d
      · have := ho.2.1
        rw [tb_N hq (by omega)] at this; exact absurd this (by decide)
    · exact ord_N o (clr q c) (by omega) (by omega) ho.2.2 b h
theorem mnB_gal {l : Nat → Int32 → Int32} {T : Nat → Int32} {q : Nat} {p : Int32} (P : Nat → Prop) (hl : ∀ b, b < 9 → q.testBit b = true → Rg (l b (T (clr q b)))) (hP : ∀ b, b < 9 → q.testBit b = true → (P b ↔ 0 ≤ (l b (T (clr q b))).toInt ∧ (l b (T (clr q b))).toInt ≤ p.toInt)) (hp : Pu p) : ∀ m i y, i + m ≤ 9 → Rg y → Rg (mnB l T q m i y) ∧ ((0 ≤ (mnB l T q m i y).toInt ∧ (mnB l T q m i y).toInt ≤ p.toInt) ↔ (0 ≤ y.toInt ∧ y.toInt ≤ p.toInt) ∨ ∃ b, i ≤ b ∧ b < i + m ∧ q.testBit b = true ∧ P b)
  | 0, i, y, _, hy => ⟨hy, ⟨fun h => Or.inl h, fun h => h.elim id (fun ⟨b, h1, h2, _⟩ => by omega)⟩⟩
  | m + 1, i, y, hi, hy => by
    unfold mnB
    by_cases c : q.testBit i = true
    · rw [if_pos c]
      have r1 := hl i (by omega) c
      have e := lsr_I y (l i (T (clr q i)))
      have r2 : Rg (lsr y (l i (T (clr q i)))) := by
        unfold Rg at *
        rw [e]
        by_cases d : y.toInt < 0 ∨ (l i (T (clr q i))).toInt < 0
        · rw [if_pos d]
          by_cases d2 : y.toInt < (l i (T (clr q i))).toInt
          · rw [if_pos d2]; exact r1
          · rw [if_neg d2]; exact hy
        · rw [if_neg d]
          by_cases d2 : (l i (T (clr q i))).toInt < y.toInt
          · rw [if_pos d2]; exact r1
          · rw [if_neg d2]; exact hy
      have ih := mnB_gal P hl hP hp m (i + 1) (lsr y (l i (T (clr q i)))) (by omega) r2
      refine ⟨ih.1, ih.2.trans ?_⟩
      have hPi := hP i (by omega) c
      have key : (0 ≤ (lsr y (l i (T (clr q i)))).toInt ∧ (lsr y (l i (T (clr q i)))).toInt ≤ p.toInt) ↔ (0 ≤ y.toInt ∧ y.toInt ≤ p.toInt) ∨ P i := by
        rw [hPi, e]
        unfold Rg at *
        by_cases d : y.toInt < 0 ∨ (l i (T (clr q i))).toInt < 0
        · rw [if_pos d]
          by_cases d2 : y.toInt < (l i (T (clr q i))).toInt
          · rw [if_pos d2]; omega
          · rw [if_neg d2]; omega
        · rw [if_neg d]
          by_cases d2 : (l i (T (clr q i))).toInt < y.toInt
          · rw [if_pos d2]; omega
          · rw [if_neg d2]; omega
      rw [key]
      constructor
      · intro h
        rcases h with (h | h) | ⟨b, h1, h2, h3⟩
        · exact Or.inl h
        · exact Or.inr ⟨i, Nat.le_refl _, by omega, c, h⟩
        · exact Or.inr ⟨b, by omega, by omega, h3⟩
      · intro h
        rcases h with h | ⟨b, h1, h2, h3, h4⟩
        · exact Or.inl (Or.inl h)
        · by_cases hb : b = i
          · subst hb; exact Or.inl (Or.inr h4)
          · exact Or.inr ⟨b, by omega, by omega, h3, h4⟩
    · rw [if_neg c]
      have ih := mnB_gal P hl hP hp m (i + 1) y (by omega) hy
      refine ⟨ih.1, ih.2.trans ?_⟩
      constructor
      · intro h
        rcases h with h | ⟨b, h1, h2, h3⟩
        · exact Or.inl h
        · exact Or.inr ⟨b, by omega, by omega, h3⟩
      · intro h
        rcases h with h | ⟨b, h1, h2, h3, h4⟩
        · exact Or.inl h
        · have hb : b ≠ i := fun e => c (e ▸ h3)
          exact Or.inr ⟨b, by omega, by omega, h3, h4⟩
theorem least_1 {f l : Nat → Int32 → Int32} {N s : Nat} {g : Int32} {T : Nat → Int32} (G : GalN f l N) (hm : ∀ b, l b (-1) = -1) (hs : s < 2 ^ N) (hN : N ≤ 9) (hg : Pu g) (h : IsL l g s T) : ∀ n q, q < n → q ≤ s → Sub q s → Rg (T q) ∧ ∀ p, Pu p → ((0 ≤ (T q).toInt ∧ (T q).toInt ≤ p.toInt) ↔ ∃ o, Ord q o ∧ g.toInt ≤ (run f o p).toInt)
  | 0, q, hn, _, _ => absurd hn (Nat.not_lt_zero _)
  | n + 1, q, hn, hq, hsub => by
    have p9 := pow9 N hN
    by_cases c : q = 0
    · subst c
      rw [h.1]
      refine ⟨hg.rg, fun p hp => ⟨fun hh => ⟨[], rfl, hh.2⟩, fun ⟨o, ho, h1⟩ => ?_⟩⟩
      cases o with
      | nil => exact ⟨hg.1, h1⟩
      | cons b o => have := ho.2.1; rw [Nat.zero_testBit] at this; exact absurd this (by decide)
    · have e := h.2 q (by omega) hq hsub
      have bN : ∀ b, b < 9 → q.testBit b = true → b < N := fun b hb h1 => by
        by_cases d : b < N
        · exact d
        · rw [tb_N (N := N) (q := q) (by omega) (by omega)] at h1; exact absurd h1 (by decide)
      have ih : ∀ b, b < 9 → q.testBit b = true → _ := fun b hb h1 => least_1 G hm hs hN hg h n (clr q b) (by have := bt3 q (by omega) b hb h1; omega) (by have := clr_le q b; omega) (hsub.clr (by omega) hb)
      have rl : ∀ b, b < 9 → q.testBit b = true → Rg (l b (T (clr q b))) := fun b hb h1 => (G b (bN b hb h1)).2.1 _
      refine ⟨?_, fun p hp => ?_⟩
      · have z : Pu 0 := ⟨by decide, by decide⟩
        have := (mnB_gal (l := l) (T := T) (q := q) (p := 0) (fun b => 0 ≤ (l b (T (clr q b))).toInt ∧ (l b (T (clr q b))).toInt ≤ (0 : Int32).toInt) rl (fun _ _ _ => Iff.rfl) z 9 0 (-1) (by omega) Rg.m1).1
        rw [e]; exact this
      · have mg := (mnB_gal (l := l) (T := T) (q := q) (p := p) (fun b => ∃ o, Ord (clr q b) o ∧ g.toInt ≤ (run f o (f b p)).toInt) rl (fun b hb h1 => by
          obtain ⟨i1, i2⟩ := ih b hb h1
          have Gb := G b (bN b hb h1)
          have fp := Gb.1 p
          by_cases t0 : (T (clr q b)).toInt < 0
          · have tm : T (clr q b) = -1 := i1.neg (by rw [lt0]; exact t0)
            rw [tm, hm b]
            constructor
            · intro ⟨o, o1, o2⟩
              exfalso
              by_cases d : (f b p).toInt < 0
              · have := run_neg G o (f b p) (ord_N o (clr q b) (by have := clr_le q b; omega) (by have := clr_le q b; omega) o1) d
                have := hg.1; omega
              · have := (i2 (f b p) ⟨by omega, fp.2⟩).2 ⟨o, o1, o2⟩
                omega
            · intro h; have := h.1; change (0 : Int) ≤ -1 at this; omega
          · have gg := Gb.2.2.2 p (T (clr q b)) hp ⟨by omega, i1.2⟩
            rw [← gg]
            by_cases d : (f b p).toInt < 0
            · constructor
              · intro ⟨o, o1, o2⟩
                exfalso
                have := run_neg G o (f b p) (ord_N o (clr q b) (by have := clr_le q b; omega) (by have := clr_le q b; omega) o1) d
                have := hg.1; omega
              · intro h; omega
            · rw [← i2 (f b p) ⟨by omega, fp.2⟩]
              constructor
              · intro h; exact h.2
              · intro h; exact ⟨by omega, h⟩) hp 9 0 (-1) (by omega) Rg.m1).2
        rw [e]
        rw [mg]
        constructor
        · intro h
          rcases h with h | ⟨b, b1, b2, b3, o, o1, o2⟩
          · have := h.1; change (0 : Int) ≤ -1 at this; omega
          · exact ⟨b :: o, ⟨by omega, b3, o1⟩, o2⟩
        · intro ⟨o, o1, o2⟩
          cases o with
          | nil => exact absurd o1 c
          | cons b o => exact Or.inr ⟨b, Nat.zero_le _, by have := o1.1; omega, o1.2.1, o, o1.2.2, o2⟩
