/-! ===== pure mathematics 48: the class's first state ===== -/
theorem c_first {t : xT} {a : Nat} (h1 : t.1 = a + 1) (hk : tK t a = 11) (hz : ∀ j, tI t a j = 0) : ∃ t', F_X11_init t a = some t' ∧ t'.1 = a + 43 ∧ Fst t' a := by
  let P : Option xT → Prop := fun o => ∃ t', o = some t' ∧ t'.1 = a + 43 ∧ Fst t' a
  show P (F_X11_init t a)
  unfold F_X11_init
  refine gRoad P 0 (by omega) hk _ (fun u1 g1 r1 => ?_)
  have e1 : u1.1 = a + 17 := by have := g1.1; omega
  rw [h1] at r1
  refine gRoad P 1 (by omega) (g1.2.2.1.trans hk) _ (fun v2 f2 q2 => ?_)
  have g2 := f2.si 2
  have r2 : RoF (tSI v2 a 2 0) u1.1 := q2.sm (fun q _ _ => Sm.SI 2 0 (by omega))
  refine setG P a 2 0 _ ?_
  generalize tSI v2 a 2 0 = u2 at g2 r2 ⊢
  rw [e1] at r2
  have e2 : u2.1 = a + 33 := by have := g2.1; omega
  have k2 : tK u2 a = 11 := g2.2.2.1.trans (g1.2.2.1.trans hk)
  refine gArr P 20 200 3 (by omega) k2 _ (fun v3 f3 o3 _ => ?_)
  have g3 := f3.si 4
  have r3 := Ob.si (r := a) (j := 4) (v := 0) o3 (by omega)
  refine setG P a 4 0 _ ?_
  generalize tSI v3 a 4 0 = u3 at g3 r3 ⊢
  rw [e2] at r3
  have e3 : u3.1 = a + 34 := by have := g3.1; omega
  have k3 : tK u3 a = 11 := g3.2.2.1.trans k2
  refine gArr P 20 60 5 (by omega) k3 _ (fun v4 f4 o4 _ => ?_)
  have g4 := f4.si 6
  have r4 := Ob.si (r := a) (j := 6) (v := 0) o4 (by omega)
  refine setG P a 6 0 _ ?_
  generalize tSI v4 a 6 0 = u4 at g4 r4 ⊢
  rw [e3] at r4
  have e4 : u4.1 = a + 35 := by have := g4.1; omega
  have k4 : tK u4 a = 11 := g4.2.2.1.trans k3
  refine gArr P 23 4 7 (by omega) k4 _ (fun u5 g5 r5 s5 => ?_)
  rw [e4] at r5 s5
  have e5 : u5.1 = a + 36 := by have := g5.1; omega
  have k5 : tK u5 a = 11 := g5.2.2.1.trans k4
  refine gFour P 8 (by omega) k5 _ (fun u6 g6 r6 s6 => ?_)
  rw [e5] at r6 s6
  have e6 : u6.1 = a + 37 := by have := g6.1; omega
  have k6 : tK u6 a = 11 := g6.2.2.1.trans k5
  refine gArr P 23 4 9 (by omega) k6 _ (fun u7 g7 r7 s7 => ?_)
  rw [e6] at r7 s7
  have e7 : u7.1 = a + 38 := by have := g7.1; omega
  have k7 : tK u7 a = 11 := g7.2.2.1.trans k6
  refine gTrace P 10 (by omega) k7 _ (fun u8 g8 r8 s8 o8 => ?_)
  rw [e7] at r8 s8 o8
  have e8 : u8.1 = a + 40 := by have := g8.1; omega
  have k8 : tK u8 a = 11 := g8.2.2.1.trans k7
  refine gArr P 20 512 11 (by omega) k8 _ (fun u9 g9 r9 _ => ?_)
  rw [e8] at r9
  have e9 : u9.1 = a + 41 := by have := g9.1; omega
  have k9 : tK u9 a = 11 := g9.2.2.1.trans k8
  refine gArr P 20 512 12 (by omega) k9 _ (fun u10 g10 r10 _ => ?_)
  rw [e9] at r10
  have e10 : u10.1 = a + 42 := by have := g10.1; omega
  have k10 : tK u10 a = 11 := g10.2.2.1.trans k9
  refine gArr P 20 61 13 (by omega) k10 _ (fun u11 g11 r11 _ => ?_)
  rw [e10] at r11
  have e11 : u11.1 = a + 43 := by have := g11.1; omega
  have k11 : tK u11 a = 11 := g11.2.2.1.trans k10
  have hi : ∀ j, tI u11 a j = 0 := g11.2.2.2.1 (g10.2.2.2.1 (g9.2.2.2.1 (g8.2.2.2.1 (g7.2.2.2.1 (g6.2.2.2.1 (g5.2.2.2.1 (g4.2.2.2.1 (g3.2.2.2.1 (g2.2.2.2.1 (g1.2.2.2.1 hz))))))))))
  have hp := g11.2.2.2.2
  rw [g10.2.2.2.2, g9.2.2.2.2, g8.2.2.2.2, g7.2.2.2.2, g6.2.2.2.2, g5.2.2.2.2, g4.2.2.2.2, g3.2.2.2.2, g2.2.2.2.2, g1.2.2.2.2, e10, e9, e8, e7, e6, e5, e4, e3, e2, e1, h1] at hp
  have x10 : Kx u10 u11 a := g11.kx
  have x9 : Kx u9 u11 a := g10.kx.tr x10
  have x8 : Kx u8 u11 a := g9.kx.tr x9
  have x7 : Kx u7 u11 a := g8.kx.tr x8
  have x6 : Kx u6 u11 a := g7.kx.tr x7
  have x5 : Kx u5 u11 a := g6.kx.tr x6
  have x4 : Kx u4 u11 a := g5.kx.tr x5
  have x3 : Kx u3 u11 a := g4.kx.tr x4
  have x2 : Kx u2 u11 a := g3.kx.tr x3
  have x1 : Kx u1 u11 a := g2.kx.tr x2
  have R1 : RoF u11 (a + 1) := r1.sm (fun q _ _ => x1.2 q (by omega) (by omega))
  have R2 : RoF u11 (a + 17) := r2.sm (fun q _ _ => x2.2 q (by omega) (by omega))
  have S33 := x3.2 (a + 33) (by omega) (by omega)
  have S34 := x4.2 (a + 34) (by omega) (by omega)
  have S35 := x5.2 (a + 35) (by omega) (by omega)
  have S36 := x6.2 (a + 36) (by omega) (by omega)
  have S37 := x7.2 (a + 37) (by omega) (by omega)
  have S38 := x8.2 (a + 38) (by omega) (by omega)
  have S39 := x8.2 (a + 39) (by omega) (by omega)
  have S40 := x9.2 (a + 40) (by omega) (by omega)
  have S41 := x10.2 (a + 41) (by omega) (by omega)
  obtain ⟨d1, p3, i1, z1, l2, l0, lw⟩ := R1
  refine ⟨u11, rfl, e11, ⟨k11, ?_, ?_, ?_, ?_, ?_, ?_, ?_, ?_, ?_, ?_, ?_, d1, R2.1, ⟨S33.1.trans r3.1, S33.2.1.trans r3.2.1⟩, ⟨S34.1.trans r4.1, S34.2.1.trans r4.2.1⟩, ⟨S35.1.trans r5.1, S35.2.1.trans r5.2.1⟩, r6.sm S36, ⟨S37.1.trans r7.1, S37.2.1.trans r7.2.1⟩, ⟨S38.1.trans r8.1, ?_⟩, ⟨S39.1.trans o8.1, S39.2.1.trans o8.2.1⟩, ⟨S40.1.trans r9.1, S40.2.1.trans r9.2.1⟩, ⟨S41.1.trans r10.1, S41.2.1.trans r10.2.1⟩, ⟨r11.1, r11.2.1⟩, by omega⟩, hi 2, hi 4, hi 6, i1, fun x x1' x2' j => ?_, p3, ⟨l2, fun j j1 j2 => ?_, fun j j1 j2 => ?_, by omega, Or.inl rfl⟩, l0, fun j => ?_, fun j => ?_, fun j => ?_, fun j hj => ?_, fun j => ?_, ?_, fun j => ?_⟩
  · rw [hp]; rfl
  · rw [hp]; rfl
  · rw [hp]; rfl
  · rw [hp]; rfl
  · rw [hp]; rfl
  · rw [hp]; rfl
  · rw [hp]; rfl
  · rw [hp]; rfl
  · rw [hp]; rfl
  · rw [hp]; rfl
  · rw [hp]; rfl
  · rw [S38.2.2.2]; exact r8.2
  · have h := z1 (x - 1) (by omega) (by omega) j
    rw [show a + 1 + (x - 1) = a + x by omega] at h
    exact h
  · have h := lw j j1 (by omega)
    rw [if_pos j2] at h
    exact h
  · have h := lw j (by omega) j2
    rw [if_neg (show ¬ j ≤ 5 by omega)] at h
    exact h
  · rw [S33.2.2.1]; exact r3.2.2 j
  · rw [S34.2.2.1]; exact r4.2.2 j
  · rw [S35.2.2.2]; exact s5 j
  · rw [S36.2.2.1]; exact s6 j hj
  · rw [S37.2.2.2]; exact s7 j
  · rw [S38.2.2.1]; exact s8
  · rw [S39.2.2.1]; exact o8.2.2 j
