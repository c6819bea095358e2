/-! ===== ticks ===== -/
section TICKS
variable {B : Int} {h : jm_H} {nm : Nat} {D : Nat → MD}
theorem s_timer (P : PL h nm D) {x y z : Int} (x1 : -2147483648 ≤ x) (x2 : x ≤ 2147483647) (y1 : -2147483648 ≤ y) (y2 : y ≤ 2147483647) (z1 : -2147483648 ≤ z) (z2 : z ≤ 2147483647) : ∃ t : Int, (t = 0 ∨ t = 1 ∨ t = 2) ∧ (t = 0 ↔ (0 ≤ x ∧ x < nm) ∧ (0 ≤ y ∧ y ≤ 100000) ∧ (1 ≤ z ∧ z ≤ 100000)) ∧ m_FR_timerRefusal (zI x) (zI y) (zI z) h (zI t) h ∧ ∀ h', PL h' nm D → m_M_timerWhy (zI x) (zI y) (zI z) h' (zI t) h' := by
  have i1 : ∀ {p : Prop} [Decidable p], p → ¬ zI (if p then 1 else 0) = 0 := fun {p _} hp => by rw [if_pos hp]; decide
  have i0 : ∀ {p : Prop} [Decidable p], ¬ p → zI (if p then 1 else 0) = 0 := fun {p _} hp => by rw [if_neg hp]; rfl
  have inY : ∀ h' : jm_H, m_M_in (zI y) 0 100000 h' (zI (if (0 : Int) ≤ y ∧ y ≤ 100000 then 1 else 0)) h' := fun h' => s_in (h := h') y1 y2 (a := 0) (b := 100000) (by omega) (by omega) (by omega) (by omega)
  have inZ : ∀ h' : jm_H, m_M_in (zI z) 1 100000 h' (zI (if (1 : Int) ≤ z ∧ z ≤ 100000 then 1 else 0)) h' := fun h' => s_in (h := h') z1 z2 (a := 1) (b := 100000) (by omega) (by omega) (by omega) (by omega)
  by_cases hm : 0 ≤ x ∧ x < nm
  · by_cases hy : 0 ≤ y ∧ y ≤ 100000
    · have ny1 : ¬ zI y < 0 := by rw [zl_0, zI_lt (by omega) (by omega) (by omega) (by omega)]; omega
      have ny2 : ¬ (100000 : Int32) < zI y := by rw [zl_100000, zI_lt (by omega) (by omega) (by omega) (by omega)]; omega
      by_cases hz : 1 ≤ z ∧ z ≤ 100000
      · have nz1' : ¬ zI z < 1 := by rw [zl_1, zI_lt (by omega) (by omega) (by omega) (by omega)]; omega
        have nz2' : ¬ (100000 : Int32) < zI z := by rw [zl_100000, zI_lt (by omega) (by omega) (by omega) (by omega)]; omega
        exact ⟨0, Or.inl rfl, ⟨fun _ => ⟨hm, hy, hz⟩, fun _ => rfl⟩, wp_FR_timerRefusal ⟨_, h, s_isModeF P x1 x2, fun hc => absurd hc (i1 hm), fun _ => ⟨fun hc => absurd hc ny1, fun _ => ⟨fun hc => absurd hc ny2, fun _ => ⟨fun hc => absurd hc nz1', fun _ => ⟨fun hc => absurd hc nz2', fun _ => rfl⟩⟩⟩⟩⟩, fun h' P' => wp_M_timerWhy ⟨_, h', s_isModeM P' x1 x2, fun hc => absurd hc (i1 hm), fun _ => ⟨_, h', inY h', fun hc => absurd hc (i1 hy), fun _ => ⟨_, h', inZ h', fun hc => absurd hc (i1 hz), fun _ => rfl⟩⟩⟩⟩
      · refine ⟨2, Or.inr (Or.inr rfl), ⟨fun e => by omega, fun e => absurd e.2.2 hz⟩, wp_FR_timerRefusal ⟨_, h, s_isModeF P x1 x2, fun hc => absurd hc (i1 hm), fun _ => ⟨fun hc => absurd hc ny1, fun _ => ⟨fun hc => absurd hc ny2, fun _ => ⟨fun _ => rfl, fun hc => ⟨fun _ => rfl, fun hc2 => ?_⟩⟩⟩⟩⟩, fun h' P' => wp_M_timerWhy ⟨_, h', s_isModeM P' x1 x2, fun hc => absurd hc (i1 hm), fun _ => ⟨_, h', inY h', fun hc => absurd hc (i1 hy), fun _ => ⟨_, h', inZ h', fun _ => rfl, fun hc => absurd (i0 hz) hc⟩⟩⟩⟩
        rw [zl_1, zI_lt (by omega) (by omega) (by omega) (by omega)] at hc
        rw [zl_100000, zI_lt (by omega) (by omega) (by omega) (by omega)] at hc2
        omega
    · refine ⟨2, Or.inr (Or.inr rfl), ⟨fun e => by omega, fun e => absurd e.2.1 hy⟩, wp_FR_timerRefusal ⟨_, h, s_isModeF P x1 x2, fun hc => absurd hc (i1 hm), fun _ => ⟨fun _ => rfl, fun hc => ⟨fun _ => rfl, fun hc2 => ?_⟩⟩⟩, fun h' P' => wp_M_timerWhy ⟨_, h', s_isModeM P' x1 x2, fun hc => absurd hc (i1 hm), fun _ => ⟨_, h', inY h', fun _ => rfl, fun hc => absurd (i0 hy) hc⟩⟩⟩
      rw [zl_0, zI_lt (by omega) (by omega) (by omega) (by omega)] at hc
      rw [zl_100000, zI_lt (by omega) (by omega) (by omega) (by omega)] at hc2
      omega
  · exact ⟨1, Or.inr (Or.inl rfl), ⟨fun e => by omega, fun e => absurd e.1 hm⟩, wp_FR_timerRefusal ⟨_, h, s_isModeF P x1 x2, fun _ => rfl, fun hc => absurd (i0 hm) hc⟩, fun h' P' => wp_M_timerWhy ⟨_, h', s_isModeM P' x1 x2, fun _ => rfl, fun hc => absurd (i0 hm) hc⟩⟩
/-- the tick of the class is the reference's -/
theorem s_tick {z : Int} (z1 : 1 ≤ z) (z2 : z ≤ 100000) (g : jm_H) : m_Timer_tick (zI z) g (FP.ddiv 4652007308841189376 (FP.i2d (zI z))) g := by
  have e : (if (1 : Int32) < zI z then zI z else 1) = zI z := by
    by_cases hc : (1 : Int32) < zI z
    · rw [if_pos hc]
    · rw [if_neg hc]
      rw [zl_1, zI_lt (by omega) (by omega) (by omega) (by omega)] at hc
      rw [zl_1, show z = 1 by omega]
  refine wp_Timer_tick ?_
  rw [e]
  exact ⟨np_nn (np_tick z1 z2), rfl⟩
theorem c_ticks : ∀ B, HT B := by
  intro B h a b c I
  obtain ⟨nm, D, P, C, T, Q⟩ := I
  obtain ⟨x, rfl, x1, x2⟩ := i32x a
  obtain ⟨y, rfl, y1, y2⟩ := i32x b
  obtain ⟨z, rfl, z1, z2⟩ := i32x c
  obtain ⟨t, t1, t2, t3, t4⟩ := s_timer P x1 x2 y1 y2 z1 z2
  by_cases t0 : t = 0
  · obtain ⟨hm, hy, hz⟩ := t2.mp t0
    subst t0
    obtain ⟨m, hmn, rfl⟩ := mode_of hm
    have em : (zI (m : Int)).toNatClampNeg = m := zI_cn (by have := P.1; omega)
    have q1 := (P.2.2.2.2 m hmn).1.1
    have E1 := EF.of (Ch.rf h) 0
    have P1 := P.F E1.1
    have Ea := EM.an P1
    have Pa := P1.M Ea.1
    have f1 := (P.2.2.2.2 m hmn).2.1.1
    have f2 := (Pa.2.2.2.2 m hmn).2.2.1.1
    have tk := np_tick hz.1 hz.2
    have nn := nn_of (FP.Core.ddiv_out (FP.Core.i2d_fin (zI y * zI (md_fr (D m)))).notNaN (np_fin tk).1 (np_fin tk).2)
    refine ⟨_, _, _, wp_FR_ticks ⟨_, h, t3, fun _ => ⟨in3 P hmn, _, _, s_tick hz.1 hz.2 _, ?_, rfl⟩, fun hc => absurd rfl hc⟩, wp_M_ticks ⟨_, s_an, _, _, t4 _ Pa, fun _ => ⟨in6 P hmn, np_nn tk, ?_, ?_⟩, fun hc => absurd rfl hc⟩, INV.mk1 P C T Q E1.1 Ea.1 E1.2 Ea.2 (by decide)⟩
    · rw [em, f1]; exact nn
    · rw [em, f2]; exact nn
    · rw [em, f1, f2]
  · exact ⟨_, _, _, wp_FR_ticks ⟨_, h, t3, fun hc => absurd hc (znz t1 t0), fun _ => ⟨_, _, wp_FR_refused rfl, rfl⟩⟩, wp_M_ticks ⟨_, s_an, _, _, t4 _ (PLa P (zI t)), fun hc => absurd hc (znz t1 t0), fun _ => ⟨_, _, wp_M_no rfl, rfl⟩⟩, ref_inv P C T Q (zt4 t1)⟩
end TICKS
