/-! ===== astray, given what leftOver answers ===== -/
section ASTRAY
def LOK : Prop := ∀ (n z : Int), 0 ≤ n → n ≤ 6000000 → 1 ≤ z → z ≤ 100000 → (∀ g : jm_H, m_Timer_leftOver (FP.i2d (zI n)) (FP.ddiv 4652007308841189376 (FP.i2d (zI z))) g (FP.drem (FP.i2d (zI n)) (FP.ddiv 4652007308841189376 (FP.i2d (zI z)))) g) ∧ (FP.drem (FP.i2d (zI n)) (FP.ddiv 4652007308841189376 (FP.i2d (zI z))) = 0 ∨ ∃ c q, VN (FP.drem (FP.i2d (zI n)) (FP.ddiv 4652007308841189376 (FP.i2d (zI z)))) c q ∧ -170 ≤ q ∧ q ≤ 50)
theorem c_astray0 (LO : LOK) : ∀ B, HA B := by
  intro B h a b c I
  obtain ⟨nm, D, P, C, T, Q⟩ := I
  obtain ⟨x, rfl, x1, x2⟩ := i32x a
  obtain ⟨y, rfl, y1, y2⟩ := i32x b
  obtain ⟨z, rfl, z1, z2⟩ := i32x c
  obtain ⟨t, t1, t2, t3, t4⟩ := s_timer P x1 x2 y1 y2 z1 z2
  by_cases t0 : t = 0
  · obtain ⟨hm, hy, hz⟩ := t2.mp t0
    subst t0
    obtain ⟨m, hmn, rfl⟩ := mode_of hm
    have em : (zI (m : Int)).toNatClampNeg = m := zI_cn (by have := P.1; omega)
    have q1 := (P.2.2.2.2 m hmn).1.1
    have E1 := EF.of (Ch.rf h) 0
    have P1 := P.F E1.1
    have Ea := EM.an P1
    have Pa := P1.M Ea.1
    have f1 := (P.2.2.2.2 m hmn).2.1.1
    have f2 := (Pa.2.2.2.2 m hmn).2.2.1.1
    have n1 : 0 ≤ y * md_fr (D m) := Int.mul_nonneg hy.1 (by omega)
    have n2 : y * md_fr (D m) ≤ 6000000 := by
      have : y * md_fr (D m) ≤ 100000 * 60 := Int.mul_le_mul hy.2 q1.2 (by omega) (by omega)
      omega
    have tk := np_tick hz.1 hz.2
    obtain ⟨lo, ld⟩ := LO (y * md_fr (D m)) z n1 n2 hz.1 hz.2
    obtain ⟨g1, g2, g3, g4⟩ := fl_all ld
    obtain ⟨v4, g5, g6⟩ := g3 h
    have nn := nn_of (FP.Core.drem_out (FP.Core.i2d_fin (zI (y * md_fr (D m)))) (np_fin tk).1.notNaN (np_fin tk).2)
    have hF : m_FR_astray (zI m) (zI y) (zI z) h (FP.d2f (FP.drem (FP.i2d (zI (y * md_fr (D m)))) (FP.ddiv 4652007308841189376 (FP.i2d (zI z))))).toInt32 (jm_sI h 7 0 8 0) := by
      refine wp_FR_astray ⟨_, h, t3, fun _ => ⟨in3 P hmn, _, _, s_tick hz.1 hz.2 _, ?_⟩, fun hc => absurd rfl hc⟩
      rw [em, f1, zI_mul]
      exact ⟨_, _, lo h, g1, g2, v4, h, g5, _, _, wp_FR_answered rfl, by rw [g6]⟩
    have hM : m_M_astray (zI m) (zI y) (zI z) (jm_sI h 7 0 8 0) (FP.d2f (FP.drem (FP.i2d (zI (y * md_fr (D m)))) (FP.ddiv 4652007308841189376 (FP.i2d (zI z))))).toInt32 (hAn (jm_sI h 7 0 8 0)) := by
      refine wp_M_astray ⟨_, s_an, _, _, t4 _ Pa, fun _ => ⟨in6 P hmn, np_nn tk, ?_⟩, fun hc => absurd rfl hc⟩
      rw [em, f2, zI_mul]
      exact ⟨nn, g1, _, _, g4 _, rfl⟩
    exact ⟨_, _, _, hF, hM, INV.mk1 P C T Q E1.1 Ea.1 E1.2 Ea.2 (by decide)⟩
  · exact ⟨_, _, _, wp_FR_astray ⟨_, h, t3, fun hc => absurd hc (znz t1 t0), fun _ => ⟨_, _, wp_FR_refused rfl, rfl⟩⟩, wp_M_astray ⟨_, s_an, _, _, t4 _ (PLa P (zI t)), fun hc => absurd hc (znz t1 t0), fun _ => ⟨_, _, wp_M_no rfl, rfl⟩⟩, ref_inv P C T Q (zt4 t1)⟩
end ASTRAY
