/-! ===== calls about modes, tasks, jobs ===== -/
theorem i32eq {y : Int} (y1 : -2147483648 ≤ y) (y2 : y ≤ 2147483647) : (zI y).toInt = y := zI_toInt y1 y2
section CALLM
variable {B : Int} {h : jm_H} {nm : Nat} {D : Nat → MD}
/-- what mode answers -/
def moV (d : MD) (y : Int) : Int := if y = 0 then md_fr d else if y = 1 then md_rs d else if y = 2 then md_tk d else if y = 3 then md_rd d else if y = 4 then md_jb d else if y = 5 then mF d else sm (md_jb d) (md_c d)
theorem c_mode (I : INV B h) (a b : Int32) : ∃ v h1 h2, m_FR_mode a b h v h1 ∧ m_M_mode a b h1 v h2 ∧ INV B h2 := by
  obtain ⟨nm, D, P, C, T, Q⟩ := I
  obtain ⟨x, rfl, x1, x2⟩ := i32x a
  obtain ⟨y, rfl, y1, y2⟩ := i32x b
  have ty := i32eq y1 y2
  by_cases hm : 0 ≤ x ∧ x < nm
  · obtain ⟨m, hmn, rfl⟩ := mode_of hm
    obtain ⟨q1, q2, q3, q4, q5, q6⟩ := P.2.2.2.2 m hmn
    have m3 := P.m3 hmn
    have w1 := q1.1
    have w3 := q1.2.2.1
    have bd := md_bd q1 (g := md_fr (D m)) (by omega) (by omega)
    have hF := s_isModeF P x1 x2
    by_cases hy : 0 ≤ y ∧ y ≤ 6
    · have Pa := PLb P (Ch.rf h) 0
      have hMo := s_isModeM Pa x1 x2
      have va := (Pa.2.2.2.2 m hmn).2.2.1
      have em : (zI (m : Int)).toNatClampNeg = m := zI_cn (by omega)
      refine ⟨zI (moV (D m) y), jm_sI h 7 0 8 0, hAn (jm_sI h 7 0 8 0), wp_FR_mode ⟨_, h, hF, fun hc => absurd hc (nz1 hm), fun _ => ⟨fun hc => ?_, fun _ => ⟨fun _ => ⟨in3 P hmn, fun hc => ⟨_, _, wp_FR_answered rfl, ?_⟩, fun hc => ⟨_, _, wp_FR_answered rfl, ?_⟩, fun hc => ⟨_, _, wp_FR_answered rfl, ?_⟩, fun hc => ⟨_, h, by rw [qm P hmn]; exact s_round q2 q1, _, _, wp_FR_answered rfl, ?_⟩, fun hc => ⟨_, _, wp_FR_answered rfl, ?_⟩, fun hc => ⟨in3 P hmn, _, _, wp_FR_answered rfl, ?_⟩, fun hc => ⟨in3 P hmn, _, h, by rw [tq P hmn]; exact s_allCosts q4.1.1, _, _, wp_FR_answered rfl, ?_⟩⟩, fun hc => ?_⟩⟩⟩, wp_M_mode ⟨_, s_an, _, _, hMo, fun hc => absurd hc (nz1 hm), fun _ => ⟨fun hc => ⟨in6 P hmn, ?_⟩, fun hc => ⟨in6 P hmn, ?_⟩, fun hc => ⟨in6 P hmn, ?_⟩, fun hc => ⟨in6 P hmn, ?_⟩, fun hc => ⟨in3 P hmn, ?_⟩, fun hc => ⟨in6 P hmn, in6 P hmn, ?_, ?_⟩, fun hc => ⟨_, _, s_costsOf va q1 m3, ?_⟩, fun hc => ?_⟩⟩, ans_inv P C T Q (Ch.rf h) (MX.rf _) (hAn_t _) (by decide)⟩
      · rw [zl_0, zI_lt (by omega) (by omega) (by omega) (by omega)] at hc; omega
      · rw [zl_0, zI_eq (by omega) (by omega) (by omega) (by omega)] at hc; rw [qm P hmn, q2.1]; unfold moV; rw [if_pos hc]
      · rw [zl_1, zI_eq (by omega) (by omega) (by omega) (by omega)] at hc; rw [qm P hmn, q2.2.1]; unfold moV; rw [if_neg (by omega), if_pos hc]
      · rw [zl_2, zI_eq (by omega) (by omega) (by omega) (by omega)] at hc; rw [qm P hmn, q2.2.2.1]; unfold moV; rw [if_neg (by omega), if_neg (by omega), if_pos hc]
      · rw [zl_3, zI_eq (by omega) (by omega) (by omega) (by omega)] at hc; unfold moV; rw [if_neg (by omega), if_neg (by omega), if_neg (by omega), if_pos hc]
      · rw [zl_4, zI_eq (by omega) (by omega) (by omega) (by omega)] at hc; rw [qm P hmn, q2.2.2.2.1]; unfold moV; rw [if_neg (by omega), if_neg (by omega), if_neg (by omega), if_neg (by omega), if_pos hc]
      · rw [zl_5, zI_eq (by omega) (by omega) (by omega) (by omega)] at hc; rw [tq P hmn, q4.1.1.2.2.2.2.1]; unfold moV; rw [if_neg (by omega), if_neg (by omega), if_neg (by omega), if_neg (by omega), if_neg (by omega), if_pos hc]; rfl
      · rw [ty] at hc; unfold moV; rw [if_neg (by omega), if_neg (by omega), if_neg (by omega), if_neg (by omega), if_neg (by omega), if_neg (by omega)]
      · rw [zl_6, zI_le (by omega) (by omega) (by omega) (by omega)] at hc; omega
      · rw [zl_0, zI_eq (by omega) (by omega) (by omega) (by omega)] at hc; rw [em, va.1]; unfold moV; rw [if_pos hc]
      · rw [zl_1, zI_eq (by omega) (by omega) (by omega) (by omega)] at hc; rw [em, va.2.1]; unfold moV; rw [if_neg (by omega), if_pos hc]
      · rw [zl_2, zI_eq (by omega) (by omega) (by omega) (by omega)] at hc; rw [em, va.2.2.1]; unfold moV; rw [if_neg (by omega), if_neg (by omega), if_pos hc]
      · rw [zl_3, zI_eq (by omega) (by omega) (by omega) (by omega)] at hc; rw [em, va.2.2.2.1]; unfold moV; rw [if_neg (by omega), if_neg (by omega), if_neg (by omega), if_pos hc]
      · rw [zl_4, zI_eq (by omega) (by omega) (by omega) (by omega)] at hc; rw [em, va.2.2.2.2.1]; unfold moV; rw [if_neg (by omega), if_neg (by omega), if_neg (by omega), if_neg (by omega), if_pos hc]
      · rw [em, va.1, zl_0, zI_eq (by omega) (by omega) (by omega) (by omega)]; omega
      · rw [zl_5, zI_eq (by omega) (by omega) (by omega) (by omega)] at hc; rw [em, va.1, va.2.2.2.1, zI_div (by omega) (by omega) (by omega) (by omega), ← bd.2.1]; unfold moV; rw [if_neg (by omega), if_neg (by omega), if_neg (by omega), if_neg (by omega), if_neg (by omega), if_pos hc]; rfl
      · rw [zl_6, zI_eq (by omega) (by omega) (by omega) (by omega)] at hc; unfold moV; rw [if_neg (by omega), if_neg (by omega), if_neg (by omega), if_neg (by omega), if_neg (by omega), if_neg (by omega)]
      · rw [ty] at hc; omega
    · have Pa := PLb P (Ch.rf h) 1
      have hMo := s_isModeM Pa x1 x2
      have ne : ∀ k : Int, 0 ≤ k → k ≤ 6 → ¬ zI y = zI k := fun k k0 k1 hc => by rw [zI_eq (by omega) (by omega) (by omega) (by omega)] at hc; omega
      refine ⟨_, _, _, wp_FR_mode ⟨_, h, hF, fun hc => absurd hc (nz1 hm), fun _ => ⟨fun _ => ⟨_, _, wp_FR_refused rfl, rfl⟩, fun hc => ⟨fun hc2 => ?_, fun _ => ⟨_, _, wp_FR_refused rfl, rfl⟩⟩⟩⟩, wp_M_mode ⟨_, s_an, _, _, hMo, fun hc => absurd hc (nz1 hm), fun _ => ⟨fun hc => absurd hc (ne 0 (by omega) (by omega)), fun hc => absurd hc (ne 1 (by omega) (by omega)), fun hc => absurd hc (ne 2 (by omega) (by omega)), fun hc => absurd hc (ne 3 (by omega) (by omega)), fun hc => absurd hc (ne 4 (by omega) (by omega)), fun hc => absurd hc (ne 5 (by omega) (by omega)), fun hc => absurd hc (ne 6 (by omega) (by omega)), fun _ => ⟨_, _, wp_M_no rfl, rfl⟩⟩⟩, no_inv P C T Q (Ch.rf h) (MX.rf _) (by decide)⟩
      rw [zl_0, zI_lt (by omega) (by omega) (by omega) (by omega)] at hc
      rw [zl_6, zI_le (by omega) (by omega) (by omega) (by omega)] at hc2; omega
  · exact ⟨_, _, _, wp_FR_mode ⟨_, h, s_isModeF P x1 x2, fun _ => ⟨_, _, wp_FR_refused rfl, rfl⟩, fun hc => absurd (nz0 hm) hc⟩, wp_M_mode ⟨_, s_an, _, _, s_isModeM (PLa P 1) x1 x2, fun _ => ⟨_, _, wp_M_no rfl, rfl⟩, fun hc => absurd (nz0 hm) hc⟩, ref_inv P C T Q (t := 1) (by decide)⟩
/-- the reference looks for a task -/
theorem s_tkM (P : PL h nm D) {m : Nat} (hm : m < nm) {y : Int} (y1 : -2147483648 ≤ y) (y2 : y ≤ 2147483647) : m_M_in (zI y) 0 ((h.1 36 0 (zI (m : Int)).toNatClampNeg) - 1) h (zI (if 0 ≤ y ∧ y < md_tk (D m) then 1 else 0)) h := by
  obtain ⟨q1, q2, q3, q4, q5, q6⟩ := P.2.2.2.2 m hm
  have m3 := P.m3 hm
  rw [zI_cn (by omega), q3.2.2.1]
  exact in_1 y1 y2 (by have := q1.2.2.2.1; omega)
theorem s_jbM (P : PL h nm D) {m : Nat} (hm : m < nm) {y : Int} (y1 : -2147483648 ≤ y) (y2 : y ≤ 2147483647) : m_M_in (zI y) 0 ((h.1 42 0 (zI (m : Int)).toNatClampNeg) - 1) h (zI (if 0 ≤ y ∧ y < md_jb (D m) then 1 else 0)) h := by
  obtain ⟨q1, q2, q3, q4, q5, q6⟩ := P.2.2.2.2 m hm
  have m3 := P.m3 hm
  rw [zI_cn (by omega), q3.2.2.2.2.1]
  exact in_1 y1 y2 (by have := q1.2.2.2.2.1; omega)
theorem c_headroom (I : INV B h) (a b : Int32) : ∃ v h1 h2, m_FR_headroom a b h v h1 ∧ m_M_headroom a b h1 v h2 ∧ INV B h2 := by
  obtain ⟨nm, D, P, C, T, Q⟩ := I
  obtain ⟨x, rfl, x1, x2⟩ := i32x a
  obtain ⟨y, rfl, y1, y2⟩ := i32x b
  rcases s_isTaskF P x1 x2 y1 y2 with ⟨m, t, hmn, ht, rfl, rfl, hF⟩ | ⟨hF, hx⟩
  · obtain ⟨q1, q2, q3, q4, q5, q6⟩ := P.2.2.2.2 m hmn
    have m3 := P.m3 hmn
    have w1 := q1.1
    have hmx : 0 ≤ (m : Int) ∧ (m : Int) < nm := by omega
    have htx : 0 ≤ (t : Int) ∧ (t : Int) < md_tk (D m) := by omega
    -- the class
    obtain ⟨v, h1, a1, a2, a3⟩ : ∃ v h1, m_FR_headroom (zI m) (zI t) h (zI v) (jm_sI h1 7 0 8 0) ∧ isMx (hrP (D m) (md_fr (D m)) t) 60 v ∧ Ch cT h h1 := by
      obtain ⟨h0, b1, b2, b3⟩ := s_layA (f := 3) q2 q1 (g := md_fr (D m)) (by omega) (by omega)
      have lay : m_Flow_lay 3 (3 * (h.2.1 7 0 1) + (zI (m : Int)).toNatClampNeg) (h.1 2 (3 * (h.2.1 7 0 1) + (zI (m : Int)).toNatClampNeg) 0) (h.1 2 (3 * (h.2.1 7 0 1) + (zI (m : Int)).toNatClampNeg) 1) h h0 := by rw [qm P hmn, q2.1, q2.2.1]; exact b1
      have A0 : FAx h0 3 (D m) (md_fr (D m)) t := ⟨md_c (D m), b3.1, fun _ _ _ => rfl, fun j hj => (b3.2.2 j hj).1⟩
      obtain ⟨h', b, c1, c2, c3, c4, c5⟩ := s_fwc q1 ht A0 (x := 0) (by omega) (by omega)
      rcases c2 with e | e
      · refine ⟨-2, h', wp_FR_headroom ⟨_, h, hF, fun hc => absurd hc (by decide), fun _ => ⟨in3 P hmn, in3 P hmn, in3 P hmn, h0, lay, _, h', c1, fun _ => ⟨_, _, wp_FR_answered rfl, rfl⟩, fun hc => ?_⟩⟩, Or.inl ⟨rfl, fun z => by have := c3.mpr z; omega⟩, (cT_L b2).tr c5⟩
        rw [e] at hc; exact absurd rfl hc
      · obtain ⟨h1, v, r1, r2, r3⟩ := s_head_45 q1 ht 6 0 h' (by omega) c4 (by omega) (by omega) (c3.mp e) (fun x x1 x2 => by rw [show ub2 6 = 64 from rfl] at x1; omega)
        refine ⟨v, h1, wp_FR_headroom ⟨_, h, hF, fun hc => absurd hc (by decide), fun _ => ⟨in3 P hmn, in3 P hmn, in3 P hmn, h0, lay, _, h', c1, fun hc => ?_, fun _ => r1⟩⟩, r2, ((cT_L b2).tr c5).tr r3⟩
        rw [e] at hc; exact absurd hc (by decide)
    have Pa := PLb P (cFX_T a3) 0
    have va := (Pa.2.2.2.2 m hmn).2.2.1
    obtain ⟨h3, b1, b2, b3⟩ := s_setsUpA va q1 m3 (g := md_fr (D m)) (by omega) (by omega)
    obtain ⟨h4, v', c1, c2, c3⟩ := s_headM_29 (m := m) q1 m3 ht 61 h3 (by omega) ⟨md_c (D m), b3.1, fun _ _ _ => rfl, b3.2⟩ (fun y y1 y2 => by omega)
    have ev := isMx.uq (hrP_anti q1) a2 c2
    subst ev
    refine ⟨_, _, h4, a1, wp_M_headroom ⟨_, s_an, _, _, s_isModeM Pa x1 x2, fun hc => absurd hc (nz1 hmx), fun _ => ⟨in6 P hmn, _, _, s_tkM Pa hmn y1 y2, fun hc => absurd hc (nz1 htx), fun _ => ⟨in6 P hmn, h3, ?_, c1⟩⟩⟩, ans_inv P C T Q (cFX_T a3) (MX.of P (cM2_s (b2.tr c3))) ?_ (by decide)⟩
    · rw [zI_cn (by omega), va.1]; exact b1
    · rw [(b2.tr c3).at (by unfold cMs; omega)]; exact hAn_t _
  · have Pa := PLa P 1
    refine ⟨_, _, jm_sI (hAn (jm_sI h 7 0 8 1)) 8 0 1 1, wp_FR_headroom ⟨_, h, hF, fun _ => ⟨_, _, wp_FR_refused rfl, rfl⟩, fun hc => absurd rfl hc⟩, wp_M_headroom ⟨_, s_an, _, _, s_isModeM Pa x1 x2, fun _ => ⟨_, _, wp_M_no rfl, rfl⟩, fun hc => ?_⟩, ref_inv P C T Q (t := 1) (by decide)⟩
    rcases hx with hx | ⟨m, hmn, rfl, hy⟩
    · exact absurd (nz0 hx) hc
    · exact ⟨in6 P hmn, _, _, s_tkM Pa hmn y1 y2, fun _ => ⟨_, _, wp_M_no rfl, rfl⟩, fun hc => absurd (nz0 hy) hc⟩
def taV (d : MD) (t : Nat) (z : Int) : Int := if z = 0 then md_ph d t else if z = 1 then md_pe d t else if z = 2 then md_co d t else if z = 3 then md_sp d t else if z = 4 then md_rd d / md_pe d t else md_re d (md_fr d) t
theorem c_task (I : INV B h) (a b c : Int32) : ∃ v h1 h2, m_FR_task a b c h v h1 ∧ m_M_task a b c h1 v h2 ∧ INV B h2 := by
  obtain ⟨nm, D, P, C, T, Q⟩ := I
  obtain ⟨x, rfl, x1, x2⟩ := i32x a
  obtain ⟨y, rfl, y1, y2⟩ := i32x b
  obtain ⟨z, rfl, z1, z2⟩ := i32x c
  have tz := i32eq z1 z2
  rcases s_isTaskF P x1 x2 y1 y2 with ⟨m, t, hmn, ht, rfl, rfl, hF⟩ | ⟨hF, hx⟩
  · obtain ⟨q1, q2, q3, q4, q5, q6⟩ := P.2.2.2.2 m hmn
    have m3 := P.m3 hmn
    have w1 := q1.1
    have w3 := q1.2.2.1
    have w4 := q1.2.2.2.1
    have wt := q1.2.2.2.2.2.2.1 t ht
    have hmx : 0 ≤ (m : Int) ∧ (m : Int) < nm := by omega
    have htx : 0 ≤ (t : Int) ∧ (t : Int) < md_tk (D m) := by omega
    have it6 : jm_in (zI (t : Int)) 6 := zI_in (by omega) (by omega) (by omega)
    have et : (zI (t : Int)).toNatClampNeg = t := zI_cn (by omega)
    have em : (zI (m : Int)).toNatClampNeg = m := zI_cn (by omega)
    have vt := q2.2.2.2.2.2.1 t ht
    by_cases hz : 0 ≤ z ∧ z ≤ 5
    · have Pa := PLb P (Ch.rf h) 0
      have va := (Pa.2.2.2.2 m hmn).2.2.1
      have vat := va.2.2.2.2.2.1 t ht
      have e6 : (6 * zI (m : Int)) + zI (t : Int) = zI ((6 * m + t : Nat) : Int) := by rw [zl_6, zI_mul, zI_add]; congr 1
      have hi36 : jm_in ((6 * zI (m : Int)) + zI (t : Int)) 36 := by rw [e6]; exact zI_in (by omega) (by omega) (by omega)
      have hjo : m_Mode_jobsOf (3 * (h.2.1 7 0 1) + m) (zI t) h (zI (md_rd (D m) / md_pe (D m) t)) h := by
        refine wp_Mode_jobsOf ⟨it6, fun hc => ?_, fun _ => ⟨it6, ?_, ?_⟩⟩
        · rw [et, vt.2.1, zl_0, zI_le (by omega) (by omega) (by omega) (by omega)] at hc; omega
        · rw [et, vt.2.1, zl_0, zI_eq (by omega) (by omega) (by omega) (by omega)]; omega
        · rw [et, vt.2.1, q2.2.2.2.2.1 (by omega), zI_div (by omega) (by omega) (by omega) (by omega)]
      refine ⟨zI (taV (D m) t z), jm_sI h 7 0 8 0, hAn (jm_sI h 7 0 8 0), wp_FR_task ⟨_, h, hF, fun hc => absurd hc (by decide), fun _ => ⟨fun hc => ?_, fun _ => ⟨fun _ => ⟨in3 P hmn, fun hc => ⟨it6, _, _, wp_FR_answered rfl, ?_⟩, fun hc => ⟨it6, _, _, wp_FR_answered rfl, ?_⟩, fun hc => ⟨it6, _, _, wp_FR_answered rfl, ?_⟩, fun hc => ⟨it6, _, _, wp_FR_answered rfl, ?_⟩, fun hc => ⟨_, h, by rw [qm P hmn]; exact hjo, _, _, wp_FR_answered rfl, ?_⟩, fun hc => ⟨_, h, by rw [qm P hmn, q2.1]; exact s_reachF q2 q1 (by omega) (by omega) ht, _, _, wp_FR_answered rfl, ?_⟩⟩, fun hc => ?_⟩⟩⟩, wp_M_task ⟨_, s_an, _, _, s_isModeM Pa x1 x2, fun hc => absurd hc (nz1 hmx), fun _ => ⟨in6 P hmn, _, _, s_tkM Pa hmn y1 y2, fun hc => absurd hc (nz1 htx), fun _ => ⟨fun hc => ⟨hi36, ?_⟩, fun hc => ⟨hi36, ?_⟩, fun hc => ⟨hi36, ?_⟩, fun hc => ⟨hi36, ?_⟩, fun hc => ⟨in6 P hmn, hi36, ?_, ?_⟩, fun hc => ⟨in6 P hmn, _, _, by rw [em, va.1]; exact s_reachM va q1 m3 (by omega) (by omega) ht, ?_⟩, fun hc => ?_⟩⟩⟩, ans_inv P C T Q (Ch.rf h) (MX.rf _) (hAn_t _) (by decide)⟩
      · rw [zl_0, zI_lt (by omega) (by omega) (by omega) (by omega)] at hc; omega
      · rw [zl_0, zI_eq (by omega) (by omega) (by omega) (by omega)] at hc; rw [qm P hmn, et, vt.1]; unfold taV; rw [if_pos hc]
      · rw [zl_1, zI_eq (by omega) (by omega) (by omega) (by omega)] at hc; rw [qm P hmn, et, vt.2.1]; unfold taV; rw [if_neg (by omega), if_pos hc]
      · rw [zl_2, zI_eq (by omega) (by omega) (by omega) (by omega)] at hc; rw [qm P hmn, et, vt.2.2.1]; unfold taV; rw [if_neg (by omega), if_neg (by omega), if_pos hc]
      · rw [zl_3, zI_eq (by omega) (by omega) (by omega) (by omega)] at hc; rw [qm P hmn, et, vt.2.2.2]; unfold taV; rw [if_neg (by omega), if_neg (by omega), if_neg (by omega), if_pos hc]
      · rw [zl_4, zI_eq (by omega) (by omega) (by omega) (by omega)] at hc; unfold taV; rw [if_neg (by omega), if_neg (by omega), if_neg (by omega), if_neg (by omega), if_pos hc]
      · rw [tz] at hc; unfold taV; rw [if_neg (by omega), if_neg (by omega), if_neg (by omega), if_neg (by omega), if_neg (by omega)]
      · rw [zl_5, zI_le (by omega) (by omega) (by omega) (by omega)] at hc; omega
      · rw [zl_0, zI_eq (by omega) (by omega) (by omega) (by omega)] at hc; rw [e6, zI_cn (by omega), vat.1]; unfold taV; rw [if_pos hc]
      · rw [zl_1, zI_eq (by omega) (by omega) (by omega) (by omega)] at hc; rw [e6, zI_cn (by omega), vat.2.1]; unfold taV; rw [if_neg (by omega), if_pos hc]
      · rw [zl_2, zI_eq (by omega) (by omega) (by omega) (by omega)] at hc; rw [e6, zI_cn (by omega), vat.2.2.1]; unfold taV; rw [if_neg (by omega), if_neg (by omega), if_pos hc]
      · rw [zl_3, zI_eq (by omega) (by omega) (by omega) (by omega)] at hc; rw [e6, zI_cn (by omega), vat.2.2.2]; unfold taV; rw [if_neg (by omega), if_neg (by omega), if_neg (by omega), if_pos hc]
      · rw [e6, zI_cn (by omega), vat.2.1, zl_0, zI_eq (by omega) (by omega) (by omega) (by omega)]; omega
      · rw [zl_4, zI_eq (by omega) (by omega) (by omega) (by omega)] at hc; rw [e6, em, zI_cn (by omega), vat.2.1, va.2.2.2.1, zI_div (by omega) (by omega) (by omega) (by omega)]; unfold taV; rw [if_neg (by omega), if_neg (by omega), if_neg (by omega), if_neg (by omega), if_pos hc]
      · rw [zl_5, zI_eq (by omega) (by omega) (by omega) (by omega)] at hc; unfold taV; rw [if_neg (by omega), if_neg (by omega), if_neg (by omega), if_neg (by omega), if_neg (by omega)]
      · rw [tz] at hc; omega
    · have Pa := PLb P (Ch.rf h) 1
      have ne : ∀ k : Int, 0 ≤ k → k ≤ 5 → ¬ zI z = zI k := fun k k0 k1 hc => by rw [zI_eq (by omega) (by omega) (by omega) (by omega)] at hc; omega
      refine ⟨_, _, _, wp_FR_task ⟨_, h, hF, fun hc => absurd hc (by decide), fun _ => ⟨fun _ => ⟨_, _, wp_FR_refused rfl, rfl⟩, fun hc => ⟨fun hc2 => ?_, fun _ => ⟨_, _, wp_FR_refused rfl, rfl⟩⟩⟩⟩, wp_M_task ⟨_, s_an, _, _, s_isModeM Pa x1 x2, fun hc => absurd hc (nz1 hmx), fun _ => ⟨in6 P hmn, _, _, s_tkM Pa hmn y1 y2, fun hc => absurd hc (nz1 htx), fun _ => ⟨fun hc => absurd hc (ne 0 (by omega) (by omega)), fun hc => absurd hc (ne 1 (by omega) (by omega)), fun hc => absurd hc (ne 2 (by omega) (by omega)), fun hc => absurd hc (ne 3 (by omega) (by omega)), fun hc => absurd hc (ne 4 (by omega) (by omega)), fun hc => absurd hc (ne 5 (by omega) (by omega)), fun _ => ⟨_, _, wp_M_no rfl, rfl⟩⟩⟩⟩, no_inv P C T Q (Ch.rf h) (MX.rf _) (by decide)⟩
      rw [zl_0, zI_lt (by omega) (by omega) (by omega) (by omega)] at hc
      rw [zl_5, zI_le (by omega) (by omega) (by omega) (by omega)] at hc2; omega
  · have Pa := PLa P 1
    refine ⟨_, _, jm_sI (hAn (jm_sI h 7 0 8 1)) 8 0 1 1, wp_FR_task ⟨_, h, hF, fun _ => ⟨_, _, wp_FR_refused rfl, rfl⟩, fun hc => absurd rfl hc⟩, wp_M_task ⟨_, s_an, _, _, s_isModeM Pa x1 x2, fun _ => ⟨_, _, wp_M_no rfl, rfl⟩, fun hc => ?_⟩, ref_inv P C T Q (t := 1) (by decide)⟩
    rcases hx with hx | ⟨m, hmn, rfl, hy⟩
    · exact absurd (nz0 hx) hc
    · exact ⟨in6 P hmn, _, _, s_tkM Pa hmn y1 y2, fun _ => ⟨_, _, wp_M_no rfl, rfl⟩, fun hc => absurd (nz0 hy) hc⟩
def joV (d : MD) (j : Nat) (z : Int) : Int := if z = 0 then md_jt d j else if z = 1 then md_ja d j else if z = 2 then md_du d j else if z = 3 then md_c d j else if z = 4 then (if md_fi d (md_fr d) j ≤ md_la d (md_fr d) j then md_fi d (md_fr d) j else -2) else (if md_fi d (md_fr d) j ≤ md_la d (md_fr d) j then md_la d (md_fr d) j else -2)
theorem c_job (I : INV B h) (a b c : Int32) : ∃ v h1 h2, m_FR_job a b c h v h1 ∧ m_M_job a b c h1 v h2 ∧ INV B h2 := by
  obtain ⟨nm, D, P, C, T, Q⟩ := I
  obtain ⟨x, rfl, x1, x2⟩ := i32x a
  obtain ⟨y, rfl, y1, y2⟩ := i32x b
  obtain ⟨z, rfl, z1, z2⟩ := i32x c
  have tz := i32eq z1 z2
  rcases s_isJobF P x1 x2 y1 y2 with ⟨m, j, hmn, hj, rfl, rfl, hF⟩ | ⟨hF, hx⟩
  · obtain ⟨q1, q2, q3, q4, q5, q6⟩ := P.2.2.2.2 m hmn
    have m3 := P.m3 hmn
    have w1 := q1.1
    have w5 := q1.2.2.2.2.1
    have wj := q1.2.2.2.2.2.2.2.1 j hj
    have w4 := q1.2.2.2.1
    have hmx : 0 ≤ (m : Int) ∧ (m : Int) < nm := by omega
    have htx : 0 ≤ (j : Int) ∧ (j : Int) < md_jb (D m) := by omega
    have ij : jm_in (zI (j : Int)) 24 := zI_in (by omega) (by omega) (by omega)
    have ej : (zI (j : Int)).toNatClampNeg = j := zI_cn (by omega)
    have em : (zI (m : Int)).toNatClampNeg = m := zI_cn (by omega)
    have bj := (md_bd q1 (g := md_fr (D m)) (by omega) (by omega)).2.2 j hj
    have F24 := P.F24 hmn
    have hE := s_isEmpty q4.1.1 hj
    have hEM : ∀ h', vM h' m (D m) → m_M_isEmpty (zI m) (zI j) (zI (md_fr (D m))) h' (zI (if md_fi (D m) (md_fr (D m)) j ≤ md_la (D m) (md_fr (D m)) j then 0 else 1)) h' := fun h' v' => by
      refine wp_M_isEmpty ⟨_, h', s_firstOf v' q1 m3 (by omega) (by omega) hj, _, h', s_lastOf v' q1 m3 (by omega) (by omega) hj, fun hc => ?_, fun hc => ?_⟩
      · rw [zI_le (by omega) (by omega) (by omega) (by omega)] at hc; rw [if_pos hc]; rfl
      · rw [zI_le (by omega) (by omega) (by omega) (by omega)] at hc; rw [if_neg hc]; rfl
    by_cases hz : 0 ≤ z ∧ z ≤ 5
    · have Pa := PLb P (Ch.rf h) 0
      have va := (Pa.2.2.2.2 m hmn).2.2.1
      have vaj := va.2.2.2.2.2.2 j hj
      have e24 : (24 * zI (m : Int)) + zI (j : Int) = zI ((24 * m + j : Nat) : Int) := by rw [zl_24, zI_mul, zI_add]; congr 1
      have hi72 : jm_in ((24 * zI (m : Int)) + zI (j : Int)) 72 := by rw [e24]; exact zI_in (by omega) (by omega) (by omega)
      have g0 : zI z = 0 → joV (D m) j z = md_jt (D m) j := fun hc => by rw [zl_0, zI_eq (by omega) (by omega) (by omega) (by omega)] at hc; unfold joV; rw [if_pos hc]
      have g1 : zI z = 1 → joV (D m) j z = md_ja (D m) j := fun hc => by rw [zl_1, zI_eq (by omega) (by omega) (by omega) (by omega)] at hc; unfold joV; rw [if_neg (by omega), if_pos hc]
      have g2 : zI z = 2 → joV (D m) j z = md_du (D m) j := fun hc => by rw [zl_2, zI_eq (by omega) (by omega) (by omega) (by omega)] at hc; unfold joV; rw [if_neg (by omega), if_neg (by omega), if_pos hc]
      have g3 : zI z = 3 → joV (D m) j z = md_c (D m) j := fun hc => by rw [zl_3, zI_eq (by omega) (by omega) (by omega) (by omega)] at hc; unfold joV; rw [if_neg (by omega), if_neg (by omega), if_neg (by omega), if_pos hc]
      have g4 : zI z = 4 → joV (D m) j z = (if md_fi (D m) (md_fr (D m)) j ≤ md_la (D m) (md_fr (D m)) j then md_fi (D m) (md_fr (D m)) j else -2) := fun hc => by rw [zl_4, zI_eq (by omega) (by omega) (by omega) (by omega)] at hc; unfold joV; rw [if_neg (by omega), if_neg (by omega), if_neg (by omega), if_neg (by omega), if_pos hc]
      have g5 : z = 5 → joV (D m) j z = (if md_fi (D m) (md_fr (D m)) j ≤ md_la (D m) (md_fr (D m)) j then md_la (D m) (md_fr (D m)) j else -2) := fun hc => by unfold joV; rw [if_neg (by omega), if_neg (by omega), if_neg (by omega), if_neg (by omega), if_neg (by omega)]
      refine ⟨zI (joV (D m) j z), jm_sI h 7 0 8 0, hAn (jm_sI h 7 0 8 0), wp_FR_job ⟨_, h, hF, fun hc => absurd hc (by decide), fun _ => ⟨fun hc => ?_, fun _ => ⟨fun _ => ⟨in3 P hmn, fun hc => ⟨ij, _, _, wp_FR_answered rfl, ?_⟩, fun hc => ⟨ij, _, _, wp_FR_answered rfl, ?_⟩, fun hc => ⟨ij, _, _, wp_FR_answered rfl, ?_⟩, fun hc => ⟨ij, _, _, wp_FR_answered rfl, ?_⟩, fun hc => ⟨_, h, by rw [tq P hmn]; exact hE, fun hc2 => ⟨ij, _, _, wp_FR_answered rfl, ?_⟩, fun hc2 => ⟨_, _, wp_FR_answered rfl, ?_⟩⟩, fun hc => ⟨_, h, by rw [tq P hmn]; exact hE, fun hc2 => ⟨ij, _, _, wp_FR_answered rfl, ?_⟩, fun hc2 => ⟨_, _, wp_FR_answered rfl, ?_⟩⟩⟩, fun hc => ?_⟩⟩⟩, wp_M_job ⟨_, s_an, _, _, s_isModeM Pa x1 x2, fun hc => absurd hc (nz1 hmx), fun _ => ⟨in3 P hmn, _, _, s_jbM Pa hmn y1 y2, fun hc => absurd hc (nz1 htx), fun _ => ⟨in6 P hmn, _, _, by rw [em, va.1]; exact hEM _ va, fun hc2 => ⟨fun hc => ⟨hi72, ?_⟩, fun hc => ⟨hi72, ?_⟩, fun hc => ⟨_, _, s_dueOf va q1 m3 hj, ?_⟩, fun hc => ⟨_, _, s_taskOf va q1 m3 hj, zI_in (by omega) (by omega) (by omega), ?_⟩, fun hc => ⟨in6 P hmn, _, _, by rw [em, va.1]; exact s_firstOf va q1 m3 (by omega) (by omega) hj, ?_⟩, fun hc => ⟨in6 P hmn, _, _, by rw [em, va.1]; exact s_lastOf va q1 m3 (by omega) (by omega) hj, ?_⟩, fun hc => ?_⟩, fun hc2 => ⟨fun hc => ⟨hi72, ?_⟩, fun hc => ⟨hi72, ?_⟩, fun hc => ⟨_, _, s_dueOf va q1 m3 hj, ?_⟩, fun hc => ⟨_, _, s_taskOf va q1 m3 hj, zI_in (by omega) (by omega) (by omega), ?_⟩, fun hc => ?_, fun hc => ?_, fun hc => ?_⟩⟩⟩⟩, ans_inv P C T Q (Ch.rf h) (MX.rf _) (hAn_t _) (by decide)⟩
      · rw [zl_0, zI_lt (by omega) (by omega) (by omega) (by omega)] at hc; omega
      · rw [tq P hmn, ej, (q4.1.2.2 j hj).1, g0 hc]
      · rw [tq P hmn, ej, (q4.1.2.2 j hj).2.1, g1 hc]
      · rw [tq P hmn, ej, (q4.1.2.2 j hj).2.2, g2 hc]
      · rw [tq P hmn, ej, (q4.1.1.2.2.2.2.2.2.2.2 j hj).1, g3 hc]
      · by_cases he : md_fi (D m) (md_fr (D m)) j ≤ md_la (D m) (md_fr (D m)) j
        · rw [tq P hmn, ej, (q4.1.1.2.2.2.2.2.2.1 j hj).1, g4 hc, if_pos he]
        · rw [if_neg he] at hc2; exact absurd hc2 (by decide)
      · by_cases he : md_fi (D m) (md_fr (D m)) j ≤ md_la (D m) (md_fr (D m)) j
        · rw [if_pos he] at hc2; exact absurd rfl hc2
        · rw [g4 hc, if_neg he]; rfl
      · rw [tz] at hc
        by_cases he : md_fi (D m) (md_fr (D m)) j ≤ md_la (D m) (md_fr (D m)) j
        · rw [tq P hmn, ej, (q4.1.1.2.2.2.2.2.2.2.1 j hj).1, g5 (by omega), if_pos he]
        · rw [if_neg he] at hc2; exact absurd hc2 (by decide)
      · rw [tz] at hc
        by_cases he : md_fi (D m) (md_fr (D m)) j ≤ md_la (D m) (md_fr (D m)) j
        · rw [if_pos he] at hc2; exact absurd rfl hc2
        · rw [g5 (by omega), if_neg he]; rfl
      · rw [zl_5, zI_le (by omega) (by omega) (by omega) (by omega)] at hc; omega
      · rw [e24, zI_cn (by omega), vaj.1, g0 hc]
      · rw [e24, zI_cn (by omega), vaj.2, g1 hc]
      · rw [g2 hc]
      · rw [zI_cn (by omega), (va.2.2.2.2.2.1 _ wj.1).2.2.1, g3 hc]; rfl
      · by_cases he : md_fi (D m) (md_fr (D m)) j ≤ md_la (D m) (md_fr (D m)) j
        · rw [g4 hc, if_pos he]
        · rw [if_neg he] at hc2; exact absurd hc2 (by decide)
      · rw [zl_5, zI_eq (by omega) (by omega) (by omega) (by omega)] at hc
        by_cases he : md_fi (D m) (md_fr (D m)) j ≤ md_la (D m) (md_fr (D m)) j
        · rw [g5 hc, if_pos he]
        · rw [if_neg he] at hc2; exact absurd hc2 (by decide)
      · rw [tz] at hc; omega
      · rw [e24, zI_cn (by omega), vaj.1, g0 hc]
      · rw [e24, zI_cn (by omega), vaj.2, g1 hc]
      · rw [g2 hc]
      · rw [zI_cn (by omega), (va.2.2.2.2.2.1 _ wj.1).2.2.1, g3 hc]; rfl
      · by_cases he : md_fi (D m) (md_fr (D m)) j ≤ md_la (D m) (md_fr (D m)) j
        · rw [if_pos he] at hc2; exact absurd rfl hc2
        · rw [g4 hc, if_neg he]; rfl
      · rw [zl_5, zI_eq (by omega) (by omega) (by omega) (by omega)] at hc
        by_cases he : md_fi (D m) (md_fr (D m)) j ≤ md_la (D m) (md_fr (D m)) j
        · rw [if_pos he] at hc2; exact absurd rfl hc2
        · rw [g5 hc, if_neg he]; rfl
      · rw [tz] at hc; omega
    · have Pa := PLb P (Ch.rf h) 1
      have va := (Pa.2.2.2.2 m hmn).2.2.1
      have ne : ∀ k : Int, 0 ≤ k → k ≤ 5 → ¬ zI z = zI k := fun k k0 k1 hc => by rw [zI_eq (by omega) (by omega) (by omega) (by omega)] at hc; omega
      refine ⟨_, _, jm_sI (hAn (jm_sI h 7 0 8 1)) 8 0 1 1, wp_FR_job ⟨_, h, hF, fun hc => absurd hc (by decide), fun _ => ⟨fun _ => ⟨_, _, wp_FR_refused rfl, rfl⟩, fun hc => ⟨fun hc2 => ?_, fun _ => ⟨_, _, wp_FR_refused rfl, rfl⟩⟩⟩⟩, wp_M_job ⟨_, s_an, _, _, s_isModeM Pa x1 x2, fun hc => absurd hc (nz1 hmx), fun _ => ⟨in3 P hmn, _, _, s_jbM Pa hmn y1 y2, fun hc => absurd hc (nz1 htx), fun _ => ⟨in6 P hmn, _, _, by rw [em, va.1]; exact hEM _ va, fun _ => ⟨fun hc => absurd hc (ne 0 (by omega) (by omega)), fun hc => absurd hc (ne 1 (by omega) (by omega)), fun hc => absurd hc (ne 2 (by omega) (by omega)), fun hc => absurd hc (ne 3 (by omega) (by omega)), fun hc => absurd hc (ne 4 (by omega) (by omega)), fun hc => absurd hc (ne 5 (by omega) (by omega)), fun _ => ⟨_, _, wp_M_no rfl, rfl⟩⟩, fun _ => ⟨fun hc => absurd hc (ne 0 (by omega) (by omega)), fun hc => absurd hc (ne 1 (by omega) (by omega)), fun hc => absurd hc (ne 2 (by omega) (by omega)), fun hc => absurd hc (ne 3 (by omega) (by omega)), fun hc => absurd hc (ne 4 (by omega) (by omega)), fun hc => absurd hc (ne 5 (by omega) (by omega)), fun _ => ⟨_, _, wp_M_no rfl, rfl⟩⟩⟩⟩⟩, no_inv P C T Q (Ch.rf h) (MX.rf _) (by decide)⟩
      rw [zl_0, zI_lt (by omega) (by omega) (by omega) (by omega)] at hc
      rw [zl_5, zI_le (by omega) (by omega) (by omega) (by omega)] at hc2; omega
  · have Pa := PLa P 1
    refine ⟨_, _, jm_sI (hAn (jm_sI h 7 0 8 1)) 8 0 1 1, wp_FR_job ⟨_, h, hF, fun _ => ⟨_, _, wp_FR_refused rfl, rfl⟩, fun hc => absurd rfl hc⟩, wp_M_job ⟨_, s_an, _, _, s_isModeM Pa x1 x2, fun _ => ⟨_, _, wp_M_no rfl, rfl⟩, fun hc => ?_⟩, ref_inv P C T Q (t := 1) (by decide)⟩
    rcases hx with hx | ⟨m, hmn, rfl, hy⟩
    · exact absurd (nz0 hx) hc
    · exact ⟨in3 P hmn, _, _, s_jbM Pa hmn y1 y2, fun _ => ⟨_, _, wp_M_no rfl, rfl⟩, fun hc => absurd (nz0 hy) hc⟩
/-! ===== size ===== -/
theorem s_allT_4 (P : PL h nm D) : ∀ (e n : Nat) (s : Int), n + e = nm → l_Plan_allTasks_4 (h.2.1 7 0 1) (zI s) (zI n) h (some (jm_i (zI (s + (sm nm (fun m => (md_tk (D m) : Int)) - sm n (fun m => (md_tk (D m) : Int)))))), h) := by
  have p1 := P.1
  have p3 := P.2.2.1
  intro e
  induction e with
  | zero =>
    intro n s en
    refine wp_Plan_allTasks_4 ⟨fun _ => ?_, fun hc => ?_⟩
    · rw [show n = nm by omega, Int.sub_self, Int.add_zero]
    · rw [p3, zI_le (by omega) (by omega) (by omega) (by omega)] at hc; omega
  | succ e ih =>
    intro n s en
    have hn : n < nm := by omega
    have g := ih (n + 1) (s + md_tk (D n)) (by omega)
    rw [sm_s, show ∀ x y z : Int, s + x + (y - (z + x)) = s + (y - z) from fun x y z => by omega] at g
    refine wp_Plan_allTasks_4 ⟨fun hc => ?_, fun _ => ⟨in3 P hn, ?_⟩⟩
    · rw [p3, zI_le (by omega) (by omega) (by omega) (by omega)] at hc; omega
    · rw [qm P hn, (P.2.2.2.2 n hn).2.1.2.2.1, zI_add, zl_1, zI_add]; exact g
theorem s_allJ_4 (P : PL h nm D) : ∀ (e n : Nat) (s : Int), n + e = nm → l_Plan_allJobs_4 (h.2.1 7 0 1) (zI s) (zI n) h (some (jm_i (zI (s + (sm nm (fun m => (md_jb (D m) : Int)) - sm n (fun m => (md_jb (D m) : Int)))))), h) := by
  have p1 := P.1
  have p3 := P.2.2.1
  intro e
  induction e with
  | zero =>
    intro n s en
    refine wp_Plan_allJobs_4 ⟨fun _ => ?_, fun hc => ?_⟩
    · rw [show n = nm by omega, Int.sub_self, Int.add_zero]
    · rw [p3, zI_le (by omega) (by omega) (by omega) (by omega)] at hc; omega
  | succ e ih =>
    intro n s en
    have hn : n < nm := by omega
    have g := ih (n + 1) (s + md_jb (D n)) (by omega)
    rw [sm_s, show ∀ x y z : Int, s + x + (y - (z + x)) = s + (y - z) from fun x y z => by omega] at g
    refine wp_Plan_allJobs_4 ⟨fun hc => ?_, fun _ => ⟨in3 P hn, ?_⟩⟩
    · rw [p3, zI_le (by omega) (by omega) (by omega) (by omega)] at hc; omega
    · rw [qm P hn, (P.2.2.2.2 n hn).2.1.2.2.2.1, zI_add, zl_1, zI_add]; exact g
theorem s_sz_9 (P : PL h nm D) {y : Int} (y1 : -2147483648 ≤ y) (y2 : y ≤ 2147483647) {v : Int32} (H : (y = 0 → v = zI nm) ∧ (y = 1 → v = zI (sm nm (fun m => (md_tk (D m) : Int)))) ∧ (y = 2 → v = zI (sm nm (fun m => (md_jb (D m) : Int)))) ∧ (y = 3 → v = h.1 8 0 5) ∧ (y = 4 → (h.1 8 0 43 = 0 → v = 0) ∧ (¬ h.1 8 0 43 = 0 → v = 1)) ∧ (y < 0 ∨ 5 ≤ y → v = -1)) : ∀ (e n : Nat), n + e = nm → l_M_size_9 (zI y) (zI (sm n (fun m => (md_tk (D m) : Int)))) (zI (sm n (fun m => (md_jb (D m) : Int)))) (zI n) h (some (jm_i v), h) := by
  have p1 := P.1
  have p4 := P.2.2.2.1
  have ty := i32eq y1 y2
  obtain ⟨H0, H1, H2, H3, H4, H5⟩ := H
  intro e
  induction e with
  | zero =>
    intro n en
    have en : n = nm := by omega
    subst en
    refine wp_M_size_9 ⟨fun _ => ⟨fun hc => ?_, fun hc => ?_, fun hc => ?_, fun hc => ?_, fun hc => ⟨fun hc2 => ?_, fun hc2 => ?_⟩, fun hc => ?_⟩, fun hc => ?_⟩
    · rw [zl_0, zI_eq (by omega) (by omega) (by omega) (by omega)] at hc; rw [H0 hc, p4]
    · rw [zl_1, zI_eq (by omega) (by omega) (by omega) (by omega)] at hc; rw [H1 hc]
    · rw [zl_2, zI_eq (by omega) (by omega) (by omega) (by omega)] at hc; rw [H2 hc]
    · rw [zl_3, zI_eq (by omega) (by omega) (by omega) (by omega)] at hc; rw [H3 hc]
    · rw [zl_4, zI_eq (by omega) (by omega) (by omega) (by omega)] at hc; rw [(H4 hc).1 hc2]
    · rw [zl_4, zI_eq (by omega) (by omega) (by omega) (by omega)] at hc; rw [(H4 hc).2 hc2]
    · rw [ty] at hc; rw [H5 hc]
    · rw [p4, zI_le (by omega) (by omega) (by omega) (by omega)] at hc; omega
  | succ e ih =>
    intro n en
    have hn : n < nm := by omega
    have q3 := (P.2.2.2.2 n hn).2.2.1
    refine wp_M_size_9 ⟨fun hc => ?_, fun _ => ⟨in6 P hn, in3 P hn, ?_⟩⟩
    · rw [p4, zI_le (by omega) (by omega) (by omega) (by omega)] at hc; omega
    · rw [zI_cn (by omega), q3.2.2.1, q3.2.2.2.2.1, zI_add, zI_add, zl_1, zI_add]
      exact ih (n + 1) (by omega)
theorem c_size (I : INV B h) (a : Int32) : ∃ v h1 h2, m_FR_size a h v h1 ∧ m_M_size a h1 v h2 ∧ INV B h2 := by
  have I0 := I
  obtain ⟨nm, D, P, C, T, Q⟩ := I
  obtain ⟨y, rfl, y1, y2⟩ := i32x a
  have ty := i32eq y1 y2
  have c1 : Ch (fun K _ j => K = 8 ∧ j = 0) h (jm_sI h 8 0 0 0) := Ch.sI ⟨rfl, rfl⟩
  have P1 : PL (jm_sI h 8 0 0 0) nm D := P.M (MX.of P (c1.mono (fun K i j x => by unfold cM2 cMs; omega)))
  obtain ⟨_, _, b, b1, b2, b3, _⟩ := C
  obtain ⟨n, n1, n2, n3, _⟩ := Q
  have aT := s_allT_4 P nm 0 0 (by omega)
  have aJ := s_allJ_4 P nm 0 0 (by omega)
  rw [sm_0, Int.sub_zero, Int.zero_add] at aT aJ
  obtain ⟨v, hv⟩ : ∃ v : Int32, v = (if y = 0 then zI nm else if y = 1 then zI (sm nm (fun m => (md_tk (D m) : Int))) else if y = 2 then zI (sm nm (fun m => (md_jb (D m) : Int))) else if y = 3 then zI n else if y = 4 then zI b else -1) := ⟨_, rfl⟩
  have H0 : y = 0 → v = zI nm := fun e => by rw [hv, if_pos e]
  have H1 : y = 1 → v = zI (sm nm (fun m => (md_tk (D m) : Int))) := fun e => by rw [hv, if_neg (by omega), if_pos e]
  have H2 : y = 2 → v = zI (sm nm (fun m => (md_jb (D m) : Int))) := fun e => by rw [hv, if_neg (by omega), if_neg (by omega), if_pos e]
  have H3 : y = 3 → v = zI n := fun e => by rw [hv, if_neg (by omega), if_neg (by omega), if_neg (by omega), if_pos e]
  have H4 : y = 4 → v = zI b := fun e => by rw [hv, if_neg (by omega), if_neg (by omega), if_neg (by omega), if_neg (by omega), if_pos e]
  have H5 : y < 0 ∨ 5 ≤ y → v = -1 := fun e => by rw [hv, if_neg (by omega), if_neg (by omega), if_neg (by omega), if_neg (by omega), if_neg (by omega)]
  have sz := s_sz_9 P1 y1 y2 (v := v) ⟨H0, H1, H2, fun e => by rw [H3 e, c1.at (by omega), n3], fun e => ⟨fun hc => by
      rw [c1.at (by omega), b3] at hc
      rcases b1 with e0 | e0
      · rw [H4 e, e0]; rfl
      · rw [e0] at hc; exact absurd hc (by decide), fun hc => by
      rw [c1.at (by omega), b3] at hc
      rcases b1 with e0 | e0
      · rw [e0] at hc; exact absurd rfl hc
      · rw [H4 e, e0]; rfl⟩, H5⟩ nm 0 (by omega)
  refine ⟨v, h, jm_sI h 8 0 0 0, wp_FR_size ⟨fun hc => ?_, fun hc => ⟨_, h, wp_Plan_allTasks aT, ?_⟩, fun hc => ⟨_, h, wp_Plan_allJobs aJ, ?_⟩, fun hc => ?_, fun hc => ⟨fun hc2 => ?_, fun hc2 => ?_⟩, fun hc => ?_⟩, wp_M_size sz, INV.mk0 I0 c1⟩
  · rw [zl_0, zI_eq (by omega) (by omega) (by omega) (by omega)] at hc; rw [H0 hc, P.2.2.1]
  · rw [zl_1, zI_eq (by omega) (by omega) (by omega) (by omega)] at hc; rw [H1 hc]
  · rw [zl_2, zI_eq (by omega) (by omega) (by omega) (by omega)] at hc; rw [H2 hc]
  · rw [zl_3, zI_eq (by omega) (by omega) (by omega) (by omega)] at hc; rw [H3 hc, n2]
  · rw [zl_4, zI_eq (by omega) (by omega) (by omega) (by omega)] at hc
    rw [b2] at hc2
    rcases b1 with e0 | e0
    · rw [H4 hc, e0]; rfl
    · rw [e0] at hc2; exact absurd hc2 (by decide)
  · rw [zl_4, zI_eq (by omega) (by omega) (by omega) (by omega)] at hc
    rw [b2] at hc2
    rcases b1 with e0 | e0
    · rw [e0] at hc2; exact absurd rfl hc2
    · rw [H4 hc, e0]; rfl
  · rw [ty] at hc; rw [H5 hc]
end CALLM
