/-! ===== calls about lengths ===== -/
theorem INV.mk0 {h h2 : jm_H} {B : Int} (I : INV B h) (a : Ch (fun K _ j => K = 8 ∧ j = 0) h h2) : INV B h2 := by
  obtain ⟨nm, D, P, C, T, Q⟩ := I
  have b : MX nm D h h2 := MX.of P (a.mono (fun K i j x => by unfold cM2 cMs; omega))
  refine ⟨nm, D, P.M b, C.M b, ⟨?_, ?_, fun x => ?_⟩, Q.chg (fun K j hK => a.at (by omega))⟩
  · rw [a.at (by omega), a.at (by omega)]; exact T.1
  · rw [a.at (by omega), a.at (by omega)]; exact T.2.1
  · rw [a.at (by omega)] at x
    rw [a.at (by omega), a.at (by omega)]; exact T.2.2 x
theorem c_fault {B : Int} {h : jm_H} (I : INV B h) : ∃ v h1 h2, m_FR_fault h v h1 ∧ m_M_fault h1 v h2 ∧ INV B h2 := by
  obtain ⟨nm, D, P, C, T, Q⟩ := I
  refine ⟨_, h, _, wp_FR_fault rfl, wp_M_fault (by rw [T.2.1]), INV.mk0 ⟨nm, D, P, C, T, Q⟩ (Ch.sI ⟨rfl, rfl⟩)⟩
theorem c_trouble {B : Int} {h : jm_H} (I : INV B h) : ∃ v h1 h2, m_FR_trouble h v h1 ∧ m_M_trouble h1 v h2 ∧ INV B h2 := by
  obtain ⟨nm, D, P, C, T, Q⟩ := I
  refine ⟨_, h, _, wp_FR_trouble rfl, wp_M_trouble (by rw [T.1]), INV.mk0 ⟨nm, D, P, C, T, Q⟩ (Ch.sI ⟨rfl, rfl⟩)⟩
theorem c_where {B : Int} {h : jm_H} (I : INV B h) : ∃ v h1 h2, m_FR_where h v h1 ∧ m_M_where h1 v h2 ∧ INV B h2 := by
  obtain ⟨nm, D, P, C, T, Q⟩ := I
  by_cases h4 : h.1 7 0 8 = 4
  · refine ⟨h.1 7 0 10, h, jm_sI h 8 0 0 0, wp_FR_where ⟨fun _ => rfl, fun hc => absurd h4 hc⟩, wp_M_where ⟨fun _ => by rw [T.2.2 h4], fun hc => absurd (T.1 ▸ h4) hc⟩, INV.mk0 ⟨nm, D, P, C, T, Q⟩ (Ch.sI ⟨rfl, rfl⟩)⟩
  · refine ⟨-1, h, jm_sI h 8 0 0 0, wp_FR_where ⟨fun hc => absurd hc h4, fun _ => rfl⟩, wp_M_where ⟨fun hc => absurd (T.1.trans hc) h4, fun _ => rfl⟩, INV.mk0 ⟨nm, D, P, C, T, Q⟩ (Ch.sI ⟨rfl, rfl⟩)⟩
section CALLS
variable {B : Int} {h : jm_H} {nm : Nat} {D : Nat → MD}
/-- both refuse -/
theorem ref_inv (P : PL h nm D) (C : CKI h nm D B) (T : TT h) (Q : TP h) {t : Int32} (t4 : t ≠ 4) : INV B (jm_sI (hAn (jm_sI h 7 0 8 t)) 8 0 1 t) := by
  have E1 : EF h (jm_sI h 7 0 8 t) t := EF.of (Ch.rf h) t
  have P1 := P.F E1.1
  have E2 := EM.no P1 t (EM.an P1).1
  exact INV.mk1 P C T Q E1.1 E2.1 E1.2 E2.2 t4
theorem zt4 {t : Int} (h1 : t = 0 ∨ t = 1 ∨ t = 2) : zI t ≠ 4 := by
  rcases h1 with e | e | e <;> rw [e] <;> decide
theorem znz {t : Int} (h1 : t = 0 ∨ t = 1 ∨ t = 2) (h2 : t ≠ 0) : ¬ (zI t = 0) := by
  rcases h1 with e | e | e
  · exact absurd e h2
  · rw [e]; decide
  · rw [e]; decide
theorem qm (P : PL h nm D) {m : Nat} (hm : m < nm) : 3 * (h.2.1 7 0 1) + (zI (m : Int)).toNatClampNeg = 3 * (h.2.1 7 0 1) + m := by
  have := P.1
  rw [zI_cn (by omega)]
theorem in3 (P : PL h nm D) {m : Nat} (hm : m < nm) : jm_in (zI (m : Int)) 3 := by
  have := P.1
  exact zI_in (by omega) (by omega) (by omega)
theorem in6 (P : PL h nm D) {m : Nat} (hm : m < nm) : jm_in (zI (m : Int)) 6 := by
  have := P.1
  exact zI_in (by omega) (by omega) (by omega)
theorem c_judge (I : INV B h) (a b : Int32) : ∃ v h1 h2, m_FR_judge a b h v h1 ∧ m_M_judge a b h1 v h2 ∧ INV B h2 := by
  obtain ⟨nm, D, P, C, T, Q⟩ := I
  obtain ⟨x, rfl, x1, x2⟩ := i32x a
  obtain ⟨g, rfl, g1, g2⟩ := i32x b
  obtain ⟨t, t1, t2, t3, t4⟩ := s_lenRef P x1 x2 g1 g2
  by_cases t0 : t = 0
  · obtain ⟨hm, g4, g96⟩ := t2.mp t0
    obtain ⟨m, hmn, rfl⟩ := mode_of hm
    have hm3 : m < 3 := by have := P.1; omega
    obtain ⟨q1, q2, q3, q4, q5, q6⟩ := P.2.2.2.2 m hmn
    obtain ⟨h1, a1, a2⟩ := s_judgement q2 q1 g4 g96
    have E1 := EF.of (cFX_T a2) 0
    have P1 := P.F E1.1
    have Ea := EM.an P1
    have Pa := P1.M Ea.1
    obtain ⟨h2, b1, b2, b3⟩ := s_judged (Pa.2.2.2.2 m hmn).2.2.1 q1 hm3 g4 g96
    have E2 := Ea.go P1 b2
    refine ⟨_, _, h2, wp_FR_judge ⟨_, h, t3, fun _ => ⟨in3 P hmn, _, h1, ?_, _, _, wp_FR_answered rfl, rfl⟩, fun hc => ?_⟩, wp_M_judge ⟨_, s_an, _, _, t4 _ Pa, fun _ => ⟨_, h2, b1, rfl⟩, fun hc => ?_⟩, INV.mk1 P C T Q E1.1 E2.1 E1.2 E2.2 (by decide)⟩
    · rw [qm P hmn]; exact a1
    · rw [t0] at hc; exact absurd rfl hc
    · rw [t0] at hc; exact absurd rfl hc
  · exact ⟨_, _, _, wp_FR_judge ⟨_, h, t3, fun hc => absurd hc (znz t1 t0), fun _ => ⟨_, _, wp_FR_refused rfl, rfl⟩⟩, wp_M_judge ⟨_, s_an, _, _, t4 _ ((P.F (EF.of (Ch.rf h) (zI t)).1).M (EM.an (P.F (EF.of (Ch.rf h) (zI t)).1)).1), fun hc => absurd hc (znz t1 t0), fun _ => ⟨_, _, wp_M_no rfl, rfl⟩⟩, ref_inv P C T Q (zt4 t1)⟩
theorem s_spreadBy (P : PL h nm D) {m : Nat} (hm : m < nm) {g : Int} (g4 : 4 ≤ g) (g96 : g ≤ 96) : ∃ h' lf sl u, m_FR_spreadBy (zI m) (zI g) h (zI (sm (md_jb (D m)) (md_c (D m)) - sm (md_jb (D m)) lf)) h' ∧ FS h' 3 (md_jb (D m)) (md_F (D m) g) (md_rm (D m) g) (md_fi (D m) g) (md_la (D m) g) (md_c (D m)) ∧ FD h' 3 (md_jb (D m)) (md_F (D m) g) lf sl u ∧ fl_ok (md_jb (D m)) (md_F (D m) g) (md_fi (D m) g) (md_la (D m) g) (md_c (D m)) (md_rm (D m) g) lf sl u ∧ fl_edf (md_jb (D m)) (md_F (D m) g) (md_fi (D m) g) (md_la (D m) g) (md_c (D m)) sl u ∧ md_ov (D m) g (sm (md_jb (D m)) lf) ∧ Ch cT h h' := by
  obtain ⟨q1, q2, q3, q4, q5, q6⟩ := P.2.2.2.2 m hm
  obtain ⟨h1, a1, a2, a3⟩ := s_layA (f := 3) q2 q1 g4 g96
  obtain ⟨h', lf, sl, u, r1, r2, r3, r4, r5⟩ := s_spread a3.1
  refine ⟨h', lf, sl, u, wp_FR_spreadBy ⟨in3 P hm, in3 P hm, h1, ?_, _, h', r1, rfl⟩, a3.1.ch r2, r3, r4, r5, edf_isOv r4 r5 a3.1.fib a3.1.lab, (cT_L a2).tr (cT_D r2)⟩
  rw [qm P hm, q2.2.1]; exact a1
theorem c_most (I : INV B h) (a b : Int32) : ∃ v h1 h2, m_FR_most a b h v h1 ∧ m_M_most a b h1 v h2 ∧ INV B h2 := by
  obtain ⟨nm, D, P, C, T, Q⟩ := I
  obtain ⟨x, rfl, x1, x2⟩ := i32x a
  obtain ⟨g, rfl, g1, g2⟩ := i32x b
  obtain ⟨t, t1, t2, t3, t4⟩ := s_lenRef P x1 x2 g1 g2
  by_cases t0 : t = 0
  · obtain ⟨hm, g4, g96⟩ := t2.mp t0
    obtain ⟨m, hmn, rfl⟩ := mode_of hm
    have hm3 : m < 3 := by have := P.1; omega
    have q1 := (P.2.2.2.2 m hmn).1
    obtain ⟨h1, lf, sl, u, a1, a2, a3, a4, a5, a6, a7⟩ := s_spreadBy P hmn g4 g96
    have E1 := EF.of (cFX_T a7) 0
    have P1 := P.F E1.1
    have Ea := EM.an P1
    have Pa := P1.M Ea.1
    obtain ⟨h3, b1, b2, b3⟩ := s_setsUpA (Pa.2.2.2.2 m hmn).2.2.1 q1 hm3 g4 g96
    obtain ⟨h4, y, y1, y2, y3, y4, y5⟩ := s_overAll b3.1
    have E2 := (Ea.go P1 b2).go P1 (cMs_48 y2)
    have ey := isOv.uq a6 y3
    refine ⟨_, _, h4, wp_FR_most ⟨_, h, t3, fun _ => ⟨_, h1, a1, _, _, wp_FR_answered rfl, rfl⟩, fun hc => ?_⟩, wp_M_most ⟨_, s_an, _, _, t4 _ Pa, fun _ => ⟨h3, b1, _, h3, s_costsOf b3.2 q1 hm3, _, h4, y1, ?_⟩, fun hc => ?_⟩, INV.mk1 P C T Q E1.1 E2.1 E1.2 E2.2 (by decide)⟩
    · rw [t0] at hc; exact absurd rfl hc
    · rw [zI_sub, ey]
    · rw [t0] at hc; exact absurd rfl hc
  · exact ⟨_, _, _, wp_FR_most ⟨_, h, t3, fun hc => absurd hc (znz t1 t0), fun _ => ⟨_, _, wp_FR_refused rfl, rfl⟩⟩, wp_M_most ⟨_, s_an, _, _, t4 _ ((P.F (EF.of (Ch.rf h) (zI t)).1).M (EM.an (P.F (EF.of (Ch.rf h) (zI t)).1)).1), fun hc => absurd hc (znz t1 t0), fun _ => ⟨_, _, wp_M_no rfl, rfl⟩⟩, ref_inv P C T Q (zt4 t1)⟩
theorem c_over (I : INV B h) (a b : Int32) : ∃ v h1 h2, m_FR_over a b h v h1 ∧ m_M_over a b h1 v h2 ∧ INV B h2 := by
  obtain ⟨nm, D, P, C, T, Q⟩ := I
  obtain ⟨x, rfl, x1, x2⟩ := i32x a
  obtain ⟨g, rfl, g1, g2⟩ := i32x b
  obtain ⟨t, t1, t2, t3, t4⟩ := s_lenRef P x1 x2 g1 g2
  by_cases t0 : t = 0
  · obtain ⟨hm, g4, g96⟩ := t2.mp t0
    obtain ⟨m, hmn, rfl⟩ := mode_of hm
    have hm3 : m < 3 := by have := P.1; omega
    have q1 := (P.2.2.2.2 m hmn).1
    obtain ⟨h1, lf, sl, u, a1, a2, a3, a4, a5, a6, a7⟩ := s_spreadBy P hmn g4 g96
    have E1 := EF.of (cFX_T a7) 0
    have P1 := P.F E1.1
    have Ea := EM.an P1
    have Pa := P1.M Ea.1
    obtain ⟨h3, b1, b2, b3⟩ := s_setsUpA (Pa.2.2.2.2 m hmn).2.2.1 q1 hm3 g4 g96
    obtain ⟨h4, y, y1, y2, y3, y4, y5⟩ := s_overAll b3.1
    have E2 := (Ea.go P1 b2).go P1 (cMs_48 y2)
    have ey := isOv.uq a6 y3
    refine ⟨_, _, h4, wp_FR_over ⟨_, h, t3, fun _ => ⟨_, h1, a1, _, h1, s_allCosts a2, _, _, wp_FR_answered rfl, rfl⟩, fun hc => ?_⟩, wp_M_over ⟨_, s_an, _, _, t4 _ Pa, fun _ => ⟨h3, b1, _, h4, y1, ?_⟩, fun hc => ?_⟩, INV.mk1 P C T Q E1.1 E2.1 E1.2 E2.2 (by decide)⟩
    · rw [t0] at hc; exact absurd rfl hc
    · rw [zI_sub, show ∀ a b : Int, a - (a - b) = b from fun a b => by omega, ey]
    · rw [t0] at hc; exact absurd rfl hc
  · exact ⟨_, _, _, wp_FR_over ⟨_, h, t3, fun hc => absurd hc (znz t1 t0), fun _ => ⟨_, _, wp_FR_refused rfl, rfl⟩⟩, wp_M_over ⟨_, s_an, _, _, t4 _ ((P.F (EF.of (Ch.rf h) (zI t)).1).M (EM.an (P.F (EF.of (Ch.rf h) (zI t)).1)).1), fun hc => absurd hc (znz t1 t0), fun _ => ⟨_, _, wp_M_no rfl, rfl⟩⟩, ref_inv P C T Q (zt4 t1)⟩
theorem c_cutFrames (I : INV B h) (a b : Int32) : ∃ v h1 h2, m_FR_cutFrames a b h v h1 ∧ m_M_cutFrames a b h1 v h2 ∧ INV B h2 := by
  obtain ⟨nm, D, P, C, T, Q⟩ := I
  obtain ⟨x, rfl, x1, x2⟩ := i32x a
  obtain ⟨g, rfl, g1, g2⟩ := i32x b
  obtain ⟨t, t1, t2, t3, t4⟩ := s_lenRef P x1 x2 g1 g2
  by_cases t0 : t = 0
  · obtain ⟨hm, g4, g96⟩ := t2.mp t0
    obtain ⟨m, hmn, rfl⟩ := mode_of hm
    have hm3 : m < 3 := by have := P.1; omega
    have q1 := (P.2.2.2.2 m hmn).1
    obtain ⟨h1, lf, sl, u, a1, a2, a3, a4, a5, a6, a7⟩ := s_spreadBy P hmn g4 g96
    obtain ⟨z, z1, z2⟩ := s_cut a2 a3 a4 a5
    have E1 := EF.of (cFX_T a7) 0
    have P1 := P.F E1.1
    have Ea := EM.an P1
    have Pa := P1.M Ea.1
    obtain ⟨h3, b1, b2, b3⟩ := s_setsUpA (Pa.2.2.2.2 m hmn).2.2.1 q1 hm3 g4 g96
    obtain ⟨h4, y, y1, y2, y3⟩ := s_cutOf b3.1
    have E2 := (Ea.go P1 b2).go P1 (cMs_48 y3)
    have ey : z = y := z2.uq y2 (fun _ _ => rfl)
    subst ey
    refine ⟨_, _, h4, wp_FR_cutFrames ⟨_, h, t3, fun _ => ⟨_, h1, a1, _, h1, z1, _, _, wp_FR_answered rfl, rfl⟩, fun hc => ?_⟩, wp_M_cutFrames ⟨_, s_an, _, _, t4 _ Pa, fun _ => ⟨h3, b1, _, h4, y1, rfl⟩, fun hc => ?_⟩, INV.mk1 P C T Q E1.1 E2.1 E1.2 E2.2 (by decide)⟩
    · rw [t0] at hc; exact absurd rfl hc
    · rw [t0] at hc; exact absurd rfl hc
  · exact ⟨_, _, _, wp_FR_cutFrames ⟨_, h, t3, fun hc => absurd hc (znz t1 t0), fun _ => ⟨_, _, wp_FR_refused rfl, rfl⟩⟩, wp_M_cutFrames ⟨_, s_an, _, _, t4 _ ((P.F (EF.of (Ch.rf h) (zI t)).1).M (EM.an (P.F (EF.of (Ch.rf h) (zI t)).1)).1), fun hc => absurd hc (znz t1 t0), fun _ => ⟨_, _, wp_M_no rfl, rfl⟩⟩, ref_inv P C T Q (zt4 t1)⟩
theorem c_cutJobs (I : INV B h) (a b : Int32) : ∃ v h1 h2, m_FR_cutJobs a b h v h1 ∧ m_M_cutJobs a b h1 v h2 ∧ INV B h2 := by
  obtain ⟨nm, D, P, C, T, Q⟩ := I
  obtain ⟨x, rfl, x1, x2⟩ := i32x a
  obtain ⟨g, rfl, g1, g2⟩ := i32x b
  obtain ⟨t, t1, t2, t3, t4⟩ := s_lenRef P x1 x2 g1 g2
  by_cases t0 : t = 0
  · obtain ⟨hm, g4, g96⟩ := t2.mp t0
    obtain ⟨m, hmn, rfl⟩ := mode_of hm
    have hm3 : m < 3 := by have := P.1; omega
    have q1 := (P.2.2.2.2 m hmn).1
    obtain ⟨h1, lf, sl, u, a1, a2, a3, a4, a5, a6, a7⟩ := s_spreadBy P hmn g4 g96
    obtain ⟨z, z1, z2⟩ := s_cut a2 a3 a4 a5
    obtain ⟨z', z3, z4⟩ := s_jobsWithin a2 z2
    have E1 := EF.of (cFX_T a7) 0
    have P1 := P.F E1.1
    have Ea := EM.an P1
    have Pa := P1.M Ea.1
    obtain ⟨h3, b1, b2, b3⟩ := s_setsUpA (Pa.2.2.2.2 m hmn).2.2.1 q1 hm3 g4 g96
    obtain ⟨h4, y, y1, y2, y3⟩ := s_cutOf b3.1
    have S4 := b3.1.ch y3
    obtain ⟨y', y4, y5⟩ := s_cutJobs_24 S4 y2 (md_jb (D m)) 0 0 (by omega) (Mk_0.cg (fun j _ => by simp))
    have E2 := (Ea.go P1 b2).go P1 (cMs_48 y3)
    have ey : z' = y' := z4.uq y5 (fun _ _ => rfl)
    subst ey
    refine ⟨_, _, h4, wp_FR_cutJobs ⟨_, h, t3, fun _ => ⟨_, h1, a1, _, h1, z1, _, h1, z3, _, _, wp_FR_answered rfl, rfl⟩, fun hc => ?_⟩, wp_M_cutJobs ⟨_, s_an, _, _, t4 _ Pa, fun _ => ⟨h3, b1, _, h4, y1, y4⟩, fun hc => ?_⟩, INV.mk1 P C T Q E1.1 E2.1 E1.2 E2.2 (by decide)⟩
    · rw [t0] at hc; exact absurd rfl hc
    · rw [t0] at hc; exact absurd rfl hc
  · exact ⟨_, _, _, wp_FR_cutJobs ⟨_, h, t3, fun hc => absurd hc (znz t1 t0), fun _ => ⟨_, _, wp_FR_refused rfl, rfl⟩⟩, wp_M_cutJobs ⟨_, s_an, _, _, t4 _ ((P.F (EF.of (Ch.rf h) (zI t)).1).M (EM.an (P.F (EF.of (Ch.rf h) (zI t)).1)).1), fun hc => absurd hc (znz t1 t0), fun _ => ⟨_, _, wp_M_no rfl, rfl⟩⟩, ref_inv P C T Q (zt4 t1)⟩
theorem PLa (P : PL h nm D) (t : Int32) : PL (hAn (jm_sI h 7 0 8 t)) nm D := (P.F (EF.of (Ch.rf h) t).1).M (EM.an (P.F (EF.of (Ch.rf h) t).1)).1
theorem c_goods (I : INV B h) (a : Int32) : ∃ v h1 h2, m_FR_goods a h v h1 ∧ m_M_goods a h1 v h2 ∧ INV B h2 := by
  obtain ⟨nm, D, P, C, T, Q⟩ := I
  obtain ⟨x, rfl, x1, x2⟩ := i32x a
  by_cases hm : 0 ≤ x ∧ x < nm
  · obtain ⟨m, hmn, rfl⟩ := mode_of hm
    have hm3 : m < 3 := by have := P.1; omega
    have q1 := (P.2.2.2.2 m hmn).1
    obtain ⟨h1, a1, a2⟩ := s_goods_12 q1 hm3 93 4 0 h (by omega) (by omega) rfl (P.2.2.2.2 m hmn).2.1
    have E1 := EF.of (cFX_T a2) 0
    have P1 := P.F E1.1
    have Ea := EM.an P1
    have Pa := P1.M Ea.1
    obtain ⟨h2, b1, b2⟩ := s_goodsM_14 q1 hm3 93 4 0 _ (by omega) (by omega) (Pa.2.2.2.2 m hmn).2.2.1
    have E2 := Ea.go P1 b2
    exact ⟨_, _, h2, wp_FR_goods ⟨_, h, s_isModeF P x1 x2, fun hc => absurd hc (nz1 hm), fun _ => a1⟩, wp_M_goods ⟨_, s_an, _, _, s_isModeM Pa x1 x2, fun hc => absurd hc (nz1 hm), fun _ => b1⟩, INV.mk1 P C T Q E1.1 E2.1 E1.2 E2.2 (by decide)⟩
  · exact ⟨_, _, _, wp_FR_goods ⟨_, h, s_isModeF P x1 x2, fun _ => ⟨_, _, wp_FR_refused rfl, rfl⟩, fun hc => absurd (nz0 hm) hc⟩, wp_M_goods ⟨_, s_an, _, _, s_isModeM (PLa P 1) x1 x2, fun _ => ⟨_, _, wp_M_no rfl, rfl⟩, fun hc => absurd (nz0 hm) hc⟩, ref_inv P C T Q (t := 1) (by decide)⟩
theorem c_good (I : INV B h) (a b : Int32) : ∃ v h1 h2, m_FR_good a b h v h1 ∧ m_M_good a b h1 v h2 ∧ INV B h2 := by
  obtain ⟨nm, D, P, C, T, Q⟩ := I
  obtain ⟨x, rfl, x1, x2⟩ := i32x a
  obtain ⟨i, rfl, i1, i2⟩ := i32x b
  by_cases hm : 0 ≤ x ∧ x < nm
  · obtain ⟨m, hmn, rfl⟩ := mode_of hm
    have hm3 : m < 3 := by have := P.1; omega
    have q1 := (P.2.2.2.2 m hmn).1
    -- the class
    obtain ⟨t, h1, et, a1, a2⟩ : ∃ (t : Int32) (h1 : jm_H), t = (if gnth (D m) 93 4 i = -1 then 1 else 0) ∧ m_FR_good (zI m) (zI i) h (zI (gnth (D m) 93 4 i)) (jm_sI h1 7 0 8 t) ∧ Ch cT h h1 := by
      by_cases i0 : 0 ≤ i
      · obtain ⟨h1, a1, a2⟩ := s_good_14 q1 hm3 93 4 i h (by omega) (by omega) i0 i2 rfl (P.2.2.2.2 m hmn).2.1
        refine ⟨_, h1, rfl, wp_FR_good ⟨_, h, s_isModeF P x1 x2, fun hc => absurd hc (nz1 hm), fun _ => ⟨fun _ => a1, fun hc => ?_⟩⟩, a2⟩
        rw [zl_0, zI_le (by omega) (by omega) (by omega) (by omega)] at hc; omega
      · have eg := gnth_neg (D m) 93 4 i (by omega)
        refine ⟨1, h, by rw [if_pos eg], wp_FR_good ⟨_, h, s_isModeF P x1 x2, fun hc => absurd hc (nz1 hm), fun _ => ⟨fun hc => ?_, fun _ => ⟨_, _, wp_FR_refused rfl, ?_⟩⟩⟩, Ch.rf h⟩
        · rw [zl_0, zI_le (by omega) (by omega) (by omega) (by omega)] at hc; omega
        · rw [eg]; rfl
    have E1 := EF.of (cFX_T a2) t
    have P1 := P.F E1.1
    have Ea := EM.an P1
    have Pa := P1.M Ea.1
    obtain ⟨h2, b1, b2⟩ := s_goodM_14 q1 hm3 i1 i2 93 4 0 _ (by omega) (by omega) (by omega) (by omega) (Pa.2.2.2.2 m hmn).2.2.1
    rw [Int.sub_zero] at b1
    have E2 := Ea.go P1 b2
    by_cases eg : gnth (D m) 93 4 i = -1
    · rw [if_pos eg] at et b1
      have E3 := EM.no P1 1 E2.1
      exact ⟨_, _, _, a1, wp_M_good ⟨_, s_an, _, _, s_isModeM Pa x1 x2, fun hc => absurd hc (nz1 hm), fun _ => b1⟩, INV.mk1 P C T Q E1.1 E3.1 (E1.2.trans et) E3.2 (by decide)⟩
    · rw [if_neg eg] at et b1
      exact ⟨_, _, _, a1, wp_M_good ⟨_, s_an, _, _, s_isModeM Pa x1 x2, fun hc => absurd hc (nz1 hm), fun _ => b1⟩, INV.mk1 P C T Q E1.1 E2.1 (E1.2.trans et) E2.2 (by decide)⟩
  · exact ⟨_, _, _, wp_FR_good ⟨_, h, s_isModeF P x1 x2, fun _ => ⟨_, _, wp_FR_refused rfl, rfl⟩, fun hc => absurd (nz0 hm) hc⟩, wp_M_good ⟨_, s_an, _, _, s_isModeM (PLa P 1) x1 x2, fun _ => ⟨_, _, wp_M_no rfl, rfl⟩, fun hc => absurd (nz0 hm) hc⟩, ref_inv P C T Q (t := 1) (by decide)⟩
theorem cT_mk {h h' : jm_H} (a : Ch (cMk 3) h h') : Ch cT h h' := a.mono (fun K i j x => by
  rcases x with x | x | x
  · exact Or.inl x
  · exact Or.inr (Or.inl x)
  · exact Or.inr (Or.inr x))
theorem gd0 {d : MD} {g : Int} (hG : ¬ gd d g) : gdI d g = 0 := by
  rcases gdI_01 d g with e | e
  · exact e
  · exact absurd (gdI_1.mp e) hG
theorem s_piecesM {m : Nat} {d : MD} {g : Int} {h : jm_H} (v : vM h m d) (w : WFm d) (hm : m < 3) (g1 : 4 ≤ g) (g2 : g ≤ 96) (G : gd d g) : ∃ h', m_M_lays (zI m) (zI g) h h' ∧ m_M_piecesThere h' (zI (tabP d g)) h' ∧ Ch cMs h h' ∧ vM h' m d := by
  obtain ⟨h', l1, l2, l3, l4, l5, l6, l7⟩ := s_lays v w hm g1 g2 G
  have hw := gd_WN w g1 g2 G
  exact ⟨h', l1, s_piecesThere l4 (TI_ub24 hw l7) hw.1.1 hw.1.2 l7.2, l6, l2.2⟩
theorem c_piecesBy (I : INV B h) (a b : Int32) : ∃ v h1 h2, m_FR_piecesBy a b h v h1 ∧ m_M_piecesBy a b h1 v h2 ∧ INV B h2 := by
  obtain ⟨nm, D, P, C, T, Q⟩ := I
  obtain ⟨x, rfl, x1, x2⟩ := i32x a
  obtain ⟨g, rfl, g1, g2⟩ := i32x b
  obtain ⟨t, t1, t2, t3, t4⟩ := s_lenRef P x1 x2 g1 g2
  by_cases t0 : t = 0
  · obtain ⟨hm, g4, g96⟩ := t2.mp t0
    obtain ⟨m, hmn, rfl⟩ := mode_of hm
    have hm3 : m < 3 := by have := P.1; omega
    obtain ⟨q1, q2, q3, q4, q5, q6⟩ := P.2.2.2.2 m hmn
    obtain ⟨h1, a1, a2, a3, a4⟩ := s_make (f := 3) q2 q1 g4 g96
    have a1' : m_Table_make 3 (3 * (h.2.1 7 0 1) + (zI (m : Int)).toNatClampNeg) (zI g) h h1 := by rw [qm P hmn]; exact a1
    by_cases hG : gd (D m) g
    · have E1 := EF.of (cFX_T (cT_mk a3)) 0
      have P1 := P.F E1.1
      have Ea := EM.an P1
      have Pa := P1.M Ea.1
      obtain ⟨h3, b1, b2, b3⟩ := s_isGoodM (Pa.2.2.2.2 m hmn).2.2.1 q1 hm3 g4 g96
      obtain ⟨h4, c1, c2, c3, c4⟩ := s_piecesM b3 q1 hm3 g4 g96 hG
      have E2 := (Ea.go P1 b2).go P1 c3
      have g1' := gdI_1.mpr hG
      refine ⟨_, _, h4, wp_FR_piecesBy ⟨_, h, t3, fun _ => ⟨in3 P hmn, h1, a1', fun hc => ?_, fun _ => ⟨_, _, wp_FR_answered rfl, rfl⟩⟩, fun hc => ?_⟩, wp_M_piecesBy ⟨_, s_an, _, _, t4 _ Pa, fun _ => ⟨_, h3, b1, fun hc => ?_, fun _ => ⟨h4, c1, _, h4, c2, ?_⟩⟩, fun hc => ?_⟩, INV.mk1 P C T Q E1.1 E2.1 E1.2 E2.2 (by decide)⟩
      · rw [a2.2.1, g1'] at hc; exact absurd hc (by decide)
      · rw [t0] at hc; exact absurd rfl hc
      · rw [g1'] at hc; exact absurd hc (by decide)
      · rw [(a2.2.2 hG).2.2.1]
      · rw [t0] at hc; exact absurd rfl hc
    · have E1 := EF.of (cFX_T (cT_mk a3)) 5
      have P1 := P.F E1.1
      have Ea := EM.an P1
      have Pa := P1.M Ea.1
      obtain ⟨h3, b1, b2, b3⟩ := s_isGoodM (Pa.2.2.2.2 m hmn).2.2.1 q1 hm3 g4 g96
      have E2 := EM.no P1 5 (Ea.go P1 b2).1
      have g0' := gd0 hG
      refine ⟨_, _, _, wp_FR_piecesBy ⟨_, h, t3, fun _ => ⟨in3 P hmn, h1, a1', fun _ => ⟨_, _, wp_FR_refused rfl, rfl⟩, fun hc => ?_⟩, fun hc => ?_⟩, wp_M_piecesBy ⟨_, s_an, _, _, t4 _ Pa, fun _ => ⟨_, h3, b1, fun _ => ⟨_, _, wp_M_no rfl, rfl⟩, fun hc => ?_⟩, fun hc => ?_⟩, INV.mk1 P C T Q E1.1 E2.1 E1.2 E2.2 (by decide)⟩
      · rw [a2.2.1, g0'] at hc; exact absurd rfl hc
      · rw [t0] at hc; exact absurd rfl hc
      · rw [g0'] at hc; exact absurd rfl hc
      · rw [t0] at hc; exact absurd rfl hc
  · exact ⟨_, _, _, wp_FR_piecesBy ⟨_, h, t3, fun hc => absurd hc (znz t1 t0), fun _ => ⟨_, _, wp_FR_refused rfl, rfl⟩⟩, wp_M_piecesBy ⟨_, s_an, _, _, t4 _ (PLa P _), fun hc => absurd hc (znz t1 t0), fun _ => ⟨_, _, wp_M_no rfl, rfl⟩⟩, ref_inv P C T Q (zt4 t1)⟩
/-- the greatest of those with the fewest pieces -/
def isFw (d : MD) (lo hi v f : Int) : Prop := (v = -2 ∧ ∀ g, lo ≤ g → g ≤ hi → ¬ gd d g) ∨ (lo ≤ v ∧ v ≤ hi ∧ gd d v ∧ f = tabP d v ∧ ∀ g, lo ≤ g → g ≤ hi → gd d g → tabP d v < tabP d g ∨ (tabP d v = tabP d g ∧ g ≤ v))
theorem isFw.uq {d : MD} {lo hi v f v' f' : Int} (h0 : 0 ≤ lo) (a : isFw d lo hi v f) (b : isFw d lo hi v' f') : v = v' := by
  rcases a with ⟨a1, a2⟩ | ⟨a1, a2, a3, a4, a5⟩
  · rcases b with ⟨b1, b2⟩ | ⟨b1, b2, b3, b4, b5⟩
    · omega
    · exact absurd b3 (a2 v' b1 b2)
  · rcases b with ⟨b1, b2⟩ | ⟨b1, b2, b3, b4, b5⟩
    · exact absurd a3 (b2 v a1 a2)
    · have h1 := a5 v' b1 b2 b3
      have h2 := b5 v a1 a2 a3
      omega
theorem tabP_b {d : MD} {g : Int} (w : WFm d) (g1 : 4 ≤ g) (g2 : g ≤ 96) : 0 ≤ tabP d g ∧ tabP d g ≤ 576 := by
  have h1 := pcs_le (md_jb d) (md_F d g) (tabS d g).2.2
  have h2 := (md_bd w g1 g2).1
  have h3 : (md_F d g : Int) * (md_jb d : Int) ≤ 24 * 24 := Int.mul_le_mul (by omega) (by have := w.2.2.2.2.1; omega) (by omega) (by omega)
  unfold tabP
  omega
theorem s_few_14 {m p : Nat} {d : MD} (w : WFm d) (hm : m < 3) : ∀ (e : Nat) (g v f : Int) (h : jm_H), g + e = 97 → 4 ≤ g → h.2.1 7 0 1 = p → vF h (3 * p + m) d → isFw d 4 (g - 1) v f → (0 ≤ f ∧ f ≤ 576) → -2 ≤ v → v ≤ 96 → ∃ h' v' f', l_FR_fewestBy_14 (zI m) (zI v) (zI f) (zI g) h (some (jm_i (zI v')), jm_sI h' 7 0 8 0) ∧ isFw d 4 96 v' f' ∧ Ch cT h h' := by
  intro e
  induction e with
  | zero =>
    intro g v f h eg g4 hp vv hf fb v0 v1
    refine ⟨h, v, f, wp_FR_fewestBy_14 ⟨fun _ => ⟨_, _, wp_FR_answered rfl, rfl⟩, fun hc => ?_⟩, by rw [show (96 : Int) = g - 1 by omega]; exact hf, Ch.rf h⟩
    rw [zl_96, zI_lt (by omega) (by omega) (by omega) (by omega)] at hc; omega
  | succ e ih =>
    intro g v f h eg g4 hp vv hf fb v0 v1
    have g96 : g ≤ 96 := by omega
    have hr := s_inRound vv w g4 g96
    have i3 : jm_in (zI (m : Int)) 3 := zI_in (by omega) (by omega) (by omega)
    have eq3 : 3 * (h.2.1 7 0 1) + (zI (m : Int)).toNatClampNeg = 3 * p + m := by rw [zI_cn (by omega), hp]
    have hno : ¬ ((96 : Int32) < zI g) := by rw [zl_96, zI_lt (by omega) (by omega) (by omega) (by omega)]; omega
    have e1 : zI g + 1 = zI (g + 1) := by rw [zl_1, zI_add]
    have bad : ¬ gd d g → isFw d 4 (g + 1 - 1) v f := fun hb => by
      rcases hf with ⟨f1, f2⟩ | ⟨f1, f2, f3, f4, f5⟩
      · exact Or.inl ⟨f1, fun x x1 x2 => by
          by_cases ex : x = g
          · rw [ex]; exact hb
          · exact f2 x x1 (by omega)⟩
      · exact Or.inr ⟨f1, by omega, f3, f4, fun x x1 x2 hx => by
          by_cases ex : x = g
          · rw [ex] at hx; exact absurd hx hb
          · exact f5 x x1 (by omega) hx⟩
    by_cases r0 : md_rd d % g = 0
    · obtain ⟨h1, a1, a2, a3, a4⟩ := s_make (f := 3) vv w g4 g96
      have c1 := cT_mk a3
      have hp1 : h1.2.1 7 0 1 = p := by rw [c1.2]; exact hp
      have tb := tabP_b w g4 g96
      have step : ∀ v2 f2 : Int, isFw d 4 (g + 1 - 1) v2 f2 → (0 ≤ f2 ∧ f2 ≤ 576) → -2 ≤ v2 → v2 ≤ 96 → ((h1.1 6 3 1 = 0 → v2 = v ∧ f2 = f) ∧ (¬ h1.1 6 3 1 = 0 → (v = -2 → v2 = g ∧ f2 = tabP d g) ∧ (¬ v = -2 → (f < tabP d g → v2 = v ∧ f2 = f) ∧ (¬ f < tabP d g → v2 = g ∧ f2 = tabP d g)))) → ∃ h' v' f', l_FR_fewestBy_14 (zI m) (zI v) (zI f) (zI g) h (some (jm_i (zI v')), jm_sI h' 7 0 8 0) ∧ isFw d 4 96 v' f' ∧ Ch cT h h' := by
        intro v2 f2 hf2 fb2 v20 v21 hsel
        obtain ⟨h', v', f', r1, r2, r3⟩ := ih (g + 1) v2 f2 h1 (by omega) (by omega) hp1 (vv.cT c1) hf2 fb2 v20 v21
        refine ⟨h', v', f', wp_FR_fewestBy_14 ⟨fun hc => absurd hc hno, fun _ => ⟨i3, _, h, by rw [eq3]; exact hr, fun hc => ?_, fun _ => ⟨i3, h1, by rw [eq3]; exact a1, fun hc => ?_, fun hc => ⟨fun hc2 => ?_, fun hc2 => ⟨fun hc3 => ?_, fun hc3 => ?_⟩⟩⟩⟩⟩, r2, c1.tr r3⟩
        · rw [if_pos r0] at hc; exact absurd hc (by decide)
        · obtain ⟨s1, s2⟩ := hsel.1 hc
          rw [e1, ← s1, ← s2]; exact r1
        · rw [zl_m2, zI_eq (by omega) (by omega) (by omega) (by omega)] at hc2
          obtain ⟨s1, s2⟩ := (hsel.2 hc).1 hc2
          have hG : gd d g := by
            refine Classical.byContradiction (fun hn => hc ?_)
            rw [a2.2.1, gd0 hn]; rfl
          rw [e1, (a2.2.2 hG).2.2.1, ← s2]
          rw [s1] at r1
          exact r1
        · rw [zl_m2, zI_eq (by omega) (by omega) (by omega) (by omega)] at hc2
          have hG : gd d g := by
            refine Classical.byContradiction (fun hn => hc ?_)
            rw [a2.2.1, gd0 hn]; rfl
          rw [(a2.2.2 hG).2.2.1, zI_lt (by omega) (by omega) (by omega) (by omega)] at hc3
          obtain ⟨s1, s2⟩ := ((hsel.2 hc).2 hc2).1 hc3
          rw [e1, ← s1, ← s2]; exact r1
        · rw [zl_m2, zI_eq (by omega) (by omega) (by omega) (by omega)] at hc2
          have hG : gd d g := by
            refine Classical.byContradiction (fun hn => hc ?_)
            rw [a2.2.1, gd0 hn]; rfl
          rw [(a2.2.2 hG).2.2.1, zI_lt (by omega) (by omega) (by omega) (by omega)] at hc3
          obtain ⟨s1, s2⟩ := ((hsel.2 hc).2 hc2).2 hc3
          rw [e1, (a2.2.2 hG).2.2.1, ← s2]
          rw [s1] at r1
          exact r1
      by_cases hG : gd d g
      · have hmk : ¬ h1.1 6 3 1 = 0 := by rw [a2.2.1, gdI_1.mpr hG]; decide
        by_cases ev : v = -2
        · refine step g (tabP d g) (Or.inr ⟨g4, by omega, hG, rfl, fun x x1 x2 hx => ?_⟩) tb (by omega) (by omega) ⟨fun hc => absurd hc hmk, fun _ => ⟨fun _ => ⟨rfl, rfl⟩, fun hc => absurd ev hc⟩⟩
          by_cases ex : x = g
          · exact Or.inr ⟨by rw [ex], by omega⟩
          · rcases hf with ⟨f1, f2⟩ | ⟨f1, f2, f3, f4, f5⟩
            · exact absurd hx (f2 x x1 (by omega))
            · omega
        · rcases hf with ⟨f1, f2⟩ | ⟨f1, f2, f3, f4, f5⟩
          · exact absurd f1 ev
          · by_cases hlt : f < tabP d g
            · refine step v f (Or.inr ⟨f1, by omega, f3, f4, fun x x1 x2 hx => ?_⟩) fb v0 v1 ⟨fun hc => absurd hc hmk, fun _ => ⟨fun hc => absurd hc ev, fun _ => ⟨fun _ => ⟨rfl, rfl⟩, fun hc => absurd hlt hc⟩⟩⟩
              by_cases ex : x = g
              · rw [ex]; exact Or.inl (by omega)
              · exact f5 x x1 (by omega) hx
            · refine step g (tabP d g) (Or.inr ⟨g4, by omega, hG, rfl, fun x x1 x2 hx => ?_⟩) tb (by omega) (by omega) ⟨fun hc => absurd hc hmk, fun _ => ⟨fun hc => absurd hc ev, fun _ => ⟨fun hc => absurd hc hlt, fun _ => ⟨rfl, rfl⟩⟩⟩⟩
              by_cases ex : x = g
              · exact Or.inr ⟨by rw [ex], by omega⟩
              · have := f5 x x1 (by omega) hx
                omega
      · have hmk : h1.1 6 3 1 = 0 := by rw [a2.2.1, gd0 hG]; rfl
        exact step v f (bad hG) fb v0 v1 ⟨fun _ => ⟨rfl, rfl⟩, fun hc => absurd hmk hc⟩
    · have hb : ¬ gd d g := fun x => r0 x.1
      obtain ⟨h', v', f', r1, r2, r3⟩ := ih (g + 1) v f h (by omega) (by omega) hp vv (bad hb) fb v0 v1
      refine ⟨h', v', f', wp_FR_fewestBy_14 ⟨fun hc => absurd hc hno, fun _ => ⟨i3, _, h, by rw [eq3]; exact hr, fun _ => ?_, fun hc => ?_⟩⟩, r2, r3⟩
      · rw [e1]; exact r1
      · rw [if_neg r0] at hc; exact absurd rfl hc
theorem s_fewM_16 {m : Nat} {d : MD} (w : WFm d) (hm : m < 3) : ∀ (e : Nat) (g v f : Int) (h : jm_H), g = 3 + e → g ≤ 96 → vM h m d → isFw d (g + 1) 96 v f → (0 ≤ f ∧ f ≤ 576) → -2 ≤ v → v ≤ 96 → ∃ h' v' f', l_M_fewestBy_16 (zI m) (zI v) (zI f) (zI g) h (some (jm_i (zI v')), h') ∧ isFw d 4 96 v' f' ∧ Ch cMs h h' := by
  intro e
  induction e with
  | zero =>
    intro g v f h eg g4 vv hf fb v0 v1
    refine ⟨h, v, f, wp_M_fewestBy_16 ⟨fun _ => rfl, fun hc => ?_⟩, by rw [show (4 : Int) = g + 1 by omega]; exact hf, Ch.rf h⟩
    rw [zl_4, zI_lt (by omega) (by omega) (by omega) (by omega)] at hc; omega
  | succ e ih =>
    intro g v f h eg g96 vv hf fb v0 v1
    have g4 : 4 ≤ g := by omega
    obtain ⟨h1, a1, a2, a3⟩ := s_isGoodM vv w hm g4 g96
    have hno : ¬ (zI g < (4 : Int32)) := by rw [zl_4, zI_lt (by omega) (by omega) (by omega) (by omega)]; omega
    have e1 : zI g + (-1) = zI (g - 1) := by rw [zl_m1, zI_add]; rfl
    by_cases hG : gd d g
    · obtain ⟨h2, b1, b2, b3, b4⟩ := s_piecesM a3 w hm g4 g96 hG
      have tb := tabP_b w g4 g96
      have g1' := gdI_1.mpr hG
      have step : ∀ v2 f2 : Int, isFw d (g - 1 + 1) 96 v2 f2 → (0 ≤ f2 ∧ f2 ≤ 576) → -2 ≤ v2 → v2 ≤ 96 → ((v = -2 → v2 = g ∧ f2 = tabP d g) ∧ (¬ v = -2 → (f ≤ tabP d g → v2 = v ∧ f2 = f) ∧ (¬ f ≤ tabP d g → v2 = g ∧ f2 = tabP d g))) → ∃ h' v' f', l_M_fewestBy_16 (zI m) (zI v) (zI f) (zI g) h (some (jm_i (zI v')), h') ∧ isFw d 4 96 v' f' ∧ Ch cMs h h' := by
        intro v2 f2 hf2 fb2 v20 v21 hsel
        obtain ⟨h', v', f', r1, r2, r3⟩ := ih (g - 1) v2 f2 h2 (by omega) (by omega) b4 hf2 fb2 v20 v21
        refine ⟨h', v', f', wp_M_fewestBy_16 ⟨fun hc => absurd hc hno, fun _ => ⟨_, h1, a1, fun hc => ?_, fun _ => ⟨h2, b1, _, h2, b2, fun hc2 => ?_, fun hc2 => ⟨fun hc3 => ?_, fun hc3 => ?_⟩⟩⟩⟩, r2, (a2.tr b3).tr r3⟩
        · rw [g1'] at hc; exact absurd hc (by decide)
        · rw [zl_m2, zI_eq (by omega) (by omega) (by omega) (by omega)] at hc2
          obtain ⟨s1, s2⟩ := hsel.1 hc2
          rw [e1, ← s2]
          rw [s1] at r1
          exact r1
        · rw [zl_m2, zI_eq (by omega) (by omega) (by omega) (by omega)] at hc2
          rw [zI_le (by omega) (by omega) (by omega) (by omega)] at hc3
          obtain ⟨s1, s2⟩ := (hsel.2 hc2).1 hc3
          rw [e1, ← s1, ← s2]; exact r1
        · rw [zl_m2, zI_eq (by omega) (by omega) (by omega) (by omega)] at hc2
          rw [zI_le (by omega) (by omega) (by omega) (by omega)] at hc3
          obtain ⟨s1, s2⟩ := (hsel.2 hc2).2 hc3
          rw [e1, ← s2]
          rw [s1] at r1
          exact r1
      by_cases ev : v = -2
      · refine step g (tabP d g) (Or.inr ⟨by omega, g96, hG, rfl, fun x x1 x2 hx => ?_⟩) tb (by omega) (by omega) ⟨fun _ => ⟨rfl, rfl⟩, fun hc => absurd ev hc⟩
        by_cases ex : x = g
        · exact Or.inr ⟨by rw [ex], by omega⟩
        · rcases hf with ⟨f1, f2⟩ | ⟨f1, f2, f3, f4, f5⟩
          · exact absurd hx (f2 x (by omega) x2)
          · omega
      · rcases hf with ⟨f1, f2⟩ | ⟨f1, f2, f3, f4, f5⟩
        · exact absurd f1 ev
        · by_cases hle : f ≤ tabP d g
          · refine step v f (Or.inr ⟨by omega, f2, f3, f4, fun x x1 x2 hx => ?_⟩) fb v0 v1 ⟨fun hc => absurd hc ev, fun _ => ⟨fun _ => ⟨rfl, rfl⟩, fun hc => absurd hle hc⟩⟩
            by_cases ex : x = g
            · rw [ex]
              by_cases e5 : tabP d v = tabP d g
              · exact Or.inr ⟨e5, by omega⟩
              · exact Or.inl (by omega)
            · exact f5 x (by omega) x2 hx
          · refine step g (tabP d g) (Or.inr ⟨by omega, g96, hG, rfl, fun x x1 x2 hx => ?_⟩) tb (by omega) (by omega) ⟨fun hc => absurd hc ev, fun _ => ⟨fun hc => absurd hc hle, fun _ => ⟨rfl, rfl⟩⟩⟩
            by_cases ex : x = g
            · exact Or.inr ⟨by rw [ex], by omega⟩
            · have := f5 x (by omega) x2 hx
              omega
    · have g0' := gd0 hG
      have bad : isFw d (g - 1 + 1) 96 v f := by
        rcases hf with ⟨f1, f2⟩ | ⟨f1, f2, f3, f4, f5⟩
        · exact Or.inl ⟨f1, fun x x1 x2 => by
            by_cases ex : x = g
            · rw [ex]; exact hG
            · exact f2 x (by omega) x2⟩
        · exact Or.inr ⟨by omega, f2, f3, f4, fun x x1 x2 hx => by
            by_cases ex : x = g
            · rw [ex] at hx; exact absurd hx hG
            · exact f5 x (by omega) x2 hx⟩
      obtain ⟨h', v', f', r1, r2, r3⟩ := ih (g - 1) v f h1 (by omega) (by omega) a3 bad fb v0 v1
      refine ⟨h', v', f', wp_M_fewestBy_16 ⟨fun hc => absurd hc hno, fun _ => ⟨_, h1, a1, fun _ => ?_, fun hc => ?_⟩⟩, r2, a2.tr r3⟩
      · rw [e1]; exact r1
      · rw [g0'] at hc; exact absurd rfl hc
theorem c_fewestBy (I : INV B h) (a : Int32) : ∃ v h1 h2, m_FR_fewestBy a h v h1 ∧ m_M_fewestBy a h1 v h2 ∧ INV B h2 := by
  obtain ⟨nm, D, P, C, T, Q⟩ := I
  obtain ⟨x, rfl, x1, x2⟩ := i32x a
  by_cases hm : 0 ≤ x ∧ x < nm
  · obtain ⟨m, hmn, rfl⟩ := mode_of hm
    have hm3 : m < 3 := by have := P.1; omega
    have q1 := (P.2.2.2.2 m hmn).1
    obtain ⟨h1, v, f, a1, a2, a3⟩ := s_few_14 q1 hm3 93 4 (-2) 0 h (by omega) (by omega) rfl (P.2.2.2.2 m hmn).2.1 (Or.inl ⟨rfl, fun g g1 g2 => by omega⟩) (by omega) (by omega) (by omega)
    have E1 := EF.of (cFX_T a3) 0
    have P1 := P.F E1.1
    have Ea := EM.an P1
    have Pa := P1.M Ea.1
    obtain ⟨h2, v', f', b1, b2, b3⟩ := s_fewM_16 q1 hm3 93 96 (-2) 0 _ (by omega) (by omega) (Pa.2.2.2.2 m hmn).2.2.1 (Or.inl ⟨rfl, fun g g1 g2 => by omega⟩) (by omega) (by omega) (by omega)
    have E2 := Ea.go P1 b3
    have ev := isFw.uq (by omega) a2 b2
    subst ev
    exact ⟨_, _, h2, wp_FR_fewestBy ⟨_, h, s_isModeF P x1 x2, fun hc => absurd hc (nz1 hm), fun _ => a1⟩, wp_M_fewestBy ⟨_, s_an, _, _, s_isModeM Pa x1 x2, fun hc => absurd hc (nz1 hm), fun _ => b1⟩, INV.mk1 P C T Q E1.1 E2.1 E1.2 E2.2 (by decide)⟩
  · exact ⟨_, _, _, wp_FR_fewestBy ⟨_, h, s_isModeF P x1 x2, fun _ => ⟨_, _, wp_FR_refused rfl, rfl⟩, fun hc => absurd (nz0 hm) hc⟩, wp_M_fewestBy ⟨_, s_an, _, _, s_isModeM (PLa P 1) x1 x2, fun _ => ⟨_, _, wp_M_no rfl, rfl⟩, fun hc => absurd (nz0 hm) hc⟩, ref_inv P C T Q (t := 1) (by decide)⟩
theorem c_reserveUpTo (I : INV B h) (a : Int32) : ∃ v h1 h2, m_FR_reserveUpTo a h v h1 ∧ m_M_reserveUpTo a h1 v h2 ∧ INV B h2 := by
  obtain ⟨nm, D, P, C, T, Q⟩ := I
  obtain ⟨x, rfl, x1, x2⟩ := i32x a
  by_cases hm : 0 ≤ x ∧ x < nm
  · obtain ⟨m, hmn, rfl⟩ := mode_of hm
    have hm3 : m < 3 := by have := P.1; omega
    obtain ⟨q1, q2, q3, q4, q5, q6⟩ := P.2.2.2.2 m hmn
    have w1 := q1.1
    -- the class
    obtain ⟨v, h1, a1, a2, a3⟩ : ∃ v h1, m_FR_reserveUpTo (zI m) h (zI v) (jm_sI h1 7 0 8 0) ∧ isMx (rvP (D m) (md_fr (D m))) (md_fr (D m) - 1) v ∧ Ch cT h h1 := by
      obtain ⟨h0, b, b1, b2, b3, b4⟩ := s_fwr q2 q1 (x := 0) (by omega) (by omega)
      have b1' : m_FR_fitsWithReserve (3 * (h.2.1 7 0 1) + (zI (m : Int)).toNatClampNeg) 0 h (zI b) h0 := by rw [qm P hmn]; exact b1
      rcases b2 with e | e
      · refine ⟨-2, h0, wp_FR_reserveUpTo ⟨_, h, s_isModeF P x1 x2, fun hc => absurd hc (nz1 hm), fun _ => ⟨in3 P hmn, _, h0, b1', fun _ => ⟨_, _, wp_FR_answered rfl, rfl⟩, fun hc => ?_⟩⟩, Or.inl ⟨rfl, fun y => by have := b3.mpr y; omega⟩, b4⟩
        rw [e] at hc; exact absurd rfl hc
      · obtain ⟨h1, v, r1, r2, r3⟩ := s_resv_27 q1 6 0 h0 (by omega) (q2.cT b4) (by omega) (by omega) (b3.mp e) (fun x x1 x2 => by rw [show ub2 6 = 64 from rfl] at x1; omega)
        refine ⟨v, h1, wp_FR_reserveUpTo ⟨_, h, s_isModeF P x1 x2, fun hc => absurd hc (nz1 hm), fun _ => ⟨in3 P hmn, _, h0, b1', fun hc => ?_, fun _ => ?_⟩⟩, r2, b4.tr r3⟩
        · rw [e] at hc; exact absurd hc (by decide)
        · rw [qm P hmn]; exact r1
    have E1 := EF.of (cFX_T a3) 0
    have P1 := P.F E1.1
    have Ea := EM.an P1
    have Pa := P1.M Ea.1
    have va := (Pa.2.2.2.2 m hmn).2.2.1
    obtain ⟨h3, b1, b2, b3⟩ := s_setsUpA va q1 hm3 (g := md_fr (D m)) (by omega) (by omega)
    obtain ⟨h4, v', c1, c2, c3⟩ := s_resvM_24 (m := m) q1 hm3 (md_fr (D m)).toNat h3 _ (by omega) b3.1 b3.2 (fun y y1 y2 => by omega)
    have E2 := (Ea.go P1 b2).go P1 c3
    have ev := isMx.uq (rvP_anti q1) a2 c2
    subst ev
    refine ⟨_, _, h4, a1, wp_M_reserveUpTo ⟨_, s_an, _, _, s_isModeM Pa x1 x2, fun hc => absurd hc (nz1 hm), fun _ => ⟨in6 P hmn, h3, ?_, in6 P hmn, ?_⟩⟩, INV.mk1 P C T Q E1.1 E2.1 E1.2 E2.2 (by decide)⟩
    · rw [zI_cn (by omega), va.1]; exact b1
    · rw [zI_cn (by omega), b3.2.1, zl_1, zI_sub]
      rw [show (((md_fr (D m)).toNat : Nat) : Int) = md_fr (D m) by omega] at c1
      exact c1
  · exact ⟨_, _, _, wp_FR_reserveUpTo ⟨_, h, s_isModeF P x1 x2, fun _ => ⟨_, _, wp_FR_refused rfl, rfl⟩, fun hc => absurd (nz0 hm) hc⟩, wp_M_reserveUpTo ⟨_, s_an, _, _, s_isModeM (PLa P 1) x1 x2, fun _ => ⟨_, _, wp_M_no rfl, rfl⟩, fun hc => absurd (nz0 hm) hc⟩, ref_inv P C T Q (t := 1) (by decide)⟩
end CALLS
