/-! ===== calls about modes and tables ===== -/
section CALLT
variable {B : Int} {h : jm_H} {nm : Nat} {D : Nat → MD}
/-- both answer, the reference having laid -/
theorem ans_inv (P : PL h nm D) (C : CKI h nm D B) (T : TT h) (Q : TP h) {h0 h2 : jm_H} {t : Int32} (a : Ch cFX h h0) (b : MX nm D (hAn (jm_sI h0 7 0 8 t)) h2) (e : h2.1 8 0 1 = t) (t4 : t ≠ 4) : INV B h2 := by
  have E1 := EF.of a t
  have P1 := P.F E1.1
  exact INV.mk1 P C T Q E1.1 ((EM.an P1).1.tr b) E1.2 e t4
theorem PLb (P : PL h nm D) {h0 : jm_H} (a : Ch cFX h h0) (t : Int32) : PL (hAn (jm_sI h0 7 0 8 t)) nm D := (P.F (EF.of a t).1).M (EM.an (P.F (EF.of a t).1)).1
theorem no_inv (P : PL h nm D) (C : CKI h nm D B) (T : TT h) (Q : TP h) {h0 h2 : jm_H} {t : Int32} (a : Ch cFX h h0) (b : MX nm D (hAn (jm_sI h0 7 0 8 t)) h2) (t4 : t ≠ 4) : INV B (jm_sI h2 8 0 1 t) := by
  have E1 := EF.of a t
  have P1 := P.F E1.1
  have E3 := EM.no P1 t ((EM.an P1).1.tr b)
  exact INV.mk1 P C T Q E1.1 E3.1 E1.2 E3.2 t4
theorem gT4 (d : MD) : gT d ≠ 4 := by
  unfold gT
  split <;> decide
theorem gTz {d : MD} (hG : ¬ gdm d) : ¬ gT d = 0 := by rw [gT_n hG]; decide
theorem PL.m3 (P : PL h nm D) {m : Nat} (hm : m < nm) : m < 3 := by have := P.1; omega
theorem c_hasTable (I : INV B h) (a : Int32) : ∃ v h1 h2, m_FR_hasTable a h v h1 ∧ m_M_hasTable a h1 v h2 ∧ INV B h2 := by
  obtain ⟨nm, D, P, C, T, Q⟩ := I
  obtain ⟨x, rfl, x1, x2⟩ := i32x a
  by_cases hm : 0 ≤ x ∧ x < nm
  · obtain ⟨m, hmn, rfl⟩ := mode_of hm
    obtain ⟨q1, q2, q3, q4, q5, q6⟩ := P.2.2.2.2 m hmn
    have Pa := PLb P (Ch.rf h) 0
    obtain ⟨h2, b1, b2, b3, b4⟩ := s_laidX Pa hmn
    by_cases hG : gdm (D m)
    · have g1 : gdI (D m) (md_fr (D m)) = 1 := gdI_1.mpr hG
      rw [g1] at b1
      refine ⟨_, _, h2, wp_FR_hasTable ⟨_, h, s_isModeF P x1 x2, fun hc => absurd hc (nz1 hm), fun _ => ⟨in3 P hmn, fun hc => ?_, fun _ => ⟨_, _, wp_FR_answered rfl, rfl⟩⟩⟩, wp_M_hasTable ⟨_, s_an, _, _, s_isModeM Pa x1 x2, fun hc => absurd hc (nz1 hm), fun _ => ⟨_, h2, b1, fun hc => absurd hc (by decide), fun _ => rfl⟩⟩, ans_inv P C T Q (Ch.rf h) b2 (b4.trans (hAn_t _)) (by decide)⟩
      rw [tq P hmn, q4.2.1, g1] at hc; exact absurd hc (by decide)
    · have g0 : gdI (D m) (md_fr (D m)) = 0 := gd0 hG
      rw [g0] at b1
      refine ⟨_, _, h2, wp_FR_hasTable ⟨_, h, s_isModeF P x1 x2, fun hc => absurd hc (nz1 hm), fun _ => ⟨in3 P hmn, fun _ => ⟨_, _, wp_FR_answered rfl, rfl⟩, fun hc => ?_⟩⟩, wp_M_hasTable ⟨_, s_an, _, _, s_isModeM Pa x1 x2, fun hc => absurd hc (nz1 hm), fun _ => ⟨_, h2, b1, fun _ => rfl, fun hc => absurd rfl hc⟩⟩, ans_inv P C T Q (Ch.rf h) b2 (b4.trans (hAn_t _)) (by decide)⟩
      rw [tq P hmn, q4.2.1, g0] at hc; exact absurd rfl hc
  · exact ⟨_, _, _, wp_FR_hasTable ⟨_, h, s_isModeF P x1 x2, fun _ => ⟨_, _, wp_FR_refused rfl, rfl⟩, fun hc => absurd (nz0 hm) hc⟩, wp_M_hasTable ⟨_, s_an, _, _, s_isModeM (PLa P 1) x1 x2, fun _ => ⟨_, _, wp_M_no rfl, rfl⟩, fun hc => absurd (nz0 hm) hc⟩, ref_inv P C T Q (t := 1) (by decide)⟩
theorem s_pc_19 {m : Nat} {d : MD} (t : MTb h m d) (hm : m < 3) (ub : ∀ j k, j < 24 → k < 24 → 0 ≤ mU d j k ∧ mU d j k ≤ 100) : ∀ (e n : Nat) (s : Int), n + e = 576 → l_M_pieces_19 (zI m) (zI s) (zI n) h (some (jm_i (zI (s + (sm 576 (fun i => if 0 < mU d (i / 24) (i % 24) then 1 else 0) - sm n (fun i => if 0 < mU d (i / 24) (i % 24) then 1 else 0))))), h) := by
  intro e
  induction e with
  | zero =>
    intro n s en
    refine wp_M_pieces_19 ⟨fun _ => ?_, fun hc => ?_⟩
    · rw [show n = 576 by omega, Int.sub_self, Int.add_zero]
    · rw [zl_576, zI_le (by omega) (by omega) (by omega) (by omega)] at hc; omega
  | succ e ih =>
    intro n s en
    have b := ub (n / 24) (n % 24) (by omega) (by omega)
    have e5 : (576 * zI (m : Int)) + zI (n : Int) = zI ((576 * m + n : Nat) : Int) := by rw [zl_576, zI_mul, zI_add]; congr 1
    have eu : h.1 53 0 ((576 * zI (m : Int)) + zI (n : Int)).toNatClampNeg = zI (mU d (n / 24) (n % 24)) := by
      rw [e5, zI_cn (by omega)]
      have := t.1 (n / 24) (n % 24) (by omega) (by omega)
      rwa [show 24 * (n / 24) + n % 24 = n by omega] at this
    have g := ih (n + 1) (s + (if 0 < mU d (n / 24) (n % 24) then 1 else 0)) (by omega)
    rw [sm_s n, show ∀ x y z : Int, s + x + (y - (z + x)) = s + (y - z) from fun x y z => by omega] at g
    refine wp_M_pieces_19 ⟨fun hc => ?_, fun _ => ⟨by rw [e5]; exact zI_in (by omega) (by omega) (by omega), fun hc => ?_, fun hc => ?_⟩⟩
    · rw [zl_576, zI_le (by omega) (by omega) (by omega) (by omega)] at hc; omega
    · rw [eu, zl_0, zI_le (by omega) (by omega) (by omega) (by omega)] at hc
      rw [if_neg (by omega)] at g
      rw [zl_0, zl_1, zI_add, zI_add]; exact g
    · rw [eu, zl_0, zI_le (by omega) (by omega) (by omega) (by omega)] at hc
      rw [if_pos (by omega)] at g
      rw [zl_1, zI_add, zI_add]; exact g
theorem c_pieces (I : INV B h) (a : Int32) : ∃ v h1 h2, m_FR_pieces a h v h1 ∧ m_M_pieces a h1 v h2 ∧ INV B h2 := by
  obtain ⟨nm, D, P, C, T, Q⟩ := I
  obtain ⟨x, rfl, x1, x2⟩ := i32x a
  by_cases hm : 0 ≤ x ∧ x < nm
  · obtain ⟨m, hmn, rfl⟩ := mode_of hm
    obtain ⟨q1, q2, q3, q4, q5, q6⟩ := P.2.2.2.2 m hmn
    have hF := s_isModeF P x1 x2
    rw [if_pos hm] at hF
    by_cases hG : gdm (D m)
    · have Pa := PLb P (Ch.rf h) 0
      have hMo := s_isModeM Pa x1 x2
      rw [if_pos hm] at hMo
      obtain ⟨h2, b1, b2, b3, b4⟩ := s_tabWhy1 Pa hmn
      have w1 := q1.1
      have hw := gd_WN q1 (g := md_fr (D m)) (by omega) (by omega) hG
      have pc := s_pc_19 (b3 hG).2.2 (P.m3 hmn) (fun j k hj hk => mU_b q1 hG (q6 hG) j k hj hk) 576 0 0 (by omega)
      rw [sm_0, Int.sub_zero, Int.zero_add] at pc
      have epc : sm 576 (fun i => if 0 < mU (D m) (i / 24) (i % 24) then 1 else 0) = tabP (D m) (md_fr (D m)) := pcs_576 hw.1.1 hw.1.2 (q6 hG).2
      rw [epc] at pc
      refine ⟨_, _, h2, wp_FR_pieces ⟨_, h, hF, _, h, s_tabRef1 P hmn, fun _ => ⟨in3 P hmn, _, _, wp_FR_answered rfl, rfl⟩, fun hc => absurd (gT_y hG) hc⟩, wp_M_pieces ⟨_, s_an, _, _, hMo, _, h2, b1, fun _ => ?_, fun hc => absurd (gT_y hG) hc⟩, ans_inv P C T Q (Ch.rf h) b2 (b4.trans (hAn_t _)) (by decide)⟩
      rw [tq P hmn, (q4.2.2 hG).2.2.1]; exact pc
    · have Pa := PLb P (Ch.rf h) (gT (D m))
      have hMo := s_isModeM Pa x1 x2
      rw [if_pos hm] at hMo
      obtain ⟨h2, b1, b2, b3, b4⟩ := s_tabWhy1 Pa hmn
      exact ⟨_, _, _, wp_FR_pieces ⟨_, h, hF, _, h, s_tabRef1 P hmn, fun hc => absurd hc (gTz hG), fun _ => ⟨_, _, wp_FR_refused rfl, rfl⟩⟩, wp_M_pieces ⟨_, s_an, _, _, hMo, _, h2, b1, fun hc => absurd hc (gTz hG), fun _ => ⟨_, _, wp_M_no rfl, rfl⟩⟩, no_inv P C T Q (Ch.rf h) b2 (gT4 _)⟩
  · have hF := s_isModeF P x1 x2
    have hMo := s_isModeM (PLa P 1) x1 x2
    rw [if_neg hm] at hF hMo
    exact ⟨_, _, _, wp_FR_pieces ⟨_, h, hF, _, h, s_tabRef0 P x1 x2, fun hc => absurd hc (by decide), fun _ => ⟨_, _, wp_FR_refused rfl, rfl⟩⟩, wp_M_pieces ⟨_, s_an, _, _, hMo, _, _, s_tabWhy0, fun hc => absurd hc (by decide), fun _ => ⟨_, _, wp_M_no rfl, rfl⟩⟩, ref_inv P C T Q (t := 1) (by decide)⟩
theorem c_swaps (I : INV B h) (a : Int32) : ∃ v h1 h2, m_FR_swaps a h v h1 ∧ m_M_swaps a h1 v h2 ∧ INV B h2 := by
  obtain ⟨nm, D, P, C, T, Q⟩ := I
  obtain ⟨x, rfl, x1, x2⟩ := i32x a
  by_cases hm : 0 ≤ x ∧ x < nm
  · obtain ⟨m, hmn, rfl⟩ := mode_of hm
    obtain ⟨q1, q2, q3, q4, q5, q6⟩ := P.2.2.2.2 m hmn
    have hF := s_isModeF P x1 x2
    rw [if_pos hm] at hF
    by_cases hG : gdm (D m)
    · have Pa := PLb P (Ch.rf h) 0
      have hMo := s_isModeM Pa x1 x2
      rw [if_pos hm] at hMo
      obtain ⟨h2, b1, b2, b3, b4⟩ := s_tabWhy1 Pa hmn
      refine ⟨_, _, h2, wp_FR_swaps ⟨_, h, hF, _, h, s_tabRef1 P hmn, fun _ => ⟨in3 P hmn, _, _, wp_FR_answered rfl, rfl⟩, fun hc => absurd (gT_y hG) hc⟩, wp_M_swaps ⟨_, s_an, _, _, hMo, _, h2, b1, fun _ => ⟨in3 P hmn, ?_⟩, fun hc => absurd (gT_y hG) hc⟩, ans_inv P C T Q (Ch.rf h) b2 (b4.trans (hAn_t _)) (by decide)⟩
      rw [tq P hmn, (q4.2.2 hG).2.2.2, zI_cn (by have := P.m3 hmn; omega), (b3 hG).2.2.2.1]
    · have Pa := PLb P (Ch.rf h) (gT (D m))
      have hMo := s_isModeM Pa x1 x2
      rw [if_pos hm] at hMo
      obtain ⟨h2, b1, b2, b3, b4⟩ := s_tabWhy1 Pa hmn
      exact ⟨_, _, _, wp_FR_swaps ⟨_, h, hF, _, h, s_tabRef1 P hmn, fun hc => absurd hc (gTz hG), fun _ => ⟨_, _, wp_FR_refused rfl, rfl⟩⟩, wp_M_swaps ⟨_, s_an, _, _, hMo, _, h2, b1, fun hc => absurd hc (gTz hG), fun _ => ⟨_, _, wp_M_no rfl, rfl⟩⟩, no_inv P C T Q (Ch.rf h) b2 (gT4 _)⟩
  · have hF := s_isModeF P x1 x2
    have hMo := s_isModeM (PLa P 1) x1 x2
    rw [if_neg hm] at hF hMo
    exact ⟨_, _, _, wp_FR_swaps ⟨_, h, hF, _, h, s_tabRef0 P x1 x2, fun hc => absurd hc (by decide), fun _ => ⟨_, _, wp_FR_refused rfl, rfl⟩⟩, wp_M_swaps ⟨_, s_an, _, _, hMo, _, _, s_tabWhy0, fun hc => absurd hc (by decide), fun _ => ⟨_, _, wp_M_no rfl, rfl⟩⟩, ref_inv P C T Q (t := 1) (by decide)⟩
theorem c_slack (I : INV B h) (a b : Int32) : ∃ v h1 h2, m_FR_slack a b h v h1 ∧ m_M_slack a b h1 v h2 ∧ INV B h2 := by
  obtain ⟨nm, D, P, C, T, Q⟩ := I
  obtain ⟨x, rfl, x1, x2⟩ := i32x a
  obtain ⟨y, rfl, y1, y2⟩ := i32x b
  rcases s_isFrameF P x1 x2 y1 y2 with ⟨m, k, hmn, hk, rfl, rfl, hF⟩ | ⟨hF, hx⟩
  · obtain ⟨q1, q2, q3, q4, q5, q6⟩ := P.2.2.2.2 m hmn
    have F24 : mF (D m) ≤ 24 := P.F24 hmn
    have m3 := P.m3 hmn
    by_cases hG : gdm (D m)
    · have Pa := PLb P (Ch.rf h) 0
      obtain ⟨h2, b1, b2, b3, b4⟩ := s_tabWhy1 Pa hmn
      have e24 : (24 * zI (m : Int)) + zI (k : Int) = zI ((24 * m + k : Nat) : Int) := by rw [zl_24, zI_mul, zI_add]; congr 1
      refine ⟨_, _, h2, wp_FR_slack ⟨_, h, hF, _, h, s_tabRef1 P hmn, fun _ => ⟨in3 P hmn, zI_in (by omega) (by omega) (by omega), _, _, wp_FR_answered rfl, rfl⟩, fun hc => absurd (gT_y hG) hc⟩, wp_M_slack ⟨_, s_an, _, _, (s_isFrameM Pa x1 x2 y1 y2).1 m k hmn hk rfl rfl, _, h2, b1, fun _ => ⟨by rw [e24]; exact zI_in (by omega) (by omega) (by omega), ?_⟩, fun hc => absurd (gT_y hG) hc⟩, ans_inv P C T Q (Ch.rf h) b2 (b4.trans (hAn_t _)) (by decide)⟩
      rw [tq P hmn, zI_cn (by omega), (q4.2.2 hG).1 k hk, e24, zI_cn (by omega), (b3 hG).2.2.2.2 k hk]
    · have Pa := PLb P (Ch.rf h) (gT (D m))
      obtain ⟨h2, b1, b2, b3, b4⟩ := s_tabWhy1 Pa hmn
      exact ⟨_, _, _, wp_FR_slack ⟨_, h, hF, _, h, s_tabRef1 P hmn, fun hc => absurd hc (gTz hG), fun _ => ⟨_, _, wp_FR_refused rfl, rfl⟩⟩, wp_M_slack ⟨_, s_an, _, _, (s_isFrameM Pa x1 x2 y1 y2).1 m k hmn hk rfl rfl, _, h2, b1, fun hc => absurd hc (gTz hG), fun _ => ⟨_, _, wp_M_no rfl, rfl⟩⟩, no_inv P C T Q (Ch.rf h) b2 (gT4 _)⟩
  · exact ⟨_, _, _, wp_FR_slack ⟨_, h, hF, _, h, s_tabRef0 P x1 x2, fun hc => absurd hc (by decide), fun _ => ⟨_, _, wp_FR_refused rfl, rfl⟩⟩, wp_M_slack ⟨_, s_an, _, _, (s_isFrameM (PLa P 1) x1 x2 y1 y2).2 hx, _, _, s_tabWhy0, fun hc => absurd hc (by decide), fun _ => ⟨_, _, wp_M_no rfl, rfl⟩⟩, ref_inv P C T Q (t := 1) (by decide)⟩
theorem c_openAt (I : INV B h) (a b : Int32) : ∃ v h1 h2, m_FR_openAt a b h v h1 ∧ m_M_openAt a b h1 v h2 ∧ INV B h2 := by
  obtain ⟨nm, D, P, C, T, Q⟩ := I
  obtain ⟨x, rfl, x1, x2⟩ := i32x a
  obtain ⟨y, rfl, y1, y2⟩ := i32x b
  rcases s_isFrameF P x1 x2 y1 y2 with ⟨m, k, hmn, hk, rfl, rfl, hF⟩ | ⟨hF, hx⟩
  · obtain ⟨q1, q2, q3, q4, q5, q6⟩ := P.2.2.2.2 m hmn
    have m3 := P.m3 hmn
    by_cases hG : gdm (D m)
    · have Pa := PLb P (Ch.rf h) 0
      obtain ⟨h2, b1, b2, b3, b4⟩ := s_tabWhy1 Pa hmn
      obtain ⟨z, z1, z2⟩ := s_openJobs q4 q1 hG (q6 hG) (show k ≤ mF (D m) by omega)
      have v2 := ((Pa.M b2).2.2.2.2 m hmn).2.2.1
      obtain ⟨z', z3, z4⟩ := s_openOf v2 q1 m3 (b3 hG).2.2 hG (q6 hG) (show k ≤ mF (D m) by omega)
      have ez : z = z' := z2.uq z4 (fun _ _ => rfl)
      subst ez
      refine ⟨_, _, h2, wp_FR_openAt ⟨_, h, hF, _, h, s_tabRef1 P hmn, fun _ => ⟨in3 P hmn, z, h, ?_, _, _, wp_FR_answered rfl, rfl⟩, fun hc => absurd (gT_y hG) hc⟩, wp_M_openAt ⟨_, s_an, _, _, (s_isFrameM Pa x1 x2 y1 y2).1 m k hmn hk rfl rfl, _, h2, b1, fun _ => ⟨_, h2, z3, rfl⟩, fun hc => absurd (gT_y hG) hc⟩, ans_inv P C T Q (Ch.rf h) b2 (b4.trans (hAn_t _)) (by decide)⟩
      rw [tq P hmn]; exact z1
    · have Pa := PLb P (Ch.rf h) (gT (D m))
      obtain ⟨h2, b1, b2, b3, b4⟩ := s_tabWhy1 Pa hmn
      exact ⟨_, _, _, wp_FR_openAt ⟨_, h, hF, _, h, s_tabRef1 P hmn, fun hc => absurd hc (gTz hG), fun _ => ⟨_, _, wp_FR_refused rfl, rfl⟩⟩, wp_M_openAt ⟨_, s_an, _, _, (s_isFrameM Pa x1 x2 y1 y2).1 m k hmn hk rfl rfl, _, h2, b1, fun hc => absurd hc (gTz hG), fun _ => ⟨_, _, wp_M_no rfl, rfl⟩⟩, no_inv P C T Q (Ch.rf h) b2 (gT4 _)⟩
  · exact ⟨_, _, _, wp_FR_openAt ⟨_, h, hF, _, h, s_tabRef0 P x1 x2, fun hc => absurd hc (by decide), fun _ => ⟨_, _, wp_FR_refused rfl, rfl⟩⟩, wp_M_openAt ⟨_, s_an, _, _, (s_isFrameM (PLa P 1) x1 x2 y1 y2).2 hx, _, _, s_tabWhy0, fun hc => absurd hc (by decide), fun _ => ⟨_, _, wp_M_no rfl, rfl⟩⟩, ref_inv P C T Q (t := 1) (by decide)⟩
theorem c_finishes (I : INV B h) (a b : Int32) : ∃ v h1 h2, m_FR_finishes a b h v h1 ∧ m_M_finishes a b h1 v h2 ∧ INV B h2 := by
  obtain ⟨nm, D, P, C, T, Q⟩ := I
  obtain ⟨x, rfl, x1, x2⟩ := i32x a
  obtain ⟨y, rfl, y1, y2⟩ := i32x b
  rcases s_isJobF P x1 x2 y1 y2 with ⟨m, j, hmn, hj, rfl, rfl, hF⟩ | ⟨hF, hx⟩
  · obtain ⟨q1, q2, q3, q4, q5, q6⟩ := P.2.2.2.2 m hmn
    have m3 := P.m3 hmn
    have F24 : mF (D m) ≤ 24 := P.F24 hmn
    have w5 := q1.2.2.2.2.1
    by_cases hG : gdm (D m)
    · have Pa := PLb P (Ch.rf h) 0
      obtain ⟨h2, b1, b2, b3, b4⟩ := s_tabWhy1 Pa hmn
      obtain ⟨k, l⟩ := isLs_ex q1 (q6 hG) hj
      have hkF := l.1
      have v2 := ((Pa.M b2).2.2.2.2 m hmn).2.2.1
      have hlf := s_lastFrame q4 q1 hG (q6 hG) hj l
      have hps := s_pieceStart q4 q1 hG hj (show k < 24 by omega)
      have hle : m_Table_lastEnd m (zI j) h (zI (bgn (D m) j k + mU (D m) j k)) h := by
        refine wp_Table_lastEnd ⟨_, h, hlf, fun _ => ⟨_, h, hps, zI_in (by omega) (by omega) (by omega), zI_in (by omega) (by omega) (by omega), ?_⟩, fun hc => ?_⟩
        · rw [zI_cn (by omega), zI_cn (by omega), (q4.2.2 hG).2.1 j k hj (by omega), zI_add]; rfl
        · rw [zl_0, zI_le (by omega) (by omega) (by omega) (by omega)] at hc; omega
      have hfi := s_fin_22 v2 q1 m3 (b3 hG).2.2 hG (q6 hG) hj l (mF (D m) - 1 - k) (by omega)
      rw [show k + (mF (D m) - 1 - k) = mF (D m) - 1 by omega] at hfi
      refine ⟨_, _, h2, wp_FR_finishes ⟨_, h, hF, _, h, s_tabRef1 P hmn, fun _ => ⟨in3 P hmn, _, h, by rw [tq P hmn]; exact hle, _, _, wp_FR_answered rfl, rfl⟩, fun hc => absurd (gT_y hG) hc⟩, wp_M_finishes ⟨_, s_an, _, _, (s_isJobM Pa x1 x2 y1 y2).1 m j hmn hj rfl rfl, _, h2, b1, fun _ => ⟨_, h2, s_framesOf v2 q1 m3, ?_⟩, fun hc => absurd (gT_y hG) hc⟩, ans_inv P C T Q (Ch.rf h) b2 (b4.trans (hAn_t _)) (by decide)⟩
      rw [zl_1, zI_sub, show (mF (D m) : Int) - 1 = ((mF (D m) - 1 : Nat) : Int) by omega]; exact hfi
    · have Pa := PLb P (Ch.rf h) (gT (D m))
      obtain ⟨h2, b1, b2, b3, b4⟩ := s_tabWhy1 Pa hmn
      exact ⟨_, _, _, wp_FR_finishes ⟨_, h, hF, _, h, s_tabRef1 P hmn, fun hc => absurd hc (gTz hG), fun _ => ⟨_, _, wp_FR_refused rfl, rfl⟩⟩, wp_M_finishes ⟨_, s_an, _, _, (s_isJobM Pa x1 x2 y1 y2).1 m j hmn hj rfl rfl, _, h2, b1, fun hc => absurd hc (gTz hG), fun _ => ⟨_, _, wp_M_no rfl, rfl⟩⟩, no_inv P C T Q (Ch.rf h) b2 (gT4 _)⟩
  · exact ⟨_, _, _, wp_FR_finishes ⟨_, h, hF, _, h, s_tabRef0 P x1 x2, fun hc => absurd hc (by decide), fun _ => ⟨_, _, wp_FR_refused rfl, rfl⟩⟩, wp_M_finishes ⟨_, s_an, _, _, (s_isJobM (PLa P 1) x1 x2 y1 y2).2 hx, _, _, s_tabWhy0, fun hc => absurd hc (by decide), fun _ => ⟨_, _, wp_M_no rfl, rfl⟩⟩, ref_inv P C T Q (t := 1) (by decide)⟩
theorem c_share (I : INV B h) (a b c : Int32) : ∃ v h1 h2, m_FR_share a b c h v h1 ∧ m_M_share a b c h1 v h2 ∧ INV B h2 := by
  obtain ⟨nm, D, P, C, T, Q⟩ := I
  obtain ⟨x, rfl, x1, x2⟩ := i32x a
  obtain ⟨y, rfl, y1, y2⟩ := i32x b
  obtain ⟨z, rfl, z1, z2⟩ := i32x c
  rcases s_isJobF P x1 x2 y1 y2 with ⟨m, j, hmn, hj, rfl, rfl, hF⟩ | ⟨hF, hx⟩
  · rcases s_isFrameF P x1 x2 z1 z2 with ⟨m', k, hmn', hk, em, rfl, hF2⟩ | ⟨hF2, hx⟩
    · have em' : m' = m := by omega
      subst em'
      obtain ⟨q1, q2, q3, q4, q5, q6⟩ := P.2.2.2.2 m' hmn
      have m3 := P.m3 hmn
      have F24 : mF (D m') ≤ 24 := P.F24 hmn
      have w5 := q1.2.2.2.2.1
      by_cases hG : gdm (D m')
      · have Pa := PLb P (Ch.rf h) 0
        obtain ⟨h2, b1, b2, b3, b4⟩ := s_tabWhy1 Pa hmn
        refine ⟨_, _, h2, wp_FR_share ⟨_, h, hF, fun hc => absurd hc (by decide), fun _ => ⟨_, h, hF2, fun hc => absurd hc (by decide), fun _ => ⟨_, h, s_tabRef1 P hmn, fun _ => ⟨in3 P hmn, zI_in (by omega) (by omega) (by omega), zI_in (by omega) (by omega) (by omega), _, _, wp_FR_answered rfl, rfl⟩, fun hc => absurd (gT_y hG) hc⟩⟩⟩, wp_M_share ⟨_, s_an, _, _, (s_isJobM Pa x1 x2 y1 y2).1 m' j hmn hj rfl rfl, fun hc => absurd hc (by decide), fun _ => ⟨_, _, (s_isFrameM Pa x1 x2 z1 z2).1 m' k hmn hk rfl rfl, fun hc => absurd hc (by decide), fun _ => ⟨_, h2, b1, fun _ => ⟨_, h2, s_has (b3 hG).2.2 m3 (by omega) (by omega), ?_⟩, fun hc => absurd (gT_y hG) hc⟩⟩⟩, ans_inv P C T Q (Ch.rf h) b2 (b4.trans (hAn_t _)) (by decide)⟩
        rw [tq P hmn, zI_cn (by omega), zI_cn (by omega), (q4.2.2 hG).2.1 j k hj (by omega)]; rfl
      · have Pa := PLb P (Ch.rf h) (gT (D m'))
        obtain ⟨h2, b1, b2, b3, b4⟩ := s_tabWhy1 Pa hmn
        exact ⟨_, _, _, wp_FR_share ⟨_, h, hF, fun hc => absurd hc (by decide), fun _ => ⟨_, h, hF2, fun hc => absurd hc (by decide), fun _ => ⟨_, h, s_tabRef1 P hmn, fun hc => absurd hc (gTz hG), fun _ => ⟨_, _, wp_FR_refused rfl, rfl⟩⟩⟩⟩, wp_M_share ⟨_, s_an, _, _, (s_isJobM Pa x1 x2 y1 y2).1 m' j hmn hj rfl rfl, fun hc => absurd hc (by decide), fun _ => ⟨_, _, (s_isFrameM Pa x1 x2 z1 z2).1 m' k hmn hk rfl rfl, fun hc => absurd hc (by decide), fun _ => ⟨_, h2, b1, fun hc => absurd hc (gTz hG), fun _ => ⟨_, _, wp_M_no rfl, rfl⟩⟩⟩⟩, no_inv P C T Q (Ch.rf h) b2 (gT4 _)⟩
    · exact ⟨_, _, _, wp_FR_share ⟨_, h, hF, fun hc => absurd hc (by decide), fun _ => ⟨_, h, hF2, fun _ => ⟨_, h, s_tabRef0 P x1 x2, fun hc => absurd hc (by decide), fun _ => ⟨_, _, wp_FR_refused rfl, rfl⟩⟩, fun hc => absurd rfl hc⟩⟩, wp_M_share ⟨_, s_an, _, _, (s_isJobM (PLa P 1) x1 x2 y1 y2).1 m j hmn hj rfl rfl, fun hc => absurd hc (by decide), fun _ => ⟨_, _, (s_isFrameM (PLa P 1) x1 x2 z1 z2).2 hx, fun _ => ⟨_, _, s_tabWhy0, fun hc => absurd hc (by decide), fun _ => ⟨_, _, wp_M_no rfl, rfl⟩⟩, fun hc => absurd rfl hc⟩⟩, ref_inv P C T Q (t := 1) (by decide)⟩
  · exact ⟨_, _, _, wp_FR_share ⟨_, h, hF, fun _ => ⟨_, h, s_tabRef0 P x1 x2, fun hc => absurd hc (by decide), fun _ => ⟨_, _, wp_FR_refused rfl, rfl⟩⟩, fun hc => absurd rfl hc⟩, wp_M_share ⟨_, s_an, _, _, (s_isJobM (PLa P 1) x1 x2 y1 y2).2 hx, fun _ => ⟨_, _, s_tabWhy0, fun hc => absurd hc (by decide), fun _ => ⟨_, _, wp_M_no rfl, rfl⟩⟩, fun hc => absurd rfl hc⟩, ref_inv P C T Q (t := 1) (by decide)⟩
theorem c_begins (I : INV B h) (a b c : Int32) : ∃ v h1 h2, m_FR_begins a b c h v h1 ∧ m_M_begins a b c h1 v h2 ∧ INV B h2 := by
  obtain ⟨nm, D, P, C, T, Q⟩ := I
  obtain ⟨x, rfl, x1, x2⟩ := i32x a
  obtain ⟨y, rfl, y1, y2⟩ := i32x b
  obtain ⟨z, rfl, z1, z2⟩ := i32x c
  rcases s_isJobF P x1 x2 y1 y2 with ⟨m, j, hmn, hj, rfl, rfl, hF⟩ | ⟨hF, hx⟩
  · rcases s_isFrameF P x1 x2 z1 z2 with ⟨m', k, hmn', hk, em, rfl, hF2⟩ | ⟨hF2, hx⟩
    · have em' : m' = m := by omega
      subst em'
      obtain ⟨q1, q2, q3, q4, q5, q6⟩ := P.2.2.2.2 m' hmn
      have m3 := P.m3 hmn
      have F24 : mF (D m') ≤ 24 := P.F24 hmn
      have w5 := q1.2.2.2.2.1
      by_cases hG : gdm (D m')
      · have Pa := PLb P (Ch.rf h) 0
        obtain ⟨h2, b1, b2, b3, b4⟩ := s_tabWhy1 Pa hmn
        have v2 := ((Pa.M b2).2.2.2.2 m' hmn).2.2.1
        have hhs := s_has (b3 hG).2.2 m3 (show j < 24 by omega) (show k < 24 by omega)
        have eu : h.1 21 (24 * (3 * 0 + (zI (m' : Int)).toNatClampNeg) + (zI (j : Int)).toNatClampNeg) (zI (k : Int)).toNatClampNeg = zI (mU (D m') j k) := by
          rw [tq P hmn, zI_cn (by omega), zI_cn (by omega)]; exact (q4.2.2 hG).2.1 j k hj (by omega)
        have ub := mU_b q1 hG (q6 hG) j k (by omega) (by omega)
        by_cases hz : mU (D m') j k = 0
        · refine ⟨_, _, h2, wp_FR_begins ⟨_, h, hF, fun hc => absurd hc (by decide), fun _ => ⟨_, h, hF2, fun hc => absurd hc (by decide), fun _ => ⟨_, h, s_tabRef1 P hmn, fun _ => ⟨in3 P hmn, zI_in (by omega) (by omega) (by omega), zI_in (by omega) (by omega) (by omega), fun _ => ⟨_, _, wp_FR_answered rfl, rfl⟩, fun hc => ?_⟩, fun hc => absurd (gT_y hG) hc⟩⟩⟩, wp_M_begins ⟨_, s_an, _, _, (s_isJobM Pa x1 x2 y1 y2).1 m' j hmn hj rfl rfl, fun hc => absurd hc (by decide), fun _ => ⟨_, _, (s_isFrameM Pa x1 x2 z1 z2).1 m' k hmn hk rfl rfl, fun hc => absurd hc (by decide), fun _ => ⟨_, h2, b1, fun _ => ⟨_, h2, hhs, fun _ => rfl, fun hc => ?_⟩, fun hc => absurd (gT_y hG) hc⟩⟩⟩, ans_inv P C T Q (Ch.rf h) b2 (b4.trans (hAn_t _)) (by decide)⟩
          · rw [eu, hz] at hc; exact absurd rfl hc
          · rw [hz] at hc; exact absurd rfl hc
        · refine ⟨_, _, h2, wp_FR_begins ⟨_, h, hF, fun hc => absurd hc (by decide), fun _ => ⟨_, h, hF2, fun hc => absurd hc (by decide), fun _ => ⟨_, h, s_tabRef1 P hmn, fun _ => ⟨in3 P hmn, zI_in (by omega) (by omega) (by omega), zI_in (by omega) (by omega) (by omega), fun hc => ?_, fun _ => ⟨in3 P hmn, _, h, by rw [tq P hmn]; exact s_pieceStart q4 q1 hG hj (by omega), _, _, wp_FR_answered rfl, rfl⟩⟩, fun hc => absurd (gT_y hG) hc⟩⟩⟩, wp_M_begins ⟨_, s_an, _, _, (s_isJobM Pa x1 x2 y1 y2).1 m' j hmn hj rfl rfl, fun hc => absurd hc (by decide), fun _ => ⟨_, _, (s_isFrameM Pa x1 x2 z1 z2).1 m' k hmn hk rfl rfl, fun hc => absurd hc (by decide), fun _ => ⟨_, h2, b1, fun _ => ⟨_, h2, hhs, fun hc => ?_, fun _ => ⟨_, h2, s_beginOf v2 q1 m3 (b3 hG).2.2 hj (by omega), rfl⟩⟩, fun hc => absurd (gT_y hG) hc⟩⟩⟩, ans_inv P C T Q (Ch.rf h) b2 (b4.trans (hAn_t _)) (by decide)⟩
          · rw [eu, zl_0, zI_eq (by omega) (by omega) (by omega) (by omega)] at hc; exact absurd hc hz
          · rw [zl_0, zI_eq (by omega) (by omega) (by omega) (by omega)] at hc; exact absurd hc hz
      · have Pa := PLb P (Ch.rf h) (gT (D m'))
        obtain ⟨h2, b1, b2, b3, b4⟩ := s_tabWhy1 Pa hmn
        exact ⟨_, _, _, wp_FR_begins ⟨_, h, hF, fun hc => absurd hc (by decide), fun _ => ⟨_, h, hF2, fun hc => absurd hc (by decide), fun _ => ⟨_, h, s_tabRef1 P hmn, fun hc => absurd hc (gTz hG), fun _ => ⟨_, _, wp_FR_refused rfl, rfl⟩⟩⟩⟩, wp_M_begins ⟨_, s_an, _, _, (s_isJobM Pa x1 x2 y1 y2).1 m' j hmn hj rfl rfl, fun hc => absurd hc (by decide), fun _ => ⟨_, _, (s_isFrameM Pa x1 x2 z1 z2).1 m' k hmn hk rfl rfl, fun hc => absurd hc (by decide), fun _ => ⟨_, h2, b1, fun hc => absurd hc (gTz hG), fun _ => ⟨_, _, wp_M_no rfl, rfl⟩⟩⟩⟩, no_inv P C T Q (Ch.rf h) b2 (gT4 _)⟩
    · exact ⟨_, _, _, wp_FR_begins ⟨_, h, hF, fun hc => absurd hc (by decide), fun _ => ⟨_, h, hF2, fun _ => ⟨_, h, s_tabRef0 P x1 x2, fun hc => absurd hc (by decide), fun _ => ⟨_, _, wp_FR_refused rfl, rfl⟩⟩, fun hc => absurd rfl hc⟩⟩, wp_M_begins ⟨_, s_an, _, _, (s_isJobM (PLa P 1) x1 x2 y1 y2).1 m j hmn hj rfl rfl, fun hc => absurd hc (by decide), fun _ => ⟨_, _, (s_isFrameM (PLa P 1) x1 x2 z1 z2).2 hx, fun _ => ⟨_, _, s_tabWhy0, fun hc => absurd hc (by decide), fun _ => ⟨_, _, wp_M_no rfl, rfl⟩⟩, fun hc => absurd rfl hc⟩⟩, ref_inv P C T Q (t := 1) (by decide)⟩
  · exact ⟨_, _, _, wp_FR_begins ⟨_, h, hF, fun _ => ⟨_, h, s_tabRef0 P x1 x2, fun hc => absurd hc (by decide), fun _ => ⟨_, _, wp_FR_refused rfl, rfl⟩⟩, fun hc => absurd rfl hc⟩, wp_M_begins ⟨_, s_an, _, _, (s_isJobM (PLa P 1) x1 x2 y1 y2).2 hx, fun _ => ⟨_, _, s_tabWhy0, fun hc => absurd hc (by decide), fun _ => ⟨_, _, wp_M_no rfl, rfl⟩⟩, fun hc => absurd rfl hc⟩, ref_inv P C T Q (t := 1) (by decide)⟩
end CALLT
