/-! ===== what tables tell ===== -/
noncomputable def mU (d : MD) : Nat → Nat → Int := (tabS d (md_fr d)).2.2
def TId (d : MD) : Prop := TI (md_jb d) (mF d) (md_fi d (md_fr d)) (md_la d (md_fr d)) (md_c d) (md_rm d (md_fr d)) (tabS d (md_fr d)).2
section TABS
variable {h : jm_H} {nm m : Nat} {D : Nat → MD} {d : MD}
theorem s_laidX (P : PL h nm D) (hm : m < nm) : ∃ h', m_M_isLaid (zI m) h (zI (gdI (D m) (md_fr (D m)))) h' ∧ MX nm D h h' ∧ (gdm (D m) → TL h' m (D m)) ∧ h'.1 8 0 1 = h.1 8 0 1 := by
  have p1 := P.1
  obtain ⟨q1, q2, q3, q4, q5, q6⟩ := P.2.2.2.2 m hm
  obtain ⟨h', a1, a2, a3, a4⟩ := s_isLaid q3 q1 (by omega) q5
  refine ⟨h', a1, ⟨a4.mono (fun K i j x => by unfold cLd at x; unfold cMX; rcases x with x | x | x | x | x; exact Or.inl x; all_goals exact Or.inr (Or.inl (by omega))), fun m' hm' => ?_⟩, a3, a4.at (by unfold cLd cMs; omega)⟩
  by_cases e : m' = m
  · subst e
    exact ⟨fun _ => a2, fun t => a3 t.2.1⟩
  · have hF := P.F24 hm'
    exact ⟨fun t => t.chg hF (fun K j hK => a4.at (by unfold cLd cMs; omega)), fun t => t.chg hF (fun K j hK => a4.at (by unfold cLd cMs; omega))⟩
theorem s_has (t : MTb h m d) (hm : m < 3) {j k : Nat} (hj : j < 24) (hk : k < 24) : m_M_has (zI m) (zI j) (zI k) h (zI (mU d j k)) h := by
  have e : ((576 * zI (m : Int)) + (24 * zI (j : Int))) + zI (k : Int) = zI ((576 * m + (24 * j + k) : Nat) : Int) := by
    rw [zl_576, zl_24, zI_mul, zI_mul, zI_add, zI_add]; congr 1; omega
  refine wp_M_has ⟨?_, ?_⟩
  · rw [e]; exact zI_in (by omega) (by omega) (by omega)
  · rw [e, zI_cn (by omega), t.1 j k hj hk]; rfl
theorem s_framesOf (v : vM h m d) (w : WFm d) (hm : m < 3) : m_M_framesOf (zI m) h (zI (mF d)) h := by
  have w1 := w.1
  have w3 := w.2.2.1
  have hi : jm_in (zI (m : Int)) 6 := zI_in (by omega) (by omega) (by omega)
  refine wp_M_framesOf ⟨hi, hi, ?_, ?_⟩
  · rw [zI_cn (by omega), v.1, zl_0, zI_eq (by omega) (by omega) (by omega) (by omega)]; omega
  · rw [zI_cn (by omega), v.1, v.2.2.2.1, zI_div (by omega) (by omega) (by omega) (by omega)]
    unfold mF
    rw [(md_bd w (by omega) (by omega)).2.1]
/-! ===== which is meant ===== -/
theorem s_isTaskF (P : PL h nm D) {x y : Int} (x1 : -2147483648 ≤ x) (x2 : x ≤ 2147483647) (y1 : -2147483648 ≤ y) (y2 : y ≤ 2147483647) : (∃ m t : Nat, m < nm ∧ t < md_tk (D m) ∧ x = m ∧ y = t ∧ m_FR_isTask (zI x) (zI y) h 1 h) ∨ (m_FR_isTask (zI x) (zI y) h 0 h ∧ (¬ (0 ≤ x ∧ x < nm) ∨ ∃ m : Nat, m < nm ∧ x = m ∧ ¬ (0 ≤ y ∧ y < md_tk (D m)))) := by
  by_cases hm : 0 ≤ x ∧ x < nm
  · obtain ⟨m, hmn, rfl⟩ := mode_of hm
    obtain ⟨q1, q2, q3, q4, q5, q6⟩ := P.2.2.2.2 m hmn
    have w4 := q1.2.2.2.1
    have et : h.1 2 (3 * (h.2.1 7 0 1) + (zI (m : Int)).toNatClampNeg) 2 = zI (md_tk (D m)) := by rw [qm P hmn]; exact q2.2.2.1
    by_cases hy : 0 ≤ y ∧ y < md_tk (D m)
    · refine Or.inl ⟨m, y.toNat, hmn, by omega, rfl, by omega, wp_FR_isTask ⟨_, h, s_isModeF P x1 x2, fun hc => absurd hc (nz1 hm), fun _ => ⟨fun hc => ?_, fun _ => ⟨in3 P hmn, fun hc => ?_, fun _ => rfl⟩⟩⟩⟩
      · rw [zl_0, zI_lt (by omega) (by omega) (by omega) (by omega)] at hc; omega
      · rw [et, zI_le (by omega) (by omega) (by omega) (by omega)] at hc; omega
    · refine Or.inr ⟨wp_FR_isTask ⟨_, h, s_isModeF P x1 x2, fun hc => absurd hc (nz1 hm), fun _ => ⟨fun _ => rfl, fun hc => ⟨in3 P hmn, fun _ => rfl, fun hc2 => ?_⟩⟩⟩, Or.inr ⟨m, hmn, rfl, hy⟩⟩
      rw [zl_0, zI_lt (by omega) (by omega) (by omega) (by omega)] at hc
      rw [et, zI_le (by omega) (by omega) (by omega) (by omega)] at hc2; omega
  · exact Or.inr ⟨wp_FR_isTask ⟨_, h, s_isModeF P x1 x2, fun _ => rfl, fun hc => absurd (nz0 hm) hc⟩, Or.inl hm⟩
theorem s_isJobF (P : PL h nm D) {x y : Int} (x1 : -2147483648 ≤ x) (x2 : x ≤ 2147483647) (y1 : -2147483648 ≤ y) (y2 : y ≤ 2147483647) : (∃ m t : Nat, m < nm ∧ t < md_jb (D m) ∧ x = m ∧ y = t ∧ m_FR_isJob (zI x) (zI y) h 1 h) ∨ (m_FR_isJob (zI x) (zI y) h 0 h ∧ (¬ (0 ≤ x ∧ x < nm) ∨ ∃ m : Nat, m < nm ∧ x = m ∧ ¬ (0 ≤ y ∧ y < md_jb (D m)))) := by
  by_cases hm : 0 ≤ x ∧ x < nm
  · obtain ⟨m, hmn, rfl⟩ := mode_of hm
    obtain ⟨q1, q2, q3, q4, q5, q6⟩ := P.2.2.2.2 m hmn
    have w5 := q1.2.2.2.2.1
    have et : h.1 2 (3 * (h.2.1 7 0 1) + (zI (m : Int)).toNatClampNeg) 3 = zI (md_jb (D m)) := by rw [qm P hmn]; exact q2.2.2.2.1
    by_cases hy : 0 ≤ y ∧ y < md_jb (D m)
    · refine Or.inl ⟨m, y.toNat, hmn, by omega, rfl, by omega, wp_FR_isJob ⟨_, h, s_isModeF P x1 x2, fun hc => absurd hc (nz1 hm), fun _ => ⟨fun hc => ?_, fun _ => ⟨in3 P hmn, fun hc => ?_, fun _ => rfl⟩⟩⟩⟩
      · rw [zl_0, zI_lt (by omega) (by omega) (by omega) (by omega)] at hc; omega
      · rw [et, zI_le (by omega) (by omega) (by omega) (by omega)] at hc; omega
    · refine Or.inr ⟨wp_FR_isJob ⟨_, h, s_isModeF P x1 x2, fun hc => absurd hc (nz1 hm), fun _ => ⟨fun _ => rfl, fun hc => ⟨in3 P hmn, fun _ => rfl, fun hc2 => ?_⟩⟩⟩, Or.inr ⟨m, hmn, rfl, hy⟩⟩
      rw [zl_0, zI_lt (by omega) (by omega) (by omega) (by omega)] at hc
      rw [et, zI_le (by omega) (by omega) (by omega) (by omega)] at hc2; omega
  · exact Or.inr ⟨wp_FR_isJob ⟨_, h, s_isModeF P x1 x2, fun _ => rfl, fun hc => absurd (nz0 hm) hc⟩, Or.inl hm⟩
theorem tq (P : PL h nm D) (hm : m < nm) : 3 * 0 + (zI (m : Int)).toNatClampNeg = m := by
  have := P.1
  rw [zI_cn (by omega)]; omega
theorem s_isFrameF (P : PL h nm D) {x y : Int} (x1 : -2147483648 ≤ x) (x2 : x ≤ 2147483647) (y1 : -2147483648 ≤ y) (y2 : y ≤ 2147483647) : (∃ m t : Nat, m < nm ∧ t < mF (D m) ∧ x = m ∧ y = t ∧ m_FR_isFrame (zI x) (zI y) h 1 h) ∨ (m_FR_isFrame (zI x) (zI y) h 0 h ∧ (¬ (0 ≤ x ∧ x < nm) ∨ ∃ m : Nat, m < nm ∧ x = m ∧ ¬ (0 ≤ y ∧ y < mF (D m)))) := by
  by_cases hm : 0 ≤ x ∧ x < nm
  · obtain ⟨m, hmn, rfl⟩ := mode_of hm
    obtain ⟨q1, q2, q3, q4, q5, q6⟩ := P.2.2.2.2 m hmn
    have F24 : mF (D m) ≤ 24 := P.F24 hmn
    have et : h.1 1 (3 * 0 + (zI (m : Int)).toNatClampNeg) 2 = zI (mF (D m)) := by rw [tq P hmn]; exact q4.1.1.2.2.2.2.1
    by_cases hy : 0 ≤ y ∧ y < mF (D m)
    · refine Or.inl ⟨m, y.toNat, hmn, by omega, rfl, by omega, wp_FR_isFrame ⟨_, h, s_isModeF P x1 x2, fun hc => absurd hc (nz1 hm), fun _ => ⟨fun hc => ?_, fun _ => ⟨in3 P hmn, fun hc => ?_, fun _ => rfl⟩⟩⟩⟩
      · rw [zl_0, zI_lt (by omega) (by omega) (by omega) (by omega)] at hc; omega
      · rw [et, zI_le (by omega) (by omega) (by omega) (by omega)] at hc; omega
    · refine Or.inr ⟨wp_FR_isFrame ⟨_, h, s_isModeF P x1 x2, fun hc => absurd hc (nz1 hm), fun _ => ⟨fun _ => rfl, fun hc => ⟨in3 P hmn, fun _ => rfl, fun hc2 => ?_⟩⟩⟩, Or.inr ⟨m, hmn, rfl, hy⟩⟩
      rw [zl_0, zI_lt (by omega) (by omega) (by omega) (by omega)] at hc
      rw [et, zI_le (by omega) (by omega) (by omega) (by omega)] at hc2; omega
  · exact Or.inr ⟨wp_FR_isFrame ⟨_, h, s_isModeF P x1 x2, fun _ => rfl, fun hc => absurd (nz0 hm) hc⟩, Or.inl hm⟩
theorem in_1 {y : Int} {n : Nat} (y1 : -2147483648 ≤ y) (y2 : y ≤ 2147483647) (hn : n ≤ 1000) : m_M_in (zI y) 0 (zI (n : Int) - 1) h (zI (if 0 ≤ y ∧ y < n then 1 else 0)) h := by
  have := s_in (h := h) (x := y) (a := 0) (b := (n : Int) - 1) y1 y2 (by omega) (by omega) (by omega) (by omega)
  rw [zl_1, zI_sub]
  have e : (if 0 ≤ y ∧ y ≤ (n : Int) - 1 then (1 : Int) else 0) = if 0 ≤ y ∧ y < n then 1 else 0 := by
    by_cases hc : 0 ≤ y ∧ y < n
    · rw [if_pos hc, if_pos (by omega)]
    · rw [if_neg hc, if_neg (by omega)]
  rw [e] at this
  exact this
theorem s_isJobM (P : PL h nm D) {x y : Int} (x1 : -2147483648 ≤ x) (x2 : x ≤ 2147483647) (y1 : -2147483648 ≤ y) (y2 : y ≤ 2147483647) : (∀ m t : Nat, m < nm → t < md_jb (D m) → x = m → y = t → m_M_isJob (zI x) (zI y) h 1 h) ∧ ((¬ (0 ≤ x ∧ x < nm) ∨ ∃ m : Nat, m < nm ∧ x = m ∧ ¬ (0 ≤ y ∧ y < md_jb (D m))) → m_M_isJob (zI x) (zI y) h 0 h) := by
  have p1 := P.1
  have key : ∀ m : Nat, m < nm → x = m → m_M_in (zI y) 0 ((h.1 42 0 (zI x).toNatClampNeg) - 1) h (zI (if 0 ≤ y ∧ y < md_jb (D m) then 1 else 0)) h := fun m hm e => by
    obtain ⟨q1, q2, q3, q4, q5, q6⟩ := P.2.2.2.2 m hm
    rw [e, zI_cn (by omega), q3.2.2.2.2.1]
    exact in_1 y1 y2 (by have := q1.2.2.2.2.1; omega)
  refine ⟨fun m t hm ht ex ey => ?_, fun hx => ?_⟩
  · have hmx : 0 ≤ x ∧ x < nm := by omega
    refine wp_M_isJob ⟨_, h, s_isModeM P x1 x2, fun hc => absurd hc (nz1 hmx), fun _ => ⟨by rw [ex]; exact in3 P hm, _, h, key m hm ex, fun hc => absurd hc (nz1 (by omega)), fun _ => rfl⟩⟩
  · rcases hx with hx | ⟨m, hm, ex, hy⟩
    · exact wp_M_isJob ⟨_, h, s_isModeM P x1 x2, fun _ => rfl, fun hc => absurd (nz0 hx) hc⟩
    · exact wp_M_isJob ⟨_, h, s_isModeM P x1 x2, fun _ => rfl, fun _ => ⟨by rw [ex]; exact in3 P hm, _, h, key m hm ex, fun _ => rfl, fun hc => absurd (nz0 hy) hc⟩⟩
theorem s_isFrameM (P : PL h nm D) {x y : Int} (x1 : -2147483648 ≤ x) (x2 : x ≤ 2147483647) (y1 : -2147483648 ≤ y) (y2 : y ≤ 2147483647) : (∀ m t : Nat, m < nm → t < mF (D m) → x = m → y = t → m_M_isFrame (zI x) (zI y) h 1 h) ∧ ((¬ (0 ≤ x ∧ x < nm) ∨ ∃ m : Nat, m < nm ∧ x = m ∧ ¬ (0 ≤ y ∧ y < mF (D m))) → m_M_isFrame (zI x) (zI y) h 0 h) := by
  have p1 := P.1
  have k1 : ∀ m : Nat, m < nm → x = m → m_M_framesOf (zI x) h (zI (mF (D m))) h := fun m hm e => by
    obtain ⟨q1, q2, q3, q4, q5, q6⟩ := P.2.2.2.2 m hm
    rw [e]; exact s_framesOf q3 q1 (by omega)
  have key : ∀ m : Nat, m < nm → x = m → m_M_in (zI y) 0 (zI (mF (D m)) - 1) h (zI (if 0 ≤ y ∧ y < mF (D m) then 1 else 0)) h := fun m hm e => in_1 y1 y2 (by have : mF (D m) ≤ 24 := P.F24 hm; omega)
  refine ⟨fun m t hm ht ex ey => ?_, fun hx => ?_⟩
  · have hmx : 0 ≤ x ∧ x < nm := by omega
    refine wp_M_isFrame ⟨_, h, s_isModeM P x1 x2, fun hc => absurd hc (nz1 hmx), fun _ => ⟨_, h, k1 m hm ex, _, h, key m hm ex, fun hc => absurd hc (nz1 (by omega)), fun _ => rfl⟩⟩
  · rcases hx with hx | ⟨m, hm, ex, hy⟩
    · exact wp_M_isFrame ⟨_, h, s_isModeM P x1 x2, fun _ => rfl, fun hc => absurd (nz0 hx) hc⟩
    · exact wp_M_isFrame ⟨_, h, s_isModeM P x1 x2, fun _ => rfl, fun _ => ⟨_, h, k1 m hm ex, _, h, key m hm ex, fun _ => rfl, fun hc => absurd (nz0 hy) hc⟩⟩
/-! ===== refusals of tables ===== -/
noncomputable def gT (d : MD) : Int32 := if gdB d (md_fr d) = true then 0 else 5
theorem gT_y (hG : gdm d) : gT d = 0 := if_pos (gdB_iff.mpr hG)
theorem gT_n (hG : ¬ gdm d) : gT d = 5 := if_neg (fun x => hG (gdB_iff.mp x))
theorem s_tabRef0 (P : PL h nm D) {x : Int} (x1 : -2147483648 ≤ x) (x2 : x ≤ 2147483647) : m_FR_tableRefusal (zI x) 0 h 1 h := by
  by_cases hm : 0 ≤ x ∧ x < nm
  · exact wp_FR_tableRefusal ⟨_, h, s_isModeF P x1 x2, fun _ => rfl, fun _ => ⟨fun _ => rfl, fun hc => absurd rfl hc⟩⟩
  · exact wp_FR_tableRefusal ⟨_, h, s_isModeF P x1 x2, fun _ => rfl, fun hc => absurd (nz0 hm) hc⟩
theorem s_tabRef1 (P : PL h nm D) (hm : m < nm) : m_FR_tableRefusal (zI m) 1 h (gT (D m)) h := by
  have p1 := P.1
  have hx : 0 ≤ (m : Int) ∧ (m : Int) < nm := by omega
  obtain ⟨q1, q2, q3, q4, q5, q6⟩ := P.2.2.2.2 m hm
  refine wp_FR_tableRefusal ⟨_, h, s_isModeF P (by omega) (by omega), fun hc => absurd hc (nz1 hx), fun _ => ⟨fun hc => absurd hc (by decide), fun _ => ⟨in3 P hm, fun hc => ?_, fun hc => ?_⟩⟩⟩
  · rw [tq P hm, q4.2.1] at hc
    rw [gT_n (fun hG => by rw [gdI_1.mpr hG] at hc; exact absurd hc (by decide))]
  · rw [tq P hm, q4.2.1] at hc
    have : gdm (D m) := Classical.byContradiction (fun hG => hc (by rw [gd0 hG]; rfl))
    rw [gT_y this]
theorem s_tabWhy0 {a : Int32} : m_M_tableWhy a 0 h 1 h := wp_M_tableWhy ⟨fun _ => rfl, fun hc => absurd rfl hc⟩
theorem s_tabWhy1 (P : PL h nm D) (hm : m < nm) : ∃ h', m_M_tableWhy (zI m) 1 h (gT (D m)) h' ∧ MX nm D h h' ∧ (gdm (D m) → TL h' m (D m)) ∧ h'.1 8 0 1 = h.1 8 0 1 := by
  obtain ⟨h', a1, a2, a3, a4⟩ := s_laidX P hm
  refine ⟨h', wp_M_tableWhy ⟨fun hc => absurd hc (by decide), fun _ => ⟨_, h', a1, fun hc => ?_, fun hc => ?_⟩⟩, a2, a3, a4⟩
  · rw [gT_n (fun hG => by rw [gdI_1.mpr hG] at hc; exact absurd hc (by decide))]
  · have : gdm (D m) := Classical.byContradiction (fun hG => hc (by rw [gd0 hG]; rfl))
    rw [gT_y this]
/-! ===== where pieces begin ===== -/
noncomputable def bgA (d : MD) (j k n : Nat) : Int := sm n (fun i => if md_du d i < md_du d j ∨ (md_du d i = md_du d j ∧ i < j) then mU d i k else 0)
theorem s_ps_8 (T : TF h m d (md_fr d)) (w : WFm d) (G : gdm d) {j k : Nat} (hj : j < md_jb d) (hk : k < 24) : ∀ (e n : Nat) (s : Int), n + e = md_jb d → l_Table_pieceStart_8 m (zI j) (zI k) (zI s) (zI n) h (some (jm_i (zI (s + (bgA d j k (md_jb d) - bgA d j k n)))), h) := by
  have w1 := w.1
  have w5 := w.2.2.2.2.1
  have bd := md_bd w (g := md_fr d) (by omega) (by omega)
  have s6 := T.1.1.2.2.2.2.2.1
  have hij : jm_in (zI (j : Int)) 24 := zI_in (by omega) (by omega) (by omega)
  have hik : jm_in (zI (k : Int)) 24 := zI_in (by omega) (by omega) (by omega)
  have dj := (bd.2.2 j hj).2.2.2
  have edj : h.1 14 m (zI (j : Int)).toNatClampNeg = zI (md_du d j) := by rw [zI_cn (by omega)]; exact (T.1.2.2 j hj).2.2
  intro e
  induction e with
  | zero =>
    intro n s en
    refine wp_Table_pieceStart_8 ⟨fun _ => ?_, fun hc => ?_⟩
    · rw [show n = md_jb d by omega, Int.sub_self, Int.add_zero]
    · rw [s6, zI_le (by omega) (by omega) (by omega) (by omega)] at hc; omega
  | succ e ih =>
    intro n s en
    have hn : n < md_jb d := by omega
    have hin : jm_in (zI (n : Int)) 24 := zI_in (by omega) (by omega) (by omega)
    have dn := (bd.2.2 n hn).2.2.2
    have edn : h.1 14 m (zI (n : Int)).toNatClampNeg = zI (md_du d n) := by rw [zI_cn (by omega)]; exact (T.1.2.2 n hn).2.2
    have eun : h.1 21 (24 * m + (zI (n : Int)).toNatClampNeg) (zI (k : Int)).toNatClampNeg = zI (mU d n k) := by rw [zI_cn (by omega), zI_cn (by omega)]; exact (T.2.2 G).2.1 n k hn hk
    have g := ih (n + 1) (s + (if md_du d n < md_du d j ∨ (md_du d n = md_du d j ∧ n < j) then mU d n k else 0)) (by omega)
    rw [show bgA d j k (n + 1) = bgA d j k n + (if md_du d n < md_du d j ∨ (md_du d n = md_du d j ∧ n < j) then mU d n k else 0) from rfl, show ∀ x y z : Int, s + x + (y - (z + x)) = s + (y - z) from fun x y z => by omega] at g
    have yes : (md_du d n < md_du d j ∨ (md_du d n = md_du d j ∧ n < j)) → l_Table_pieceStart_8 m (zI j) (zI k) (zI s + (h.1 21 (24 * m + (zI (n : Int)).toNatClampNeg) (zI (k : Int)).toNatClampNeg)) (zI n + 1) h (some (jm_i (zI (s + (bgA d j k (md_jb d) - bgA d j k n)))), h) := fun hy => by
      rw [if_pos hy] at g
      rw [eun, zI_add, zl_1, zI_add]; exact g
    have no : ¬ (md_du d n < md_du d j ∨ (md_du d n = md_du d j ∧ n < j)) → l_Table_pieceStart_8 m (zI j) (zI k) (zI s) (zI n + 1) h (some (jm_i (zI (s + (bgA d j k (md_jb d) - bgA d j k n)))), h) := fun hy => by
      rw [if_neg hy, Int.add_zero] at g
      rw [zl_1, zI_add]; exact g
    refine wp_Table_pieceStart_8 ⟨fun hc => ?_, fun _ => ⟨hin, hij, fun hc => ⟨hin, hik, yes ?_⟩, fun hc => ⟨hin, hij, fun hc2 => ⟨fun hc3 => no ?_, fun hc3 => ⟨hin, hik, yes ?_⟩⟩, fun hc2 => no ?_⟩⟩⟩
    · rw [s6, zI_le (by omega) (by omega) (by omega) (by omega)] at hc; omega
    · rw [edn, edj, zI_lt (by omega) (by omega) (by omega) (by omega)] at hc; exact Or.inl hc
    · rw [edn, edj, zI_lt (by omega) (by omega) (by omega) (by omega)] at hc; rw [zI_le (by omega) (by omega) (by omega) (by omega)] at hc3; omega
    · rw [edn, edj, zI_eq (by omega) (by omega) (by omega) (by omega)] at hc2; rw [zI_le (by omega) (by omega) (by omega) (by omega)] at hc3; omega
    · rw [edn, edj, zI_lt (by omega) (by omega) (by omega) (by omega)] at hc; rw [edn, edj, zI_eq (by omega) (by omega) (by omega) (by omega)] at hc2; omega
noncomputable def bgn (d : MD) (j k : Nat) : Int := (k : Int) * md_fr d + bgA d j k (md_jb d)
theorem s_pieceStart (T : TF h m d (md_fr d)) (w : WFm d) (G : gdm d) {j k : Nat} (hj : j < md_jb d) (hk : k < 24) : m_Table_pieceStart m (zI j) (zI k) h (zI (bgn d j k)) h := by
  have := s_ps_8 T w G hj hk (md_jb d) 0 ((k : Int) * md_fr d) (by omega)
  rw [show bgA d j k 0 = 0 from rfl, Int.sub_zero] at this
  refine wp_Table_pieceStart ?_
  rw [T.1.2.1, zI_mul]; exact this
theorem s_bo_9 (v : vM h m d) (w : WFm d) (hm : m < 3) (t : MTb h m d) {j k : Nat} (hj : j < md_jb d) (hk : k < 24) : ∀ (e n : Nat) (s : Int), n + e = md_jb d → l_M_beginOf_9 (zI m) (zI j) (zI k) (zI s) (zI n) h (some (jm_i (zI (s + (bgA d j k (md_jb d) - bgA d j k n)))), h) := by
  have w1 := w.1
  have w5 := w.2.2.2.2.1
  have bd := md_bd w (g := md_fr d) (by omega) (by omega)
  have hi : jm_in (zI (m : Int)) 3 := zI_in (by omega) (by omega) (by omega)
  have dj := (bd.2.2 j hj).2.2.2
  have hdj := s_dueOf v w hm hj
  intro e
  induction e with
  | zero =>
    intro n s en
    refine wp_M_beginOf_9 ⟨hi, fun _ => ?_, fun hc => ?_⟩
    · rw [show n = md_jb d by omega, Int.sub_self, Int.add_zero]
    · rw [zI_cn (by omega), v.2.2.2.2.1, zI_le (by omega) (by omega) (by omega) (by omega)] at hc; omega
  | succ e ih =>
    intro n s en
    have hn : n < md_jb d := by omega
    have dn := (bd.2.2 n hn).2.2.2
    have hdn := s_dueOf v w hm hn
    have hhs := s_has t hm (show n < 24 by omega) hk
    have g := ih (n + 1) (s + (if md_du d n < md_du d j ∨ (md_du d n = md_du d j ∧ n < j) then mU d n k else 0)) (by omega)
    rw [show bgA d j k (n + 1) = bgA d j k n + (if md_du d n < md_du d j ∨ (md_du d n = md_du d j ∧ n < j) then mU d n k else 0) from rfl, show ∀ x y z : Int, s + x + (y - (z + x)) = s + (y - z) from fun x y z => by omega] at g
    have yes : (md_du d n < md_du d j ∨ (md_du d n = md_du d j ∧ n < j)) → l_M_beginOf_9 (zI m) (zI j) (zI k) (zI s + zI (mU d n k)) (zI n + 1) h (some (jm_i (zI (s + (bgA d j k (md_jb d) - bgA d j k n)))), h) := fun hy => by
      rw [if_pos hy] at g
      rw [zI_add, zl_1, zI_add]; exact g
    have no : ¬ (md_du d n < md_du d j ∨ (md_du d n = md_du d j ∧ n < j)) → l_M_beginOf_9 (zI m) (zI j) (zI k) (zI s + 0) (zI n + 1) h (some (jm_i (zI (s + (bgA d j k (md_jb d) - bgA d j k n)))), h) := fun hy => by
      rw [if_neg hy] at g
      rw [zl_0, zI_add, zl_1, zI_add]; exact g
    refine wp_M_beginOf_9 ⟨hi, fun hc => ?_, fun _ => ⟨_, h, hdn, _, h, hdj, fun hc => ⟨_, h, hhs, yes ?_⟩, fun hc => ⟨_, h, hdn, _, h, hdj, fun hc2 => ⟨fun hc3 => no ?_, fun hc3 => ⟨_, h, hhs, yes ?_⟩⟩, fun hc2 => no ?_⟩⟩⟩
    · rw [zI_cn (by omega), v.2.2.2.2.1, zI_le (by omega) (by omega) (by omega) (by omega)] at hc; omega
    · rw [zI_lt (by omega) (by omega) (by omega) (by omega)] at hc; exact Or.inl hc
    · rw [zI_lt (by omega) (by omega) (by omega) (by omega)] at hc; rw [zI_le (by omega) (by omega) (by omega) (by omega)] at hc3; omega
    · rw [zI_eq (by omega) (by omega) (by omega) (by omega)] at hc2; rw [zI_le (by omega) (by omega) (by omega) (by omega)] at hc3; omega
    · rw [zI_lt (by omega) (by omega) (by omega) (by omega)] at hc; rw [zI_eq (by omega) (by omega) (by omega) (by omega)] at hc2; omega
theorem s_beginOf (v : vM h m d) (w : WFm d) (hm : m < 3) (t : MTb h m d) {j k : Nat} (hj : j < md_jb d) (hk : k < 24) : m_M_beginOf (zI m) (zI j) (zI k) h (zI (bgn d j k)) h := by
  have := s_bo_9 v w hm t hj hk (md_jb d) 0 ((k : Int) * md_fr d) (by omega)
  rw [show bgA d j k 0 = 0 from rfl, Int.sub_zero] at this
  refine wp_M_beginOf ⟨zI_in (by omega) (by omega) (by omega), ?_⟩
  rw [zI_cn (by omega), v.1, zI_mul, Int.mul_comm]; exact this
/-! ===== last frames ===== -/
def isLs (d : MD) (j : Nat) (k : Nat) : Prop := k < mF d ∧ 0 < mU d j k ∧ ∀ k', k < k' → k' < mF d → mU d j k' = 0
theorem isLs.uq {j k k' : Nat} (a : isLs d j k) (b : isLs d j k') : k = k' := by
  by_cases h1 : k < k'
  · have := a.2.2 k' h1 b.1; have := b.2.1; omega
  · by_cases h2 : k' < k
    · have := b.2.2 k h2 a.1; have := a.2.1; omega
    · omega
theorem isLs_ex (w : WFm d) (t : TId d) {j : Nat} (hj : j < md_jb d) : ∃ k, isLs d j k := by
  have a := t.1.2.2.1 j hj
  have hc := (w.2.2.2.2.2.2.1 _ (w.2.2.2.2.2.2.2.1 j hj).1).2.2.1
  have nn : ∀ k, k < mF d → 0 ≤ mU d j k := fun k hk => t.1.1 j k hj hk
  have key : ∀ n : Nat, n ≤ mF d → (∀ k', n ≤ k' → k' < mF d → mU d j k' = 0) → ∃ k, isLs d j k := by
    intro n
    induction n with
    | zero =>
      intro _ hz
      have : sm (mF d) (mU d j) = 0 := sm_zero (fun k hk => hz k (by omega) hk)
      have h1 : md_c d j = 0 + sm (mF d) (mU d j) := a.2
      unfold md_c at h1
      omega
    | succ n ih =>
      intro hn hz
      by_cases hu : mU d j n = 0
      · exact ih (by omega) (fun k' h1 h2 => by
          by_cases e : k' = n
          · rw [e]; exact hu
          · exact hz k' (by omega) h2)
      · exact ⟨n, by omega, by have := nn n (by omega); omega, fun k' h1 h2 => hz k' (by omega) h2⟩
  exact key (mF d) (Nat.le_refl _) (fun k' h1 h2 => by omega)
theorem isLs_w (t : TId d) {j k : Nat} (hj : j < md_jb d) (l : isLs d j k) : md_fi d (md_fr d) j ≤ k ∧ (k : Int) ≤ md_la d (md_fr d) j := t.1.2.1 j k hj l.1 (by have := l.2.1; show mU d j k ≠ 0; omega)
theorem mU_b (w : WFm d) (G : gdm d) (t : TId d) (j k : Nat) (hj : j < 24) (hk : k < 24) : 0 ≤ mU d j k ∧ mU d j k ≤ 100 := by
  have w1 := w.1
  exact TI_ub24 (gd_WN w (by omega) (by omega) G) t j k hj hk
theorem s_lf_6 (T : TF h m d (md_fr d)) (w : WFm d) (G : gdm d) (t : TId d) {j k : Nat} (hj : j < md_jb d) (l : isLs d j k) : ∀ (e : Nat), (k : Int) + e ≤ md_la d (md_fr d) j → l_Table_lastFrame_6 m (zI j) (zI ((k : Int) + e)) h (some (jm_i (zI k)), h) := by
  have w1 := w.1
  have w5 := w.2.2.2.2.1
  have bd := md_bd w (g := md_fr d) (by omega) (by omega)
  have bj := bd.2.2 j hj
  have hij : jm_in (zI (j : Int)) 24 := zI_in (by omega) (by omega) (by omega)
  have efi : h.1 16 m (zI (j : Int)).toNatClampNeg = zI (md_fi d (md_fr d) j) := by rw [zI_cn (by omega)]; exact (T.1.1.2.2.2.2.2.2.1 j hj).1
  have lw := isLs_w t hj l
  intro e
  induction e with
  | zero =>
    intro he
    have ub := mU_b w G t j k (by omega) (by have := l.1; unfold mF at this; omega)
    have eu : h.1 21 (24 * m + (zI (j : Int)).toNatClampNeg) (zI ((k : Int) + (0 : Nat))).toNatClampNeg = zI (mU d j k) := by rw [show (k : Int) + (0 : Nat) = k by omega, zI_cn (by omega), zI_cn (by omega)]; exact (T.2.2 G).2.1 j k hj (by omega)
    refine wp_Table_lastFrame_6 ⟨hij, fun hc => ?_, fun _ => ⟨hij, zI_in (by omega) (by omega) (by omega), fun hc => ?_, fun _ => ?_⟩⟩
    · rw [efi, zI_lt (by omega) (by omega) (by omega) (by omega)] at hc; omega
    · rw [eu, zl_0, zI_le (by omega) (by omega) (by omega) (by omega)] at hc; have := l.2.1; omega
    · rw [show (k : Int) + (0 : Nat) = k by omega]
  | succ e ih =>
    intro he
    have hz := l.2.2 (k + (e + 1)) (by omega) (by unfold mF; omega)
    have eu : h.1 21 (24 * m + (zI (j : Int)).toNatClampNeg) (zI ((k : Int) + (e + 1 : Nat))).toNatClampNeg = zI 0 := by rw [← hz, show (k : Int) + (e + 1 : Nat) = ((k + (e + 1) : Nat) : Int) by omega, zI_cn (by omega), zI_cn (by omega)]; exact (T.2.2 G).2.1 j (k + (e + 1)) hj (by omega)
    refine wp_Table_lastFrame_6 ⟨hij, fun hc => ?_, fun _ => ⟨hij, zI_in (by omega) (by omega) (by omega), fun _ => ?_, fun hc => ?_⟩⟩
    · rw [efi, zI_lt (by omega) (by omega) (by omega) (by omega)] at hc; omega
    · rw [zl_m1, zI_add, show (k : Int) + (e + 1 : Nat) + -1 = (k : Int) + e by omega]
      exact ih (by omega)
    · rw [eu] at hc; exact absurd (show zI 0 ≤ (0 : Int32) by decide) hc
theorem s_lastFrame (T : TF h m d (md_fr d)) (w : WFm d) (G : gdm d) (t : TId d) {j k : Nat} (hj : j < md_jb d) (l : isLs d j k) : m_Table_lastFrame m (zI j) h (zI k) h := by
  have w5 := w.2.2.2.2.1
  have lw := isLs_w t hj l
  have := s_lf_6 T w G t hj l (md_la d (md_fr d) j - k).toNat (by omega)
  rw [show (k : Int) + ((md_la d (md_fr d) j - k).toNat : Nat) = md_la d (md_fr d) j by omega] at this
  refine wp_Table_lastFrame ⟨zI_in (by omega) (by omega) (by omega), ?_⟩
  rw [zI_cn (by omega), (T.1.1.2.2.2.2.2.2.2.1 j hj).1]; exact this
/-! ===== open jobs ===== -/
noncomputable def opB (d : MD) (k j : Nat) : Bool := decide (j < md_jb d) && (decide (md_ja d j < (k : Int) * md_fr d) && decide (0 < sg (mU d j) k (mF d)))
theorem ls_sg (t : TId d) {j k x : Nat} (hj : j < md_jb d) (l : isLs d j x) (hk : k ≤ mF d) : 0 < sg (mU d j) k (mF d) ↔ k ≤ x := by
  have nn : ∀ k, k < mF d → 0 ≤ mU d j k := fun k hk => t.1.1 j k hj hk
  constructor
  · intro hp
    refine Classical.byContradiction (fun hx => ?_)
    have : sg (mU d j) k (mF d) = 0 := by
      have := sm_tail (f := mU d j) (n := k) (m := mF d) (fun i h1 h2 => l.2.2 i (by omega) h2) hk
      unfold sg; omega
    omega
  · intro hx
    have h1 : sm (x + 1) (mU d j) ≤ sm (mF d) (mU d j) := sm_mono (fun i h1 h2 => nn i h2) (by have := l.1; omega)
    have h2 : sm k (mU d j) ≤ sm x (mU d j) := sm_mono (fun i h1 h2 => nn i (by have := l.1; omega)) hx
    rw [sm_s] at h1
    have := l.2.1
    unfold sg; omega
theorem s_oj_4 (T : TF h m d (md_fr d)) (w : WFm d) (G : gdm d) (t : TId d) {k : Nat} (hk : k ≤ mF d) : ∀ (e n : Nat) (b : Int32), n + e = md_jb d → Mk b (fun j => decide (j < n) && opB d k j) → ∃ b', l_Table_openJobs_4 m (zI k) b (zI n) h (some (jm_i b'), h) ∧ Mk b' (opB d k) := by
  have w1 := w.1
  have w5 := w.2.2.2.2.1
  have w3 := w.2.2.1
  have bd := md_bd w (g := md_fr d) (by omega) (by omega)
  have hF : mF d ≤ 24 := bd.1
  have s6 := T.1.1.2.2.2.2.2.1
  intro e
  induction e with
  | zero =>
    intro n b en hM
    have en : n = md_jb d := by omega
    subst en
    refine ⟨b, wp_Table_openJobs_4 ⟨fun _ => rfl, fun hc => ?_⟩, hM.cg (fun j _ => ?_)⟩
    · rw [s6, zI_le (by omega) (by omega) (by omega) (by omega)] at hc; omega
    · (try dsimp only)
      unfold opB
      cases decide (j < md_jb d) <;> simp
  | succ e ih =>
    intro n b en hM
    have hn : n < md_jb d := by omega
    have hin : jm_in (zI (n : Int)) 24 := zI_in (by omega) (by omega) (by omega)
    have a := w.2.2.2.2.2.2.2.1 n hn
    have b7 := w.2.2.2.2.2.2.1 _ a.1
    have ern : h.1 13 m (zI (n : Int)).toNatClampNeg = zI (md_ja d n) := by rw [zI_cn (by omega)]; exact (T.1.2.2 n hn).2.1
    obtain ⟨x, l⟩ := isLs_ex w t hn
    have hxF := l.1
    have hls := s_lastFrame T w G t hn l
    have hsg := ls_sg t hn l hk
    have mb := mulB (show (0 : Int) ≤ k by omega) (show (k : Int) ≤ 24 by omega) (show (0 : Int) ≤ md_fr d by omega) w1.2
    have e1 : zI (n : Int) + 1 = zI ((n + 1 : Nat) : Int) := by rw [zl_1, zI_add]; rfl
    have yes : opB d k n = true → ∃ b', l_Table_openJobs_4 m (zI k) (b ||| (1 <<< (zI (n : Int) &&& 31))) (zI n + 1) h (some (jm_i b'), h) ∧ Mk b' (opB d k) := fun hy => by
      rw [e1]
      refine ih (n + 1) _ (by omega) ((hM.or1 (n := n) (by omega)).cg (fun i _ => ?_))
      (try dsimp only)
      by_cases e2 : i = n
      · subst e2; simp [hy]
      · rw [decide_eq_false e2, Bool.or_false]
        congr 1
        exact decide_eq_decide.mpr (by omega)
    have no : opB d k n = false → ∃ b', l_Table_openJobs_4 m (zI k) b (zI n + 1) h (some (jm_i b'), h) ∧ Mk b' (opB d k) := fun hy => by
      rw [e1]
      refine ih (n + 1) _ (by omega) (hM.cg (fun i _ => ?_))
      (try dsimp only)
      by_cases e2 : i = n
      · subst e2; simp [hy]
      · congr 1
        exact decide_eq_decide.mpr (by omega)
    by_cases c1 : md_ja d n < (k : Int) * md_fr d
    · by_cases c2 : k ≤ x
      · obtain ⟨b', r1, r2⟩ := yes (by unfold opB; rw [decide_eq_true hn, decide_eq_true c1, decide_eq_true (hsg.mpr c2)]; rfl)
        refine ⟨b', wp_Table_openJobs_4 ⟨fun hc => ?_, fun _ => ⟨hin, fun hc => ?_, fun _ => ⟨_, h, hls, fun hc => ?_, fun _ => r1⟩⟩⟩, r2⟩
        · rw [s6, zI_le (by omega) (by omega) (by omega) (by omega)] at hc; omega
        · rw [T.1.2.1, ern, zI_mul, zI_le (by omega) (by omega) (by omega) (by omega)] at hc; omega
        · rw [zI_lt (by omega) (by omega) (by omega) (by omega)] at hc; omega
      · obtain ⟨b', r1, r2⟩ := no (by unfold opB; rw [decide_eq_false (fun y => c2 (hsg.mp y)), Bool.and_false, Bool.and_false])
        refine ⟨b', wp_Table_openJobs_4 ⟨fun hc => ?_, fun _ => ⟨hin, fun hc => ?_, fun _ => ⟨_, h, hls, fun _ => r1, fun hc => ?_⟩⟩⟩, r2⟩
        · rw [s6, zI_le (by omega) (by omega) (by omega) (by omega)] at hc; omega
        · rw [T.1.2.1, ern, zI_mul, zI_le (by omega) (by omega) (by omega) (by omega)] at hc; omega
        · rw [zI_lt (by omega) (by omega) (by omega) (by omega)] at hc; omega
    · obtain ⟨b', r1, r2⟩ := no (by unfold opB; rw [decide_eq_false c1, Bool.false_and, Bool.and_false])
      refine ⟨b', wp_Table_openJobs_4 ⟨fun hc => ?_, fun _ => ⟨hin, fun _ => r1, fun hc => ?_⟩⟩, r2⟩
      · rw [s6, zI_le (by omega) (by omega) (by omega) (by omega)] at hc; omega
      · rw [T.1.2.1, ern, zI_mul, zI_le (by omega) (by omega) (by omega) (by omega)] at hc; omega
theorem s_openJobs (T : TF h m d (md_fr d)) (w : WFm d) (G : gdm d) (t : TId d) {k : Nat} (hk : k ≤ mF d) : ∃ b, m_Table_openJobs m (zI k) h b h ∧ Mk b (opB d k) := by
  obtain ⟨b', r1, r2⟩ := s_oj_4 T w G t hk (md_jb d) 0 0 (by omega) (Mk_0.cg (fun j _ => by simp))
  exact ⟨b', wp_Table_openJobs r1, r2⟩
theorem s_oo_14 (v : vM h m d) (w : WFm d) (hm : m < 3) (t : MTb h m d) (G : gdm d) (ti : TId d) {k j : Nat} (hk : k ≤ mF d) (hj : j < md_jb d) {b : Int32} {r : jm_Rs} (r1 : opB d k j = true → l_M_openOf_4 (zI m) (zI k) (b ||| (1 <<< (zI (j : Int) &&& 31))) (zI j + 1) h r) (r2 : opB d k j = false → l_M_openOf_4 (zI m) (zI k) (b ||| 0) (zI j + 1) h r) : ∀ (e n : Nat), n + e = mF d → k ≤ n → l_M_openOf_14 (zI m) (zI k) b (zI j) (zI (sg (mU d j) k n)) (zI n) h r := by
  have w1 := w.1
  have w5 := w.2.2.2.2.1
  have w3 := w.2.2.1
  have bd := md_bd w (g := md_fr d) (by omega) (by omega)
  have hF : mF d ≤ 24 := bd.1
  have a := w.2.2.2.2.2.2.2.1 j hj
  have b7 := w.2.2.2.2.2.2.1 _ a.1
  have mb := mulB (show (0 : Int) ≤ k by omega) (show (k : Int) ≤ 24 by omega) (show (0 : Int) ≤ md_fr d by omega) w1.2
  have e24 : (24 * zI (m : Int)) + zI (j : Int) = zI ((24 * m + j : Nat) : Int) := by rw [zl_24, zI_mul, zI_add]; congr 1
  have hfo := s_framesOf v w hm
  have ub : ∀ k, k < mF d → 0 ≤ mU d j k ∧ mU d j k ≤ 100 := fun k hk => mU_b w G ti j k (by omega) (by omega)
  intro e
  induction e with
  | zero =>
    intro n en hkn
    have en : n = mF d := by omega
    subst en
    have sb := sg_bd (F := mF d) (sl := mU d j) ub hF hkn (Nat.le_refl _)
    refine wp_M_openOf_14 ⟨_, h, hfo, fun _ => ⟨fun hc => r2 ?_, fun hc => ⟨?_, zI_in (by omega) (by omega) (by omega), fun hc2 => r2 ?_, fun hc2 => r1 ?_⟩⟩, fun hc => ?_⟩
    · rw [zl_0, zI_le (by omega) (by omega) (by omega) (by omega)] at hc
      unfold opB; rw [decide_eq_false (show ¬ 0 < sg (mU d j) k (mF d) by omega), Bool.and_false, Bool.and_false]
    · rw [e24]; exact zI_in (by omega) (by omega) (by omega)
    · rw [e24, zI_cn (by omega), zI_cn (by omega), v.1, (v.2.2.2.2.2.2 j hj).2, zI_mul, zI_le (by rw [Int.mul_comm]; omega) (by rw [Int.mul_comm]; omega) (by omega) (by omega), Int.mul_comm] at hc2
      unfold opB; rw [decide_eq_false (show ¬ md_ja d j < (k : Int) * md_fr d by omega), Bool.false_and, Bool.and_false]
    · rw [zl_0, zI_le (by omega) (by omega) (by omega) (by omega)] at hc
      rw [e24, zI_cn (by omega), zI_cn (by omega), v.1, (v.2.2.2.2.2.2 j hj).2, zI_mul, zI_le (by rw [Int.mul_comm]; omega) (by rw [Int.mul_comm]; omega) (by omega) (by omega), Int.mul_comm] at hc2
      unfold opB; rw [decide_eq_true hj, decide_eq_true (show md_ja d j < (k : Int) * md_fr d by omega), decide_eq_true (show 0 < sg (mU d j) k (mF d) by omega)]; rfl
    · rw [zI_le (by omega) (by omega) (by omega) (by omega)] at hc; omega
  | succ e ih =>
    intro n en hkn
    have g := ih (n + 1) (by omega) (by omega)
    rw [sg_s] at g
    refine wp_M_openOf_14 ⟨_, h, hfo, fun hc => ?_, fun _ => ⟨_, h, s_has t hm (show j < 24 by omega) (show n < 24 by omega), ?_⟩⟩
    · rw [zI_le (by omega) (by omega) (by omega) (by omega)] at hc; omega
    · rw [zI_add, zl_1, zI_add]; exact g
theorem s_oo_4 (v : vM h m d) (w : WFm d) (hm : m < 3) (t : MTb h m d) (G : gdm d) (ti : TId d) {k : Nat} (hk : k ≤ mF d) : ∀ (e n : Nat) (b : Int32), n + e = md_jb d → Mk b (fun j => decide (j < n) && opB d k j) → ∃ b', l_M_openOf_4 (zI m) (zI k) b (zI n) h (some (jm_i b'), h) ∧ Mk b' (opB d k) := by
  have w5 := w.2.2.2.2.1
  have hi : jm_in (zI (m : Int)) 3 := zI_in (by omega) (by omega) (by omega)
  intro e
  induction e with
  | zero =>
    intro n b en hM
    have en : n = md_jb d := by omega
    subst en
    refine ⟨b, wp_M_openOf_4 ⟨hi, fun _ => rfl, fun hc => ?_⟩, hM.cg (fun j _ => ?_)⟩
    · rw [zI_cn (by omega), v.2.2.2.2.1, zI_le (by omega) (by omega) (by omega) (by omega)] at hc; omega
    · (try dsimp only)
      unfold opB
      cases decide (j < md_jb d) <;> simp
  | succ e ih =>
    intro n b en hM
    have hn : n < md_jb d := by omega
    have e1 : zI (n : Int) + 1 = zI ((n + 1 : Nat) : Int) := by rw [zl_1, zI_add]; rfl
    cases hop : opB d k n with
    | true =>
      obtain ⟨b', r1, r2⟩ := ih (n + 1) _ (by omega) ((hM.or1 (n := n) (by omega)).cg (fun i _ => by
        (try dsimp only)
        by_cases e2 : i = n
        · subst e2; simp [hop]
        · rw [decide_eq_false e2, Bool.or_false]
          congr 1
          exact decide_eq_decide.mpr (by omega)))
      refine ⟨b', wp_M_openOf_4 ⟨hi, fun hc => ?_, fun _ => ?_⟩, r2⟩
      · rw [zI_cn (by omega), v.2.2.2.2.1, zI_le (by omega) (by omega) (by omega) (by omega)] at hc; omega
      · have := s_oo_14 v w hm t G ti hk hn (b := b) (r := (some (jm_i b'), h)) (fun _ => by rw [e1]; exact r1) (fun x => by rw [hop] at x; cases x) (mF d - k) k (by omega) (Nat.le_refl _)
        rw [show sg (mU d n) k k = 0 from Int.sub_self _] at this
        exact this
    | false =>
      obtain ⟨b', r1, r2⟩ := ih (n + 1) _ (by omega) (hM.or0.cg (fun i _ => by
        (try dsimp only)
        by_cases e2 : i = n
        · subst e2; simp [hop]
        · congr 1
          exact decide_eq_decide.mpr (by omega)))
      refine ⟨b', wp_M_openOf_4 ⟨hi, fun hc => ?_, fun _ => ?_⟩, r2⟩
      · rw [zI_cn (by omega), v.2.2.2.2.1, zI_le (by omega) (by omega) (by omega) (by omega)] at hc; omega
      · have := s_oo_14 v w hm t G ti hk hn (b := b) (r := (some (jm_i b'), h)) (fun x => by rw [hop] at x; cases x) (fun _ => by rw [e1]; exact r1) (mF d - k) k (by omega) (Nat.le_refl _)
        rw [show sg (mU d n) k k = 0 from Int.sub_self _] at this
        exact this
theorem s_openOf (v : vM h m d) (w : WFm d) (hm : m < 3) (t : MTb h m d) (G : gdm d) (ti : TId d) {k : Nat} (hk : k ≤ mF d) : ∃ b, m_M_openOf (zI m) (zI k) h b h ∧ Mk b (opB d k) := by
  obtain ⟨b', r1, r2⟩ := s_oo_4 v w hm t G ti hk (md_jb d) 0 0 (by omega) (Mk_0.cg (fun j _ => by simp))
  exact ⟨b', wp_M_openOf r1, r2⟩
/-- where the last piece ends, in the reference -/
theorem s_fin_22 (v : vM h m d) (w : WFm d) (hm : m < 3) (t : MTb h m d) (G : gdm d) (ti : TId d) {j k : Nat} (hj : j < md_jb d) (l : isLs d j k) : ∀ (e : Nat), k + e < mF d → l_M_finishes_22 (zI m) (zI j) (zI ((k + e : Nat) : Int)) h (some (jm_i (zI (bgn d j k + mU d j k))), h) := by
  have w1 := w.1
  have w5 := w.2.2.2.2.1
  have bd := md_bd w (g := md_fr d) (by omega) (by omega)
  have hF : mF d ≤ 24 := bd.1
  intro e
  induction e with
  | zero =>
    intro he
    have ub := mU_b w G ti j k (by omega) (by omega)
    have hh := s_has t hm (show j < 24 by omega) (show k < 24 by omega)
    refine wp_M_finishes_22 ⟨_, h, hh, fun hc => ?_, fun _ => ⟨_, h, s_beginOf v w hm t hj (by omega), _, h, hh, ?_⟩⟩
    · rw [zl_0, zI_eq (by omega) (by omega) (by omega) (by omega)] at hc; have := l.2.1; omega
    · rw [zI_add]; rfl
  | succ e ih =>
    intro he
    have hh := s_has t hm (show j < 24 by omega) (show k + (e + 1) < 24 by omega)
    rw [l.2.2 (k + (e + 1)) (by omega) he] at hh
    refine wp_M_finishes_22 ⟨_, h, hh, fun _ => ?_, fun hc => absurd rfl hc⟩
    rw [zl_m1, zI_add, show ((k + (e + 1) : Nat) : Int) + -1 = ((k + e : Nat) : Int) by omega]
    exact ih (by omega)
end TABS
