/-! ===== the clock begins; changes ===== -/
def ck0 : CK := ((0, 0, 0), (0, (fun _ => 0), (fun _ => 0)), (0, 0, 0, -2), (-2, -2))
theorem ck0_ok {nm : Nat} {D : Nat → MD} {B : Int} (hB : 0 ≤ B) (hn : 0 < nm) (w : WFm (D 0)) : ckOk nm D B ck0 := by
  refine ⟨⟨Int.le_refl _, hB⟩, hn, by show (0 : Nat) ≤ 8; omega, by show (0 : Nat) < 24; omega, fun G => ?_, Or.inl ⟨rfl, rfl⟩, fun x => absurd x (by show ¬ (0 : Nat) < 0; omega), fun i hi => absurd hi (by show ¬ i < 0; omega), fun i hi => absurd hi (by show ¬ i + 1 < 0; omega), fun i hi => absurd hi (by show ¬ i < 0; omega)⟩
  have := (mF_b w).2 G
  show 0 < mF (D 0)
  omega
def cBg : Nat → Nat → Nat → Prop := fun K i j => (K = 0 ∧ i = 0) ∨ (K = 7 ∧ j = 7)
theorem s_beginC {h : jm_H} : ∃ h', m_FR_beginClock h h' ∧ KF h' 0 ck0 ∧ h'.1 7 0 7 = 0 ∧ Ch cBg h h' := by
  obtain ⟨g, eg⟩ : ∃ g, g = (jm_sI (jm_sI (jm_sI (jm_sI (jm_sI (jm_sI (jm_sI (jm_sI (jm_sI (jm_sI h 0 0 0 0) 0 0 1 0) 0 0 2 0) 0 0 3 0) 0 0 4 0) 0 0 5 0) 0 0 6 0) 0 0 7 (-2)) 0 0 8 (-2)) 0 0 9 (-2)) := ⟨_, rfl⟩
  have cg : Ch cBg h g := by
    rw [eg]
    exact (((((((((Ch.sI (Or.inl ⟨rfl, rfl⟩)).tr (Ch.sI (Or.inl ⟨rfl, rfl⟩))).tr (Ch.sI (Or.inl ⟨rfl, rfl⟩))).tr (Ch.sI (Or.inl ⟨rfl, rfl⟩))).tr (Ch.sI (Or.inl ⟨rfl, rfl⟩))).tr (Ch.sI (Or.inl ⟨rfl, rfl⟩))).tr (Ch.sI (Or.inl ⟨rfl, rfl⟩))).tr (Ch.sI (Or.inl ⟨rfl, rfl⟩))).tr (Ch.sI (Or.inl ⟨rfl, rfl⟩))).tr (Ch.sI (Or.inl ⟨rfl, rfl⟩))
  refine ⟨jm_sI g 7 0 7 0, wp_FR_beginClock ⟨g, wp_Clock_begin (by rw [eg]), rfl⟩, ⟨?_, ?_, ?_, ?_, ?_, ?_, ?_, ?_, ?_, ?_, fun i hi => absurd hi (by show ¬ i < 0; omega)⟩, sI_eq, cg.tr (Ch.sI (Or.inr ⟨rfl, rfl⟩))⟩
  · rw [sI_ne (by omega), eg, sI_ne (by omega), sI_ne (by omega), sI_ne (by omega), sI_ne (by omega), sI_ne (by omega), sI_ne (by omega), sI_ne (by omega), sI_ne (by omega), sI_ne (by omega), sI_eq]; rfl
  · rw [sI_ne (by omega), eg, sI_ne (by omega), sI_ne (by omega), sI_ne (by omega), sI_ne (by omega), sI_ne (by omega), sI_ne (by omega), sI_ne (by omega), sI_ne (by omega), sI_eq]; rfl
  · rw [sI_ne (by omega), eg, sI_ne (by omega), sI_ne (by omega), sI_ne (by omega), sI_ne (by omega), sI_ne (by omega), sI_ne (by omega), sI_ne (by omega), sI_eq]; rfl
  · rw [sI_ne (by omega), eg, sI_ne (by omega), sI_ne (by omega), sI_ne (by omega), sI_ne (by omega), sI_ne (by omega), sI_ne (by omega), sI_eq]; rfl
  · rw [sI_ne (by omega), eg, sI_ne (by omega), sI_ne (by omega), sI_ne (by omega), sI_ne (by omega), sI_ne (by omega), sI_eq]; rfl
  · rw [sI_ne (by omega), eg, sI_ne (by omega), sI_ne (by omega), sI_ne (by omega), sI_ne (by omega), sI_eq]; rfl
  · rw [sI_ne (by omega), eg, sI_ne (by omega), sI_ne (by omega), sI_ne (by omega), sI_eq]; rfl
  · rw [sI_ne (by omega), eg, sI_ne (by omega), sI_ne (by omega), sI_eq]; rfl
  · rw [sI_ne (by omega), eg, sI_ne (by omega), sI_eq]; rfl
  · rw [sI_ne (by omega), eg, sI_eq]; rfl
def cSC : Nat → Nat → Nat → Prop := fun K _ j => K = 56 ∨ (K = 8 ∧ j = 43) ∨ (K = 52 ∧ j < 3)
theorem s_sc_32 : ∀ (e n : Nat) (h : jm_H), n + e = 3 → (∀ j, j < n → h.1 52 0 j = 0) → ∃ h', l_M_startsClock_32 (zI n) h (none, h') ∧ (∀ j, j < 3 → h'.1 52 0 j = 0) ∧ Ch (fun K _ j => K = 52 ∧ j < 3) h h' := by
  intro e
  induction e with
  | zero =>
    intro n h en Z
    refine ⟨h, wp_M_startsClock_32 ⟨fun _ => rfl, fun hc => ?_⟩, fun j hj => Z j (by omega), Ch.rf h⟩
    rw [zl_3, zI_le (by omega) (by omega) (by omega) (by omega)] at hc; omega
  | succ e ih =>
    intro n h en Z
    have c1 : Ch (fun K _ j => K = 52 ∧ j < 3) h (jm_sI h 52 0 n 0) := Ch.sI ⟨rfl, by omega⟩
    obtain ⟨h', r1, r2, r3⟩ := ih (n + 1) (jm_sI h 52 0 n 0) (by omega) (fun j hj => by
      by_cases e2 : j = n
      · rw [e2, sI_eq]
      · rw [sI_ne (by omega)]; exact Z j (by omega))
    refine ⟨h', wp_M_startsClock_32 ⟨fun hc => ?_, fun _ => ⟨zI_in (by omega) (by omega) (by omega), ?_⟩⟩, r2, c1.tr r3⟩
    · rw [zl_3, zI_le (by omega) (by omega) (by omega) (by omega)] at hc; omega
    · rw [zI_cn (by omega), e_p1]; exact r1
theorem s_starts {h : jm_H} : ∃ h', m_M_startsClock h h' ∧ KM h' 56 ck0 ∧ h'.1 8 0 43 = 0 ∧ (∀ j, j < 3 → h'.1 52 0 j = 0) ∧ Ch cSC h h' := by
  have key : ∃ g h', (∀ j, j < 28 → g.1 56 0 j = 0) ∧ Ch (fun K _ _ => K = 56) h g ∧ l_M_startsClock_2 (zI ((0 : Nat) : Int)) h (none, h') ∧ (∀ j, j < 3 → h'.1 52 0 j = 0) ∧ Ch (fun K _ j => K = 52 ∧ j < 3) (jm_sI (jm_sI (jm_sI (jm_sI g 56 0 7 (-2)) 56 0 8 (-2)) 56 0 9 (-2)) 8 0 43 0) h' := by
    have all : ∀ (e n : Nat) (h : jm_H), n + e = 28 → (∀ j, j < n → h.1 56 0 j = 0) → ∃ g h', (∀ j, j < 28 → g.1 56 0 j = 0) ∧ Ch (fun K _ _ => K = 56) h g ∧ l_M_startsClock_2 (zI n) h (none, h') ∧ (∀ j, j < 3 → h'.1 52 0 j = 0) ∧ Ch (fun K _ j => K = 52 ∧ j < 3) (jm_sI (jm_sI (jm_sI (jm_sI g 56 0 7 (-2)) 56 0 8 (-2)) 56 0 9 (-2)) 8 0 43 0) h' := by
      intro e
      induction e with
      | zero =>
        intro n h en Z
        obtain ⟨h', r1, r2, r3⟩ := s_sc_32 3 0 (jm_sI (jm_sI (jm_sI (jm_sI h 56 0 7 (-2)) 56 0 8 (-2)) 56 0 9 (-2)) 8 0 43 0) (by omega) (fun j hj => by omega)
        refine ⟨h, h', fun j hj => Z j (by omega), Ch.rf h, wp_M_startsClock_2 ⟨fun _ => r1, fun hc => ?_⟩, r2, r3⟩
        rw [zl_28, zI_le (by omega) (by omega) (by omega) (by omega)] at hc; omega
      | succ e ih =>
        intro n h en Z
        have c1 : Ch (fun K _ _ => K = 56) h (jm_sI h 56 0 n 0) := Ch.sI rfl
        obtain ⟨g, h', r1, r2, r3, r4, r5⟩ := ih (n + 1) (jm_sI h 56 0 n 0) (by omega) (fun j hj => by
          by_cases e2 : j = n
          · rw [e2, sI_eq]
          · rw [sI_ne (by omega)]; exact Z j (by omega))
        refine ⟨g, h', r1, c1.tr r2, wp_M_startsClock_2 ⟨fun hc => ?_, fun _ => ⟨zI_in (by omega) (by omega) (by omega), ?_⟩⟩, r4, r5⟩
        · rw [zl_28, zI_le (by omega) (by omega) (by omega) (by omega)] at hc; omega
        · rw [zI_cn (by omega), e_p1]; exact r3
    exact all 28 0 h (by omega) (fun j hj => by omega)
  obtain ⟨g, h', a1, a2, a3, a4, a5⟩ := key
  have e56 : ∀ j, h'.1 56 0 j = (jm_sI (jm_sI (jm_sI (jm_sI g 56 0 7 (-2)) 56 0 8 (-2)) 56 0 9 (-2)) 8 0 43 0).1 56 0 j := fun j => a5.at (by omega)
  have e0 : ∀ j, j < 28 → j ≠ 7 → j ≠ 8 → j ≠ 9 → h'.1 56 0 j = 0 := fun j h1 h2 h3 h4 => by
    rw [e56, sI_ne (by omega), sI_ne (by omega), sI_ne (by omega), sI_ne (by omega)]; exact a1 j h1
  refine ⟨h', wp_M_startsClock a3, ⟨?_, ?_, ?_, ?_, ?_, ?_, ?_, ?_, ?_, ?_, fun i hi => absurd hi (by show ¬ i < 0; omega)⟩, ?_, a4, ?_⟩
  · exact e0 0 (by omega) (by omega) (by omega) (by omega)
  · exact e0 1 (by omega) (by omega) (by omega) (by omega)
  · exact e0 2 (by omega) (by omega) (by omega) (by omega)
  · exact e0 3 (by omega) (by omega) (by omega) (by omega)
  · exact e0 4 (by omega) (by omega) (by omega) (by omega)
  · exact e0 5 (by omega) (by omega) (by omega) (by omega)
  · exact e0 6 (by omega) (by omega) (by omega) (by omega)
  · rw [e56, sI_ne (by omega), sI_ne (by omega), sI_ne (by omega), sI_eq]; rfl
  · rw [e56, sI_ne (by omega), sI_ne (by omega), sI_eq]; rfl
  · rw [e56, sI_ne (by omega), sI_eq]; rfl
  · rw [a5.at (by omega), sI_eq]
  · exact ((((((a2.mono (fun K i j x => by unfold cSC; omega)).tr (Ch.sI (by unfold cSC; omega))).tr (Ch.sI (by unfold cSC; omega))).tr (Ch.sI (by unfold cSC; omega))).tr (Ch.sI (by unfold cSC; omega)))).tr (a5.mono (fun K i j x => by unfold cSC; omega))
theorem INV.new {h : jm_H} {nm : Nat} {D : Nat → MD} {B : Int} (hB : 0 ≤ B) (hn : 0 < nm) (P : PL h nm D) (kF : KF h 0 ck0) (kM : KM h 56 ck0) (k7 : h.1 7 0 7 = 0) (k43 : h.1 8 0 43 = 0) (t1 : h.1 7 0 8 = 0) (t2 : h.1 8 0 1 = 0) (f : h.1 7 0 9 = h.1 8 0 2) (Q : TP h) : INV B h := by
  refine ⟨nm, D, P, ⟨fun x => by omega, fun _ => ⟨ck0, kF, kM, ck0_ok hB hn (P.2.2.2.2 0 hn).1, fun x => absurd x (by show ¬ (0 : Nat) < 0; omega), fun x => absurd x (by show ¬ (0 : Int) ≤ -2; omega)⟩, 0, Or.inl rfl, k7, k43, fun x => by omega⟩, ⟨by rw [t1, t2], f, fun x => ?_⟩, Q⟩
  rw [t1] at x; exact absurd x (by decide)
theorem vM.chg2 {h h' : jm_H} {m : Nat} {d : MD} (v : vM h m d) (w4 : md_tk d ≤ 6) (w5 : md_jb d ≤ 24) (e : ∀ K j, ((K = 34 ∨ K = 35 ∨ K = 36 ∨ K = 37 ∨ K = 42) ∧ j = m) ∨ (38 ≤ K ∧ K ≤ 41 ∧ 6 * m ≤ j ∧ j < 6 * m + 6) ∨ (43 ≤ K ∧ K ≤ 44 ∧ 24 * m ≤ j ∧ j < 24 * m + 24) → h'.1 K 0 j = h.1 K 0 j) : vM h' m d := by
  obtain ⟨v1, v2, v3, v4, v5, v6, v7⟩ := v
  refine ⟨?_, ?_, ?_, ?_, ?_, fun t ht => ?_, fun j hj => ?_⟩
  · rw [e 34 _ (by omega)]; exact v1
  · rw [e 35 _ (by omega)]; exact v2
  · rw [e 36 _ (by omega)]; exact v3
  · rw [e 37 _ (by omega)]; exact v4
  · rw [e 42 _ (by omega)]; exact v5
  · rw [e 38 _ (by omega), e 39 _ (by omega), e 40 _ (by omega), e 41 _ (by omega)]; exact v6 t ht
  · rw [e 43 _ (by omega), e 44 _ (by omega)]; exact v7 j hj
/-- a table elsewhere stays -/
theorem TF.chg {h h' : jm_H} {m : Nat} {d : MD} {g : Int} (q4 : TF h m d g) (hj : md_jb d ≤ 24) (e : ∀ K i j, ((K = 1 ∨ K = 6 ∨ (12 ≤ K ∧ K ≤ 19)) ∧ i = m) ∨ (K = 21 ∧ 24 * m ≤ i ∧ i < 24 * m + 24) → h'.1 K i j = h.1 K i j) : TF h' m d g := by
  obtain ⟨⟨s, s2, s3⟩, t1, t2⟩ := q4
  obtain ⟨s1', s2', s3', s4, s5, s6, s7, s8, s9⟩ := s
  refine ⟨⟨⟨s1', s2', s3', ?_, ?_, ?_, fun j hj => ?_, fun j hj => ?_, fun j hj => ?_⟩, ?_, fun j hj => ?_⟩, ?_, fun hG => ⟨fun k hk => ?_, fun j k hj hk => ?_, ?_, ?_⟩⟩
  · rw [e _ _ _ (by omega)]; exact s4
  · rw [e _ _ _ (by omega)]; exact s5
  · rw [e _ _ _ (by omega)]; exact s6
  · rw [e _ _ _ (by omega)]; exact s7 j hj
  · rw [e _ _ _ (by omega)]; exact s8 j hj
  · rw [e _ _ _ (by omega)]; exact s9 j hj
  · rw [e _ _ _ (by omega)]; exact s2
  · rw [e _ _ _ (by omega), e _ _ _ (by omega), e _ _ _ (by omega)]; exact s3 j hj
  · rw [e _ _ _ (by omega)]; exact t1
  · rw [e _ _ _ (by omega)]; exact (t2 hG).1 k hk
  · rw [e _ _ _ (by omega)]; exact (t2 hG).2.1 j k hj hk
  · rw [e _ _ _ (by omega)]; exact (t2 hG).2.2.1
  · rw [e _ _ _ (by omega)]; exact (t2 hG).2.2.2
def dWith (D : Nat → MD) (m : Nat) (d : MD) : Nat → MD := fun i => if i = m then d else D i
theorem dW_eq (D : Nat → MD) (m : Nat) (d : MD) : dWith D m d m = d := if_pos rfl
theorem dW_ne {D : Nat → MD} {m i : Nat} {d : MD} (hi : i ≠ m) : dWith D m d i = D i := if_neg hi
section CHG
variable {B : Int} {h : jm_H} {nm : Nat} {D : Nat → MD} {m : Nat} {d : MD}
/-- what a change leaves of the class -/
def cCF (q m : Nat) : Nat → Nat → Nat → Prop := fun K i j => ((K = 2 ∨ K = 24) ∧ i = q) ∨ cMk m K i j ∨ cBg K i j ∨ (K = 7 ∧ j = 8)
theorem s_anewF (P : PL h nm D) (hm : m < nm) (w : WFm d) {g : jm_H} (v : vF g (3 * (h.2.1 7 0 1) + m) d) (cg : Ch (fun K i _ => (K = 2 ∨ K = 24) ∧ i = 3 * (h.2.1 7 0 1) + m) h g) : ∃ h', m_FR_makeAnew (zI m) g h' ∧ vF h' (3 * (h.2.1 7 0 1) + m) d ∧ TF h' m d (md_fr d) ∧ (gdm d → TId d) ∧ KF h' 0 ck0 ∧ h'.1 7 0 7 = 0 ∧ Ch (cCF (3 * (h.2.1 7 0 1) + m) m) h h' := by
  have w1 := w.1
  have n3 := P.1
  obtain ⟨h1, a1, a2, a3, a4⟩ := s_make (f := m) v w (g := md_fr d) (by omega) (by omega)
  obtain ⟨h2, b1, b2, b3, b4⟩ := s_beginC (h := h1)
  have e2 : g.2 = h.2 := cg.2
  refine ⟨h2, wp_FR_makeAnew ⟨in3 P hm, in3 P hm, in3 P hm, h1, ?_, h2, b1, rfl⟩, ?_, ?_, a4, b2, b3, ?_⟩
  · rw [e2, tq P hm, qm P hm, v.1]; exact a1
  · exact v.chg (fun K j hK => by rw [b4.at (by unfold cBg; omega), a3.at (by unfold cMk cL cD; omega)])
  · exact a2.chg w.2.2.2.2.1 (fun K i j hK => b4.at (by unfold cBg; omega))
  · exact ((cg.mono (fun K i j x => Or.inl x)).tr (a3.mono (fun K i j x => Or.inr (Or.inl x)))).tr (b4.mono (fun K i j x => Or.inr (Or.inr (Or.inl x))))
/-- and of the reference -/
def cCM (m : Nat) : Nat → Nat → Nat → Prop := fun K _ j => cSC K 0 j ∨ ((K = 34 ∨ K = 35 ∨ K = 37) ∧ j = m) ∨ (K = 40 ∧ 6 * m ≤ j ∧ j < 6 * m + 6) ∨ (K = 8 ∧ (j = 0 ∨ j = 1 ∨ j = 3))
theorem chg_inv (hB : 0 ≤ B) (P : PL h nm D) (T : TT h) (Q : TP h) (hm : m < nm) (w : WFm d) (ti : gdm d → TId d) {h1 h2 : jm_H} (c1 : Ch (cCF (3 * (h.2.1 7 0 1) + m) m) h h1) (v1 : vF h1 (3 * (h.2.1 7 0 1) + m) d) (t1 : TF h1 m d (md_fr d)) (k1 : KF h1 0 ck0) (k7 : h1.1 7 0 7 = 0) (f1 : h1.1 7 0 8 = 0) (c2 : Ch (cCM m) h1 h2) (v2 : vM h2 m d) (k2 : KM h2 56 ck0) (k43 : h2.1 8 0 43 = 0) (k52 : ∀ j, j < 3 → h2.1 52 0 j = 0) (f2 : h2.1 8 0 1 = 0) : INV B h2 := by
  have n3 := P.1
  have e2 : h2.2 = h.2 := c2.2.trans c1.2
  refine INV.new (nm := nm) (D := dWith D m d) hB (by omega) ⟨n3, by rw [e2]; exact P.2.1, ?_, ?_, fun i hi => ?_⟩ (k1.chg (fun K j hK => c2.at (by unfold cCM cSC; omega))) k2 (by rw [c2.at (by unfold cCM cSC; omega)]; exact k7) k43 (by rw [c2.at (by unfold cCM cSC; omega)]; exact f1) f2 ?_ (Q.chg (fun K j hK => by rw [c2.at (by unfold cCM cSC; omega), c1.at (by unfold cCF cMk cL cD cBg; omega)]))
  · rw [e2, c2.at (by unfold cCM cSC; omega), c1.at (by unfold cCF cMk cL cD cBg; omega)]; exact P.2.2.1
  · rw [c2.at (by unfold cCM cSC; omega), c1.at (by unfold cCF cMk cL cD cBg; omega)]; exact P.2.2.2.1
  · rw [e2]
    by_cases ei : i = m
    · subst ei
      rw [dW_eq]
      exact ⟨w, v1.chg (fun K j hK => c2.at (by unfold cCM cSC; omega)), v2, t1.chg w.2.2.2.2.1 (fun K i j hK => c2.at (by unfold cCM cSC; omega)), ⟨0, k52 i (by omega), Or.inl rfl⟩, ti⟩
    · rw [dW_ne ei]
      obtain ⟨q1, q2, q3, q4, q5, q6⟩ := P.2.2.2.2 i hi
      refine ⟨q1, q2.chg (fun K j hK => by rw [c2.at (by unfold cCM cSC; omega), c1.at (by unfold cCF cMk cL cD cBg; omega)]), q3.chg2 q1.2.2.2.1 q1.2.2.2.2.1 (fun K j hK => by rw [c2.at (by unfold cCM cSC; omega), c1.at (by unfold cCF cMk cL cD cBg; omega)]), q4.chg q1.2.2.2.2.1 (fun K i j hK => by rw [c2.at (by unfold cCM cSC; omega), c1.at (by unfold cCF cMk cL cD cBg; omega)]), ⟨0, k52 i (by omega), Or.inl rfl⟩, q6⟩
  · rw [c2.at (by unfold cCM cSC; omega), c2.at (by unfold cCM cSC; omega), c1.at (by unfold cCF cMk cL cD cBg; omega), c1.at (by unfold cCF cMk cL cD cBg; omega)]; exact T.2.1
theorem s_isModeN {g : jm_H} (e : g.1 8 0 6 = zI nm) (n3 : nm ≤ 3) {x : Int} (x1 : -2147483648 ≤ x) (x2 : x ≤ 2147483647) : m_M_isMode (zI x) g (zI (if 0 ≤ x ∧ x < nm then 1 else 0)) g := by
  have := s_in (h := g) (x := x) (a := 0) (b := (nm : Int) - 1) x1 x2 (by omega) (by omega) (by omega) (by omega)
  have e' : (if 0 ≤ x ∧ x ≤ (nm : Int) - 1 then (1 : Int) else 0) = if 0 ≤ x ∧ x < nm then 1 else 0 := by
    by_cases hc : 0 ≤ x ∧ x < nm
    · rw [if_pos hc, if_pos (by omega)]
    · rw [if_neg hc, if_neg (by omega)]
  rw [e'] at this
  refine wp_M_isMode ⟨zI (if 0 ≤ x ∧ x < nm then 1 else 0), g, ?_, ?_, rfl⟩
  · rw [e, zl_1, zI_sub]; exact this
  · split <;> rfl
theorem hAn_m (g : jm_H) (m : Nat) : Ch (cCM m) g (hAn g) := ((Ch.sI (by unfold cCM; omega)).tr (Ch.sI (by unfold cCM; omega))).tr (Ch.sI (by unfold cCM; omega))
def dCo (d : MD) (t : Nat) (v : Int) : MD := (d.1, d.2.1, (md_ph d, md_pe d, up (md_co d) t v, md_sp d), d.2.2.2)
def dRs (d : MD) (v : Int) : MD := ((md_fr d, v, md_rd d), d.2)
def dFr (d : MD) (v : Int) : MD := ((v, md_rs d, if md_tk d = 0 then v else md_rd d), d.2)
theorem c_reserve (hB : 0 ≤ B) (I : INV B h) (a b : Int32) : ∃ v h1 h2, m_FR_reserve a b h v h1 ∧ m_M_reserve a b h1 v h2 ∧ INV B h2 := by
  obtain ⟨nm, D, P, C, T, Q⟩ := I
  obtain ⟨x, rfl, x1, x2⟩ := i32x a
  obtain ⟨y, rfl, y1, y2⟩ := i32x b
  by_cases hx : 0 ≤ x ∧ x < nm
  · obtain ⟨m, hm, rfl⟩ := mode_of hx
    have n3 := P.1
    obtain ⟨q1, q2, q3, q4, q5, q6⟩ := P.2.2.2.2 m hm
    have w1 := q1.1
    have eq0 : h.1 2 (3 * (h.2.1 7 0 1) + (zI (m : Int)).toNatClampNeg) 0 = zI (md_fr (D m)) := by rw [qm P hm]; exact q2.1
    by_cases hy : (0 ≤ y ∧ y ≤ 59) ∧ y < md_fr (D m)
    · have w' : WFm (dRs (D m) y) := by
        obtain ⟨u1, u2, u3, u4, u5, u6, u7, u8, u9⟩ := q1
        exact ⟨u1, ⟨hy.1.1, hy.2⟩, u3, u4, u5, u6, u7, u8, u9⟩
      obtain ⟨g, eg⟩ : ∃ g, g = jm_sI h 2 (3 * (h.2.1 7 0 1) + m) 1 (zI y) := ⟨_, rfl⟩
      have cg : Ch (fun K i _ => (K = 2 ∨ K = 24) ∧ i = 3 * (h.2.1 7 0 1) + m) h g := by rw [eg]; exact Ch.sI ⟨Or.inl rfl, rfl⟩
      have vg : vF g (3 * (h.2.1 7 0 1) + m) (dRs (D m) y) := by
        obtain ⟨v1, v2, v3, v4, v5, v6, v7⟩ := q2
        refine ⟨?_, ?_, ?_, ?_, fun z => ?_, fun t ht => ?_, fun j hj => ?_⟩
        · rw [eg, sI_ne (by omega)]; exact v1
        · rw [eg, sI_eq]; rfl
        · rw [eg, sI_ne (by omega)]; exact v3
        · rw [eg, sI_ne (by omega)]; exact v4
        · rw [eg, sI_ne (by omega)]; exact v5 z
        · rw [eg, sI_ne (by omega), sI_ne (by omega), sI_ne (by omega), sI_ne (by omega)]; exact v6 t ht
        · rw [eg, sI_ne (by omega), sI_ne (by omega)]; exact v7 j hj
      obtain ⟨h1, a1, a2, a3, a4, a5, a6, a7⟩ := s_anewF P hm w' vg cg
      have c1 : Ch (cCF (3 * (h.2.1 7 0 1) + m) m) h (jm_sI h1 7 0 8 0) := a7.tr (Ch.sI (Or.inr (Or.inr (Or.inr ⟨rfl, rfl⟩))))
      have eM : ∀ K j, 34 ≤ K → K ≤ 44 → (hAn (jm_sI h1 7 0 8 0)).1 K 0 j = h.1 K 0 j := fun K j z1 z2 => by rw [hAn56 _ (by omega), c1.at (by unfold cCF cMk cL cD cBg; omega)]
      have P8 : (hAn (jm_sI h1 7 0 8 0)).1 8 0 6 = h.1 8 0 6 := by rw [(hAn_c _).at (by unfold cM2 cMs; omega), c1.at (by unfold cCF cMk cL cD cBg; omega)]
      have iM : m_M_isMode (zI m) (hAn (jm_sI h1 7 0 8 0)) (zI (if 0 ≤ (m : Int) ∧ (m : Int) < nm then 1 else 0)) (hAn (jm_sI h1 7 0 8 0)) := s_isModeN (by rw [P8]; exact P.2.2.2.1) n3 x1 x2
      obtain ⟨k, ek⟩ : ∃ k, k = jm_sI (hAn (jm_sI h1 7 0 8 0)) 35 0 m (zI y) := ⟨_, rfl⟩
      have ck : Ch (cCM m) (hAn (jm_sI h1 7 0 8 0)) k := by rw [ek]; exact Ch.sI (by unfold cCM; omega)
      obtain ⟨h2, b1, b2, b3, b4, b5⟩ := s_starts (h := k)
      have c2 : Ch (cCM m) (jm_sI h1 7 0 8 0) h2 := ((hAn_m _ m).tr ck).tr (b5.mono (fun K i j z => Or.inl z))
      have v2 : vM h2 m (dRs (D m) y) := by
        obtain ⟨u1, u2, u3, u4, u5, u6, u7⟩ := q3
        have e : ∀ K j, 34 ≤ K → K ≤ 44 → ¬ (K = 35 ∧ j = m) → h2.1 K 0 j = h.1 K 0 j := fun K j z1 z2 z3 => by rw [b5.at (by unfold cSC; omega), ek, sI_ne (by omega), eM K j z1 z2]
        refine ⟨?_, ?_, ?_, ?_, ?_, fun t ht => ?_, fun j hj => ?_⟩
        · rw [e _ _ (by omega) (by omega) (by omega)]; exact u1
        · rw [b5.at (by unfold cSC; omega), ek, sI_eq]; rfl
        · rw [e _ _ (by omega) (by omega) (by omega)]; exact u3
        · rw [e _ _ (by omega) (by omega) (by omega)]; exact u4
        · rw [e _ _ (by omega) (by omega) (by omega)]; exact u5
        · rw [e _ _ (by omega) (by omega) (by omega), e _ _ (by omega) (by omega) (by omega), e _ _ (by omega) (by omega) (by omega), e _ _ (by omega) (by omega) (by omega)]; exact u6 t ht
        · rw [e _ _ (by omega) (by omega) (by omega), e _ _ (by omega) (by omega) (by omega)]; exact u7 j hj
      have t8 : h2.1 8 0 1 = 0 := by rw [b5.at (by unfold cSC; omega), ek, sI_ne (by omega)]; exact hAn_t _
      refine ⟨_, _, h2, wp_FR_reserve ⟨_, h, s_isModeF P x1 x2, fun hc => absurd hc (nz1 hx), fun _ => ⟨in3 P hm, fun hc => ?_, fun _ => ⟨fun hc => ?_, fun _ => ⟨fun _ => ⟨h1, by rw [qm P hm, ← eg]; exact a1, _, _, wp_FR_answered rfl, rfl⟩, fun hc => ?_⟩⟩⟩⟩, wp_M_reserve ⟨_, s_an, _, _, iM, fun hc => absurd hc (nz1 hx), fun _ => ⟨_, _, s_in (x := y) (a := 0) (b := 59) y1 y2 (by omega) (by omega) (by omega) (by omega), fun hc => absurd hc (nz1 hy.1), fun _ => ⟨in6 P hm, fun _ => ⟨in6 P hm, in6 P hm, h2, by rw [zI_cn (by omega), ← ek]; exact b1, ?_⟩, fun hc => ?_⟩⟩⟩, chg_inv hB P T Q hm w' a4 c1 (a2.chg (fun K j hK => sI_ne (by omega))) (a3.chg w'.2.2.2.2.1 (fun K i j hK => sI_ne (by omega))) (a5.chg (fun K j hK => sI_ne (by omega))) (by rw [sI_ne (by omega)]; exact a6) sI_eq c2 v2 b2 b3 b4 t8⟩
      · rw [zl_0, zI_lt (by omega) (by omega) (by omega) (by omega)] at hc; omega
      · rw [zl_59, zI_lt (by omega) (by omega) (by omega) (by omega)] at hc; omega
      · rw [eq0, zI_lt (by omega) (by omega) (by omega) (by omega)] at hc; omega
      · rw [zI_cn (by omega), eM 35 m (by omega) (by omega), q3.2.1, q2.2.1]
      · rw [zI_cn (by omega), eM 34 m (by omega) (by omega), q3.1, zI_lt (by omega) (by omega) (by omega) (by omega)] at hc; omega
    · have Pa := PLa P 2
      have eM : (hAn (jm_sI h 7 0 8 2)).1 34 0 (zI (m : Int)).toNatClampNeg = zI (md_fr (D m)) := by rw [zI_cn (by omega)]; exact (Pa.2.2.2.2 m hm).2.2.1.1
      refine ⟨_, _, _, wp_FR_reserve ⟨_, h, s_isModeF P x1 x2, fun hc => absurd hc (nz1 hx), fun _ => ⟨in3 P hm, fun _ => ⟨_, _, wp_FR_refused rfl, rfl⟩, fun hc => ⟨fun _ => ⟨_, _, wp_FR_refused rfl, rfl⟩, fun hc2 => ⟨fun hc3 => ?_, fun _ => ⟨_, _, wp_FR_refused rfl, rfl⟩⟩⟩⟩⟩, wp_M_reserve ⟨_, s_an, _, _, s_isModeM Pa x1 x2, fun hc => absurd hc (nz1 hx), fun _ => ⟨_, _, s_in (x := y) (a := 0) (b := 59) y1 y2 (by omega) (by omega) (by omega) (by omega), fun _ => ⟨_, _, wp_M_no rfl, rfl⟩, fun hc => ⟨in6 P hm, fun hc2 => ?_, fun _ => ⟨_, _, wp_M_no rfl, rfl⟩⟩⟩⟩, ref_inv P C T Q (t := 2) (by decide)⟩
      · rw [zl_0, zI_lt (by omega) (by omega) (by omega) (by omega)] at hc
        rw [zl_59, zI_lt (by omega) (by omega) (by omega) (by omega)] at hc2
        rw [eq0, zI_lt (by omega) (by omega) (by omega) (by omega)] at hc3
        exact absurd ⟨⟨by omega, by omega⟩, hc3⟩ hy
      · rw [eM, zI_lt (by omega) (by omega) (by omega) (by omega)] at hc2
        have : 0 ≤ y ∧ y ≤ 59 := by
          apply Decidable.byContradiction
          intro hq
          exact hc (nz0 hq)
        exact absurd ⟨this, hc2⟩ hy
  · exact ⟨_, _, _, wp_FR_reserve ⟨_, h, s_isModeF P x1 x2, fun _ => ⟨_, _, wp_FR_refused rfl, rfl⟩, fun hc => absurd (nz0 hx) hc⟩, wp_M_reserve ⟨_, s_an, _, _, s_isModeM (PLa P 1) x1 x2, fun _ => ⟨_, _, wp_M_no rfl, rfl⟩, fun hc => absurd (nz0 hx) hc⟩, ref_inv P C T Q (t := 1) (by decide)⟩
end CHG
