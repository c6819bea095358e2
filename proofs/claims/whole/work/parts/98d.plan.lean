/-! ===== plan ===== -/
def PCf (d F : MD) : Prop := ∀ h q, drC1 h q d → ∃ h', m_Mode_numberJobs q h h' ∧ vF h' q F ∧ Ch (cNh q) h h'
def PRf (d F : MD) : Prop := ∀ g m, m < 3 → drR1 g m d → ∃ g', m_M_findsJobs (zI m) g g' ∧ vM g' m F ∧ Ch (cNg m) g g'
def cNm (dp : Nat) : Nat → Nat → Nat → Prop := fun K i _ => (K = 2 ∨ K = 26 ∨ K = 27) ∧ 3 * dp ≤ i ∧ i < 3 * dp + 3
section PLANC
variable {nd : Nat} {E F : Nat → MD}
theorem s_rd_80 (hnd : nd ≤ 3) {dp : Nat} (H : ∀ m, m < nd → PCf (E m) (F m)) {q : Int32} : ∀ (e m : Nat) (h : jm_H), m + e = nd → h.2.1 4 0 9 = dp → h.1 3 dp 0 = zI nd → h.1 4 0 7 = q → (∀ i, i < m → vF h (3 * dp + i) (F i)) → (∀ i, m ≤ i → i < nd → drC1 h (3 * dp + i) (E i)) → ∃ h', l_Reader_read_80 (zI m) h (some (jm_i q), h') ∧ (∀ i, i < nd → vF h' (3 * dp + i) (F i)) ∧ Ch (cNm dp) h h' := by
  intro e
  induction e with
  | zero =>
    intro m h em h9 h3 h7 Z1 Z2
    refine ⟨h, wp_Reader_read_80 ⟨fun _ => by rw [h7], fun hc => ?_⟩, fun i hi => Z1 i (by omega), Ch.rf h⟩
    rw [h9, h3, zI_le (by omega) (by omega) (by omega) (by omega)] at hc; omega
  | succ e ih =>
    intro m h em h9 h3 h7 Z1 Z2
    obtain ⟨h1, a1, a2, a3⟩ := H m (by omega) h (3 * dp + m) (Z2 m (Nat.le_refl _) (by omega))
    obtain ⟨h', r1, r2, r3⟩ := ih (m + 1) h1 (by omega) (by rw [a3.2]; exact h9) (by rw [a3.at (by unfold cNh; omega)]; exact h3) (by rw [a3.at (by unfold cNh; omega)]; exact h7) (fun i hi => by
      by_cases ei : i = m
      · rw [ei]; exact a2
      · exact (Z1 i (by omega)).chg (fun K j hK => a3.at (by unfold cNh; omega))) (fun i h1' h2' => (Z2 i (by omega) h2').chg (fun K j hK => a3.at (by unfold cNh; omega)))
    refine ⟨h', wp_Reader_read_80 ⟨fun hc => ?_, fun _ => ⟨zI_in (by omega) (by omega) (by omega), h1, ?_, ?_⟩⟩, r2, (a3.mono (fun K i j x => by unfold cNh at x; unfold cNm; omega)).tr r3⟩
    · rw [h9, h3, zI_le (by omega) (by omega) (by omega) (by omega)] at hc; omega
    · rw [h9, zI_cn (by omega)]; exact a1
    · rw [e_p1]; exact r1
def cPt : Nat → Nat → Nat → Prop := fun K i j => ((K = 1 ∨ K = 6 ∨ (12 ≤ K ∧ K ≤ 19)) ∧ i < 3) ∨ (K = 21 ∧ i < 72) ∨ cBg K i j ∨ (K = 7 ∧ j = 8)
theorem s_pl_43 (hnd : nd ≤ 3) {pl : Nat} (W : ∀ m, m < nd → WFm (F m)) : ∀ (e m : Nat) (h : jm_H), m + e = nd → h.2.1 7 0 1 = pl → h.1 3 pl 0 = zI nd → (∀ i, i < nd → vF h (3 * pl + i) (F i)) → (∀ i, i < m → TF h i (F i) (md_fr (F i)) ∧ (gdm (F i) → TId (F i))) → ∃ h', l_FR_plan_43 (zI m) h (some (jm_i (zI nd)), h') ∧ (∀ i, i < nd → vF h' (3 * pl + i) (F i) ∧ TF h' i (F i) (md_fr (F i)) ∧ (gdm (F i) → TId (F i))) ∧ KF h' 0 ck0 ∧ h'.1 7 0 7 = 0 ∧ h'.1 7 0 8 = 0 ∧ Ch cPt h h' := by
  intro e
  induction e with
  | zero =>
    intro m h em h1 h3 V T
    obtain ⟨h2, b1, b2, b3, b4⟩ := s_beginC (h := h)
    refine ⟨jm_sI h2 7 0 8 0, wp_FR_plan_43 ⟨fun _ => ⟨h2, b1, _, _, wp_FR_answered rfl, ?_⟩, fun hc => ?_⟩, fun i hi => ⟨(V i hi).chg (fun K j hK => by rw [sI_ne (by omega), b4.at (by unfold cBg; omega)]), (T i (by omega)).1.chg (W i hi).2.2.2.2.1 (fun K i j hK => by rw [sI_ne (by omega), b4.at (by unfold cBg; omega)]), (T i (by omega)).2⟩, b2.chg (fun K j hK => sI_ne (by omega)), by rw [sI_ne (by omega)]; exact b3, sI_eq, (b4.mono (fun K i j x => by unfold cPt; exact Or.inr (Or.inr (Or.inl x)))).tr (Ch.sI (by unfold cPt; omega))⟩
    · rw [b4.2, h1, b4.at (by unfold cBg; omega), h3]
    · rw [h1, h3, zI_le (by omega) (by omega) (by omega) (by omega)] at hc; omega
  | succ e ih =>
    intro m h em h1 h3 V T
    have wm := W m (by omega)
    have w1 := wm.1
    obtain ⟨h2, a1, a2, a3, a4⟩ := s_make (f := m) (V m (by omega)) wm (g := md_fr (F m)) (by omega) (by omega)
    obtain ⟨h', r1, r2, r3, r4, r5, r6⟩ := ih (m + 1) h2 (by omega) (by rw [a3.2]; exact h1) (by rw [a3.at (by unfold cMk cL cD; omega)]; exact h3) (fun i hi => (V i hi).chg (fun K j hK => a3.at (by unfold cMk cL cD; omega))) (fun i hi => by
      by_cases ei : i = m
      · subst ei; exact ⟨a2, a4⟩
      · have ti := T i (by omega)
        exact ⟨ti.1.chg (W i (by omega)).2.2.2.2.1 (fun K i' j hK => a3.at (by unfold cMk cL cD; omega)), ti.2⟩)
    refine ⟨h', wp_FR_plan_43 ⟨fun hc => ?_, fun _ => ⟨zI_in (by omega) (by omega) (by omega), zI_in (by omega) (by omega) (by omega), zI_in (by omega) (by omega) (by omega), h2, ?_, ?_⟩⟩, r2, r3, r4, r5, (a3.mono (fun K i j x => by unfold cMk cL cD at x; unfold cPt; omega)).tr r6⟩
    · rw [h1, h3, zI_le (by omega) (by omega) (by omega) (by omega)] at hc; omega
    · rw [zI_cn (by omega), show 3 * 0 + m = m by omega, h1, (V m (by omega)).1]; exact a1
    · rw [e_p1]; exact r1
/-! the reference -/
theorem s_pm_87 {m : Nat} (hm : m < 3) : ∀ (e u : Nat) (g : jm_H), u + e = 6 → (∀ K j, 38 ≤ K → K ≤ 41 → j < u → g.1 K 0 (6 * m + j) = g.1 K 0 (6 * (3 + m) + j)) → ∃ g', (∀ K j, 38 ≤ K → K ≤ 41 → j < 6 → g'.1 K 0 (6 * m + j) = g'.1 K 0 (6 * (3 + m) + j)) ∧ Ch (fun K _ j => 38 ≤ K ∧ K ≤ 41 ∧ 6 * m ≤ j ∧ j < 6 * m + 6) g g' ∧ ∀ r, (∃ h7, m_M_findsJobs (zI m) g' h7 ∧ l_M_plan_41 (zI m + 1) h7 r) → l_M_plan_87 (zI m) (zI u) g r := by
  intro e
  induction e with
  | zero =>
    intro u g eu Z
    have u6 : u = 6 := by omega
    subst u6
    exact ⟨g, fun K j h1 h2 h3 => Z K j h1 h2 h3, Ch.rf g, fun r hr => wp_M_plan_87 ⟨fun _ => hr, fun hc => absurd (by decide) hc⟩⟩
  | succ e ih =>
    intro u g eu Z
    have e1 : (6 * zI (m : Int)) + zI (u : Int) = zI ((6 * m + u : Nat) : Int) := by rw [zl_6, zI_mul, zI_add]; rfl
    have e2 : (18 : Int32) + zI ((6 * m + u : Nat) : Int) = zI ((6 * (3 + m) + u : Nat) : Int) := by rw [zl_18, zI_add]; congr 1; omega
    obtain ⟨k, ek⟩ : ∃ k, k = jm_sI (jm_sI (jm_sI (jm_sI g 38 0 (6 * m + u) (g.1 38 0 (6 * (3 + m) + u))) 39 0 (6 * m + u) (g.1 39 0 (6 * (3 + m) + u))) 40 0 (6 * m + u) (g.1 40 0 (6 * (3 + m) + u))) 41 0 (6 * m + u) (g.1 41 0 (6 * (3 + m) + u)) := ⟨_, rfl⟩
    have ck : Ch (fun K _ j => 38 ≤ K ∧ K ≤ 41 ∧ 6 * m ≤ j ∧ j < 6 * m + 6) g k := by
      rw [ek]
      exact (((Ch.sI (by omega)).tr (Ch.sI (by omega))).tr (Ch.sI (by omega))).tr (Ch.sI (by omega))
    have kn : ∀ K j, ¬ (38 ≤ K ∧ K ≤ 41 ∧ j = 6 * m + u) → k.1 K 0 j = g.1 K 0 j := fun K j hK => by rw [ek, sI_ne (by omega), sI_ne (by omega), sI_ne (by omega), sI_ne (by omega)]
    have ke : ∀ K, 38 ≤ K → K ≤ 41 → k.1 K 0 (6 * m + u) = g.1 K 0 (6 * (3 + m) + u) := fun K h1 h2 => by
      rcases (show K = 38 ∨ K = 39 ∨ K = 40 ∨ K = 41 by omega) with e | e | e | e <;> subst e
      · rw [ek, sI_ne (by omega), sI_ne (by omega), sI_ne (by omega), sI_eq]
      · rw [ek, sI_ne (by omega), sI_ne (by omega), sI_eq]
      · rw [ek, sI_ne (by omega), sI_eq]
      · rw [ek, sI_eq]
    obtain ⟨g', r1, r2, r3⟩ := ih (u + 1) k (by omega) (fun K j h1 h2 h3 => by
      by_cases ej : j = u
      · rw [ej, ke K h1 h2, kn _ _ (by omega)]
      · rw [kn _ _ (by omega), kn _ _ (by omega)]; exact Z K j h1 h2 (by omega))
    have i1 : jm_in ((6 * zI (m : Int)) + zI (u : Int)) 36 := by rw [e1]; exact zI_in (by omega) (by omega) (by omega)
    have i2 : jm_in ((18 : Int32) + ((6 * zI (m : Int)) + zI (u : Int))) 36 := by rw [e1, e2]; exact zI_in (by omega) (by omega) (by omega)
    refine ⟨g', r1, ck.tr r2, fun r hr => wp_M_plan_87 ⟨fun hc => ?_, fun _ => ⟨i2, i1, i2, i1, i2, i1, i2, i1, ?_⟩⟩⟩
    · rw [zl_6, zI_le (by omega) (by omega) (by omega) (by omega)] at hc; omega
    · rw [e1, e2, zI_cn (by omega), zI_cn (by omega), e_p1]
      have q := r3 r hr
      rw [ek] at q; exact q
def cPm : Nat → Nat → Nat → Prop := fun K _ j => (34 ≤ K ∧ K ≤ 37 ∧ j < 3) ∨ (38 ≤ K ∧ K ≤ 41 ∧ j < 18) ∨ (42 ≤ K ∧ K ≤ 44) ∨ cSC K 0 j
theorem s_pm_41 (hnd : nd ≤ 3) (H : ∀ m, m < nd → PRf (E m) (F m)) (W : ∀ m, m < nd → wfD (E m)) (WF : ∀ m, m < nd → WFm (F m)) : ∀ (e m : Nat) (g : jm_H), m + e = nd → g.1 8 0 6 = zI nd → (∀ i, i < m → vM g i (F i)) → (∀ i, i < nd → drR1 g (3 + i) (E i)) → ∃ g', l_M_plan_41 (zI m) g (some (jm_i (zI nd)), g') ∧ (∀ i, i < nd → vM g' i (F i)) ∧ KM g' 56 ck0 ∧ g'.1 8 0 43 = 0 ∧ (∀ j, j < 3 → g'.1 52 0 j = 0) ∧ Ch cPm g g' := by
  intro e
  induction e with
  | zero =>
    intro m g em g6 V D
    obtain ⟨g2, b1, b2, b3, b4, b5⟩ := s_starts (h := g)
    refine ⟨g2, wp_M_plan_41 ⟨fun _ => ⟨g2, b1, ?_⟩, fun hc => ?_⟩, fun i hi => (V i (by omega)).chg (fun K j hK => b5.at (by unfold cSC; omega)), b2, b3, b4, b5.mono (fun K i j x => by unfold cPm; exact Or.inr (Or.inr (Or.inr x)))⟩
    · rw [b5.at (by unfold cSC; omega), g6]
    · rw [g6, zI_le (by omega) (by omega) (by omega) (by omega)] at hc; omega
  | succ e ih =>
    intro m g em g6 V D
    have e3 : (3 : Int32) + zI (m : Int) = zI ((3 + m : Nat) : Int) := by rw [zl_3, zI_add]; rfl
    have i1 : jm_in (zI (m : Int)) 6 := zI_in (by omega) (by omega) (by omega)
    have i2 : jm_in ((3 : Int32) + zI (m : Int)) 6 := by rw [e3]; exact zI_in (by omega) (by omega) (by omega)
    obtain ⟨k, ek⟩ : ∃ k, k = jm_sI (jm_sI (jm_sI (jm_sI g 34 0 m (g.1 34 0 (3 + m))) 35 0 m (g.1 35 0 (3 + m))) 36 0 m (g.1 36 0 (3 + m))) 37 0 m (g.1 37 0 (3 + m)) := ⟨_, rfl⟩
    have ck : Ch (fun K _ j => 34 ≤ K ∧ K ≤ 37 ∧ j = m) g k := by
      rw [ek]
      exact (((Ch.sI (by omega)).tr (Ch.sI (by omega))).tr (Ch.sI (by omega))).tr (Ch.sI (by omega))
    obtain ⟨k2, q1, q2, q3⟩ := s_pm_87 (m := m) (by omega) 6 0 k (by omega) (fun K j _ _ h3 => by omega)
    have wm := W m (by omega)
    have dm : drR1 k2 m (E m) := by
      obtain ⟨d1, d2, d3, d4, d5⟩ := D m (by omega)
      have w3 := wm.2.2.1
      have ks : ∀ K j, 38 ≤ K → K ≤ 41 → j < 6 → k2.1 K 0 (6 * m + j) = g.1 K 0 (6 * (3 + m) + j) := fun K j h1 h2 h3 => by
        rw [q1 K j h1 h2 h3, q2.at (by omega), ck.at (by omega)]
      refine ⟨?_, ?_, ?_, ?_, fun u hu => ?_⟩
      · rw [q2.at (by omega), ek, sI_ne (by omega), sI_ne (by omega), sI_ne (by omega), sI_eq]; exact d1
      · rw [q2.at (by omega), ek, sI_ne (by omega), sI_ne (by omega), sI_eq]; exact d2
      · rw [q2.at (by omega), ek, sI_ne (by omega), sI_eq]; exact d3
      · rw [q2.at (by omega), ek, sI_eq]; exact d4
      · rw [ks 38 u (by omega) (by omega) (by omega), ks 39 u (by omega) (by omega) (by omega), ks 40 u (by omega) (by omega) (by omega), ks 41 u (by omega) (by omega) (by omega)]; exact d5 u hu
    obtain ⟨g2, b1, b2, b3⟩ := H m (by omega) k2 m (by omega) dm
    have c2 : Ch (fun K _ j => (34 ≤ K ∧ K ≤ 37 ∧ j = m) ∨ (38 ≤ K ∧ K ≤ 41 ∧ 6 * m ≤ j ∧ j < 6 * m + 6) ∨ cNg m K 0 j) g g2 := ((ck.mono (fun K i j x => Or.inl x)).tr (q2.mono (fun K i j x => Or.inr (Or.inl x)))).tr (b3.mono (fun K i j x => Or.inr (Or.inr x)))
    obtain ⟨g', r1, r2, r3, r4, r5, r6⟩ := ih (m + 1) g2 (by omega) (by rw [c2.at (by unfold cNg; omega)]; exact g6) (fun i hi => by
      by_cases ei : i = m
      · rw [ei]; exact b2
      · exact (V i (by omega)).chg2 (WF i (by omega)).2.2.2.1 (WF i (by omega)).2.2.2.2.1 (fun K j hK => c2.at (by unfold cNg; omega))) (fun i hi => (D i hi).chg (W i hi).2.2.1 (fun K j hK => c2.at (by unfold cNg; omega)))
    refine ⟨g', wp_M_plan_41 ⟨fun hc => ?_, fun _ => ⟨i2, i1, i2, i1, i2, i1, i2, i1, ?_⟩⟩, r2, r3, r4, r5, (c2.mono (fun K i j x => by unfold cNg at x; unfold cPm; omega)).tr r6⟩
    · rw [g6, zI_le (by omega) (by omega) (by omega) (by omega)] at hc; omega
    · rw [e3, zI_cn (by omega), zI_cn (by omega), ← ek]
      exact q3 _ ⟨g2, b1, by rw [e_p1]; exact r1⟩
end PLANC
