/-! ===== the text, line by line ===== -/
/-- behind a line, in the class -/
def coC (x2 : Int32) (h9 : jm_H) (r : jm_Rs) : Prop := ∃ h10 : jm_H, m_Reader_next h9 h10 ∧ ((h10.1 4 0 4) = 4 → ((h10.1 3 (h10.2.1 4 0 9) 0) = 0 → ∃ (v11 : Int32) (h11 : jm_H), m_Reader_fail 4 h10 v11 h11 ∧ l_Reader_read_80 0 h11 r) ∧ (¬ ((h10.1 3 (h10.2.1 4 0 9) 0) = 0) → l_Reader_read_80 0 h10 r)) ∧ (¬ ((h10.1 4 0 4) = 4) → ((h10.1 4 0 4) = 3 → l_Reader_read_21 (x2 + 1) h10 r) ∧ (¬ ((h10.1 4 0 4) = 3) → ∃ (v12 : Int32) (h12 : jm_H), m_Reader_fail 1 h10 v12 h12 ∧ r = (some (jm_i (h12.1 4 0 7)), h12)))
def RLn (g : jm_H) (r : jm_Rs) : Prop := ∃ g1 : jm_H, m_M_reads g g1 ∧ ∃ (v : Int32) (g2 : jm_H), m_M_readLine g1 v g2 ∧ (v = (-1) → r = (some (jm_i (-1)), g2)) ∧ (¬ (v = (-1)) → l_M_readPlan_17 g2 r)
def rdF (f : Nat → Int) (n p l nd : Nat) (E : Nat → MD) (q : Int) (s : Nat) : Prop := (∀ h dp, TX h f n → h.1 4 0 3 = zI p → drC h dp nd E → ∃ h', l_Reader_read_21 (zI l) h (some (jm_i (zI q)), h') ∧ h'.1 4 0 8 = zI s ∧ Ch (cDr dp) h h') ∧ (∀ g, TY g f n → g.1 8 0 18 = zI p → drR g nd E → ∃ g', RLn g (some (jm_i (-1)), g') ∧ g'.1 8 0 21 = zI q ∧ g'.1 8 0 22 = zI s ∧ Ch cDq g g')
def rdY (f : Nat → Int) (n p l nd : Nat) (E : Nat → MD) (nd' : Nat) (E' : Nat → MD) : Prop := (1 ≤ nd' ∧ nd' ≤ 3) ∧ (∀ m, m < nd' → wfD (E' m)) ∧ (∀ h dp, TX h f n → h.1 4 0 3 = zI p → drC h dp nd E → ∃ h', drC h' dp nd' E' ∧ Ch (cDo dp) h h' ∧ ∀ r, l_Reader_read_80 0 h' r → l_Reader_read_21 (zI l) h r) ∧ (∀ g, TY g f n → g.1 8 0 18 = zI p → drR g nd E → ∃ g', RLn g (some (jm_i (zI nd')), g') ∧ drR g' nd' E' ∧ Ch cDq g g')
section READ
variable {f : Nat → Int} {n : Nat}
theorem drC.tk {h h' : jm_H} {dp nd : Nat} {E : Nat → MD} (d : drC h dp nd E) (a : Ch cTk h h') : drC h' dp nd E := ⟨by rw [a.2]; exact d.1, by rw [a.at (by unfold cTk; omega)]; exact d.2.1, fun m hm => (d.2.2 m hm).chg (fun K j hK => a.at (by unfold cTk; omega))⟩
theorem drR.tr {g g' : jm_H} {nd : Nat} {E : Nat → MD} (W : ∀ m, m < nd → wfD (E m)) (d : drR g nd E) (a : Ch cTr g g') : drR g' nd E := ⟨by rw [a.at (by unfold cTr; omega)]; exact d.1, fun m hm => (d.2 m hm).chg (W m hm).2.2.1 (fun K j hK => a.at (by unfold cTr; omega))⟩
theorem cDq_t {g g' : jm_H} (a : Ch cTr g g') : Ch cDq g g' := cDq_r a
/-- behind a line that is known to be of one sort -/
theorem line_on (t : txt f n) {p l nd : Nat} {E : Nat → MD} {k s e : Nat} {v : Int} (W : ∀ m, m < nd → wfD (E m)) (hl : l ≤ p) (hp : p ≤ n) (O : tokO f n p k s e v) (k1 : k = 1) {C R : jm_H → Int32 → jm_H → Prop} (HC : ∀ h h1 r v9 h9, TX h f n → h.1 4 0 3 = zI p → m_Reader_next h h1 → TX h1 f n → TKc h1 k s e v → C h1 v9 h9 → (v9 = 0 → r = (some (jm_i (h9.1 4 0 7)), h9)) → (¬ v9 = 0 → coC (zI l) h9 r) → l_Reader_read_21 (zI l) h r) (HR : ∀ g1 v9 g2, TY g1 f n → TKr g1 k s e v → R g1 v9 g2 → m_M_readLine g1 v9 g2) (H : (∃ q s', 1 ≤ q ∧ q ≤ 6 ∧ lnF C R f n 1 s e v nd E q s') ∨ ∃ nd' E' e' k2 s2 e2 v2, lnY C R f n 1 s e v nd E nd' E' e' k2 s2 e2 v2) (IH : ∀ p' nd' E', p < p' → p' ≤ n → nd' ≤ 3 → (∀ m, m < nd' → wfD (E' m)) → (∃ q s', 1 ≤ q ∧ q ≤ 6 ∧ rdF f n p' (l + 1) nd' E' q s') ∨ ∃ nd2 E2, rdY f n p' (l + 1) nd' E' nd2 E2) : (∃ q s', 1 ≤ q ∧ q ≤ 6 ∧ rdF f n p l nd E q s') ∨ ∃ nd' E', rdY f n p l nd E nd' E' := by
  have t1 := t.1
  obtain ⟨o0, o1, o2, o3, o4, o5, o6, o7⟩ := O
  subst k1
  rcases H with ⟨q, s', q1, q2, F1, F2⟩ | ⟨nd', E', e', k2, s2, e2, v2, y1, y2, y3, y4, y5, yC, yR⟩
  · refine Or.inl ⟨q, s', q1, q2, fun h dp X a3 d => ?_, fun g Y a3 d => ?_⟩
    · obtain ⟨h1, b1, b2, b3⟩ := o6 h X a3
      obtain ⟨h', c1, c2, c3, c4⟩ := F1 h1 dp (X.tk b3) b2 (d.tk b3)
      exact ⟨h', HC h h1 _ 0 h' X a3 b1 (X.tk b3) b2 c1 (fun _ => by rw [c2]) (fun hc => absurd rfl hc), c3, (cDr_f (cTf_k b3)).tr c4⟩
    · obtain ⟨g1, b1, b2, b3⟩ := o7 g Y a3
      obtain ⟨g', c1, c2, c3, c4⟩ := F2 g1 (Y.tr b3) b2 (d.tr W b3)
      exact ⟨g', ⟨g1, b1, _, g', HR g1 _ g' (Y.tr b3) b2 c1, fun _ => rfl, fun hc => absurd rfl hc⟩, c2, c3, (cDq_r b3).tr c4⟩
  · have y5' := y5
    obtain ⟨p0, p1, p2, p3, p4, p5, p6, p7⟩ := y5
    have kc := kc_1 p0
    have kr := tkM_2 p0
    -- up to the token behind the line
    have goC : ∀ h dp, TX h f n → h.1 4 0 3 = zI p → drC h dp nd E → ∃ h9 h10, m_Reader_next h9 h10 ∧ TKc h10 k2 s2 e2 v2 ∧ drC h10 dp nd' E' ∧ TX h10 f n ∧ Ch (cDo dp) h h10 ∧ ∀ r, coC (zI l) h9 r → l_Reader_read_21 (zI l) h r := fun h dp X a3 d => by
      obtain ⟨h1, b1, b2, b3⟩ := o6 h X a3
      obtain ⟨h9, c1, c2, c3, c4⟩ := yC h1 dp (X.tk b3) b2 (d.tk b3)
      have X9 := (X.tk b3).dr (cDr_o c4)
      obtain ⟨h10, d1, d2, d3⟩ := p6 h9 X9 c3
      exact ⟨h9, h10, d1, d2, c2.tk d3, X9.tk d3, ((cDo_k b3).tr c4).tr (cDo_k d3), fun r hr => HC h h1 r 1 h9 X a3 b1 (X.tk b3) b2 c1 (fun hc => absurd hc (by decide)) (fun _ => hr)⟩
    have goR : ∀ g, TY g f n → g.1 8 0 18 = zI p → drR g nd E → ∃ g1 g2, m_M_reads g g1 ∧ m_M_readLine g1 0 g2 ∧ TKr g2 k2 s2 e2 v2 ∧ drR g2 nd' E' ∧ TY g2 f n ∧ Ch cDq g g2 := fun g Y a3 d => by
      obtain ⟨g1, b1, b2, b3⟩ := o7 g Y a3
      obtain ⟨g2, c1, c2, c3, c4⟩ := yR g1 (Y.tr b3) b2 (d.tr W b3)
      exact ⟨g1, g2, b1, HR g1 _ g2 (Y.tr b3) b2 c1, c3, c2, (Y.tr b3).dq c4, (cDq_r b3).tr c4⟩
    have n0 : ∀ h dp, drC h dp nd' E' → ¬ h.1 3 (h.2.1 4 0 9) 0 = 0 := fun h dp d => by rw [d.1, d.2.1, zl_0, zI_eq (by omega) (by omega) (by omega) (by omega)]; omega
    by_cases h4 : k2 = 4
    · refine Or.inr ⟨nd', E', y1, y2, fun h dp X a3 d => ?_, fun g Y a3 d => ?_⟩
      · obtain ⟨h9, h10, b1, b2, b3, b4, b5, b6⟩ := goC h dp X a3 d
        refine ⟨h10, b3, b5, fun r hr => b6 r ⟨h10, b1, fun _ => ⟨fun hc => absurd hc (n0 h10 dp b3), fun _ => hr⟩, fun hc => ?_⟩⟩
        rw [b2.1] at hc; exact absurd (kc.2.2.2.mpr h4) hc
      · obtain ⟨g1, g2, b1, b2, b3, b4, b5, b6⟩ := goR g Y a3 d
        refine ⟨g2, ⟨g1, b1, 0, g2, b2, fun hc => absurd hc (by decide), fun _ => wp_M_readPlan_17 ⟨fun hc => ?_, fun _ => ⟨fun _ => ⟨fun hc => ?_, fun _ => by rw [b4.1]⟩, fun hc => ?_⟩⟩⟩, b4, b6⟩
        · rw [b3.1] at hc; have := kr.2.2.1.mp hc; omega
        · rw [b4.1, zl_0, zI_eq (by omega) (by omega) (by omega) (by omega)] at hc; omega
        · rw [b3.1] at hc; exact absurd (kr.2.2.2.mpr h4) hc
    · by_cases h3 : k2 = 3
      · have hs := p4 (Or.inr (Or.inr h3))
        have hse := o4 (Or.inl rfl)
        rcases IH e2 nd' E' (by omega) p3 y1.2 y2 with ⟨q, s', q1, q2, F1, F2⟩ | ⟨nd2, E2, z1, z2, zC, zR⟩
        · refine Or.inl ⟨q, s', q1, q2, fun h dp X a3 d => ?_, fun g Y a3 d => ?_⟩
          · obtain ⟨h9, h10, b1, b2, b3, b4, b5, b6⟩ := goC h dp X a3 d
            obtain ⟨h', c1, c2, c3⟩ := F1 h10 dp b4 (b2.2.2.1 (by omega)) b3
            refine ⟨h', b6 _ ⟨h10, b1, fun hc => ?_, fun _ => ⟨fun _ => by rw [e_p1]; exact c1, fun hc => ?_⟩⟩, c2, (cDr_o b5).tr c3⟩
            · rw [b2.1] at hc; exact absurd (kc.2.2.2.mp hc) h4
            · rw [b2.1] at hc; exact absurd (kc.2.2.1.mpr h3) hc
          · obtain ⟨g1, g2, b1, b2, b3, b4, b5, b6⟩ := goR g Y a3 d
            obtain ⟨g', ⟨ga, r1, w, gb, r2, r3, r4⟩, c2, c3, c4⟩ := F2 g2 b5 (b3.2.2.1 (by omega)) b4
            refine ⟨g', ⟨g1, b1, 0, g2, b2, fun hc => absurd hc (by decide), fun _ => wp_M_readPlan_17 ⟨fun _ => ⟨ga, r1, w, gb, r2, r3, r4⟩, fun hc => ?_⟩⟩, c2, c3, b6.tr c4⟩
            rw [b3.1] at hc; exact absurd (kr.2.2.1.mpr h3) hc
        · refine Or.inr ⟨nd2, E2, z1, z2, fun h dp X a3 d => ?_, fun g Y a3 d => ?_⟩
          · obtain ⟨h9, h10, b1, b2, b3, b4, b5, b6⟩ := goC h dp X a3 d
            obtain ⟨h', c1, c2, c3⟩ := zC h10 dp b4 (b2.2.2.1 (by omega)) b3
            refine ⟨h', c1, b5.tr c2, fun r hr => b6 r ⟨h10, b1, fun hc => ?_, fun _ => ⟨fun _ => by rw [e_p1]; exact c3 r hr, fun hc => ?_⟩⟩⟩
            · rw [b2.1] at hc; exact absurd (kc.2.2.2.mp hc) h4
            · rw [b2.1] at hc; exact absurd (kc.2.2.1.mpr h3) hc
          · obtain ⟨g1, g2, b1, b2, b3, b4, b5, b6⟩ := goR g Y a3 d
            obtain ⟨g', ⟨ga, r1, w, gb, r2, r3, r4⟩, c2, c3⟩ := zR g2 b5 (b3.2.2.1 (by omega)) b4
            refine ⟨g', ⟨g1, b1, 0, g2, b2, fun hc => absurd hc (by decide), fun _ => wp_M_readPlan_17 ⟨fun _ => ⟨ga, r1, w, gb, r2, r3, r4⟩, fun hc => ?_⟩⟩, c2, b6.tr c3⟩
            rw [b3.1] at hc; exact absurd (kr.2.2.1.mpr h3) hc
      · refine Or.inl ⟨1, s2, by omega, by omega, fun h dp X a3 d => ?_, fun g Y a3 d => ?_⟩
        · obtain ⟨h9, h10, b1, b2, b3, b4, b5, b6⟩ := goC h dp X a3 d
          obtain ⟨h', f1, f2, f3, f4⟩ := s_fail (h := h10) (q := 1) b2.2.1
          refine ⟨h', b6 _ ⟨h10, b1, fun hc => ?_, fun _ => ⟨fun hc => ?_, fun _ => ⟨0, h', f1, by rw [f2]⟩⟩⟩, f3, (cDr_o b5).tr (cDr_f (f4.mono (fun K i j x => by unfold cTf; omega)))⟩
          · rw [b2.1] at hc; exact absurd (kc.2.2.2.mp hc) h4
          · rw [b2.1] at hc; exact absurd (kc.2.2.1.mp hc) h3
        · obtain ⟨g1, g2, b1, b2, b3, b4, b5, b6⟩ := goR g Y a3 d
          obtain ⟨g', f1, f2, f3, f4⟩ := s_errs (g := g2) (q := 1) b3.2.1
          refine ⟨g', ⟨g1, b1, 0, g2, b2, fun hc => absurd hc (by decide), fun _ => wp_M_readPlan_17 ⟨fun hc => ?_, fun _ => ⟨fun hc => ?_, fun _ => ⟨_, g', f1, rfl⟩⟩⟩⟩, f2, f3, b6.tr (cDq_e (f4.mono (fun K i j x => by unfold cTe; omega)))⟩
          · rw [b3.1] at hc; exact absurd (kr.2.2.1.mp hc) h3
          · rw [b3.1] at hc; exact absurd (kr.2.2.2.mp hc) h4
theorem read_ex (t : txt f n) : ∀ (N p l nd : Nat) (E : Nat → MD), n - p < N → l ≤ p → p ≤ n → nd ≤ 3 → (∀ m, m < nd → wfD (E m)) → (∃ q s', 1 ≤ q ∧ q ≤ 6 ∧ rdF f n p l nd E q s') ∨ ∃ nd' E', rdY f n p l nd E nd' E' := by
  have t1 := t.1
  intro N
  induction N with
  | zero => intro p l nd E hN; omega
  | succ N ih =>
    intro p l nd E hN hl hp hnd W
    obtain ⟨k, s, e, v, O⟩ := tok_ex t hp
    have O' := O
    obtain ⟨o0, o1, o2, o3, o4, o5, o6, o7⟩ := O
    obtain ⟨b0, u1, u2, u3, u4⟩ := word_ex t (a := 0) (v := v) (by omega) o0 o2 o3
    obtain ⟨b1, w1, w2, w3, w4⟩ := word_ex t (a := 1) (v := v) (by omega) o0 o2 o3
    have lle : ∀ h, TX h f n → ¬ (h.1 4 0 2 < zI (l : Int)) := fun h X => by rw [X.1, zI_lt (by omega) (by omega) (by omega) (by omega)]; omega
    have IH : ∀ p' nd' E', p < p' → p' ≤ n → nd' ≤ 3 → (∀ m, m < nd' → wfD (E' m)) → (∃ q s', 1 ≤ q ∧ q ≤ 6 ∧ rdF f n p' (l + 1) nd' E' q s') ∨ ∃ nd2 E2, rdY f n p' (l + 1) nd' E' nd2 E2 := fun p' nd' E' h1 h2 h3 h4 => ih p' (l + 1) nd' E' (by omega) (by omega) h2 h3 h4
    by_cases hb0 : b0 = 1
    · subst hb0
      have k1 := u2 rfl
      subst k1
      exact line_on t W hl hp O' rfl (C := m_Reader_readMode) (R := m_M_readMode) (fun h h1 r v9 h9 X a3 n1 X1 K1 c1 r1 r2 => wp_Reader_read_21 ⟨fun hc => absurd hc (lle h X), fun _ => ⟨h1, n1, 1, h1, u3 h1 X1 K1, fun hc => absurd hc (by decide), fun _ => ⟨v9, h9, c1, r1, r2⟩⟩⟩) (fun g1 v9 g2 Y1 K1 c1 => wp_M_readLine ⟨1, g1, u4 g1 Y1 K1, fun hc => absurd hc (by decide), fun _ => ⟨v9, g2, c1, rfl⟩⟩) (ln_mode t hnd W o3) IH
    · have z0 : b0 = 0 := by omega
      subst z0
      by_cases hb1 : b1 = 1
      · subst hb1
        have k1 := w2 rfl
        subst k1
        exact line_on t W hl hp O' rfl (C := m_Reader_readTask) (R := m_M_readTask) (fun h h1 r v9 h9 X a3 n1 X1 K1 c1 r1 r2 => wp_Reader_read_21 ⟨fun hc => absurd hc (lle h X), fun _ => ⟨h1, n1, 0, h1, u3 h1 X1 K1, fun _ => ⟨1, h1, w3 h1 X1 K1, fun hc => absurd hc (by decide), fun _ => ⟨v9, h9, c1, r1, r2⟩⟩, fun hc => absurd rfl hc⟩⟩) (fun g1 v9 g2 Y1 K1 c1 => wp_M_readLine ⟨0, g1, u4 g1 Y1 K1, fun _ => ⟨1, g1, w4 g1 Y1 K1, fun hc => absurd hc (by decide), fun _ => ⟨v9, g2, c1, rfl⟩⟩, fun hc => absurd rfl hc⟩) (ln_task t hnd W o3) IH
      · have z1 : b1 = 0 := by omega
        subst z1
        refine Or.inl ⟨1, s, by omega, by omega, fun h dp X a3 d => ?_, fun g Y a3 d => ?_⟩
        · obtain ⟨h1, c1, c2, c3⟩ := o6 h X a3
          obtain ⟨h', f1, f2, f3, f4⟩ := s_fail (h := h1) (q := 1) c2.2.1
          exact ⟨h', wp_Reader_read_21 ⟨fun hc => absurd hc (lle h X), fun _ => ⟨h1, c1, 0, h1, u3 h1 (X.tk c3) c2, fun _ => ⟨0, h1, w3 h1 (X.tk c3) c2, fun _ => ⟨0, h', f1, fun _ => by rw [f2], fun hc => absurd rfl hc⟩, fun hc => absurd rfl hc⟩, fun hc => absurd rfl hc⟩⟩, f3, cDr_f ((cTf_k c3).tr (f4.mono (fun K i j x => by unfold cTf; omega)))⟩
        · obtain ⟨g1, c1, c2, c3⟩ := o7 g Y a3
          obtain ⟨g', f1, f2, f3, f4⟩ := s_errs (g := g1) (q := 1) c2.2.1
          exact ⟨g', ⟨g1, c1, -1, g', wp_M_readLine ⟨0, g1, u4 g1 (Y.tr c3) c2, fun _ => ⟨0, g1, w4 g1 (Y.tr c3) c2, fun _ => ⟨-1, g', f1, rfl⟩, fun hc => absurd rfl hc⟩, fun hc => absurd rfl hc⟩, fun _ => rfl, fun hc => absurd rfl hc⟩, f2, f3, cDq_e ((cTe_r c3).tr (f4.mono (fun K i j x => by unfold cTe; omega)))⟩
end READ
