/-! ===== lines ===== -/
def md_L (d : MD) : Nat := LCf (md_pe d) (md_tk d)
/-- a mode as it is read -/
def wfD (d : MD) : Prop := (4 ≤ md_fr d ∧ md_fr d ≤ 60) ∧ (0 ≤ md_rs d ∧ md_rs d < md_fr d) ∧ md_tk d ≤ 6 ∧ (1 ≤ md_L d ∧ md_L d ≤ 96) ∧ md_rd d = (if md_tk d = 0 then md_fr d else (md_L d : Int)) ∧ (∀ t, t < md_tk d → (0 ≤ md_ph d t ∧ md_ph d t < md_pe d t) ∧ md_pe d t ≤ 60 ∧ (1 ≤ md_co d t ∧ md_co d t ≤ 60) ∧ 1 ≤ md_sp d t ∧ md_ph d t + md_sp d t ≤ md_pe d t) ∧ jbs (md_pe d) (md_L d) (md_tk d) ≤ 24
def drC1 (h : jm_H) (q : Nat) (d : MD) : Prop := h.1 2 q 0 = zI (md_fr d) ∧ h.1 2 q 1 = zI (md_rs d) ∧ h.1 2 q 2 = zI (md_tk d) ∧ h.1 2 q 4 = zI (md_L d) ∧ ∀ t, t < md_tk d → h.1 22 q t = zI (md_ph d t) ∧ h.1 23 q t = zI (md_pe d t) ∧ h.1 24 q t = zI (md_co d t) ∧ h.1 25 q t = zI (md_sp d t)
def drR1 (g : jm_H) (i : Nat) (d : MD) : Prop := g.1 34 0 i = zI (md_fr d) ∧ g.1 35 0 i = zI (md_rs d) ∧ g.1 36 0 i = zI (md_tk d) ∧ g.1 37 0 i = zI (md_rd d) ∧ ∀ t, t < md_tk d → g.1 38 0 (6 * i + t) = zI (md_ph d t) ∧ g.1 39 0 (6 * i + t) = zI (md_pe d t) ∧ g.1 40 0 (6 * i + t) = zI (md_co d t) ∧ g.1 41 0 (6 * i + t) = zI (md_sp d t)
def drC (h : jm_H) (dp nd : Nat) (E : Nat → MD) : Prop := h.2.1 4 0 9 = dp ∧ h.1 3 dp 0 = zI nd ∧ ∀ m, m < nd → drC1 h (3 * dp + m) (E m)
def drR (g : jm_H) (nd : Nat) (E : Nat → MD) : Prop := g.1 8 0 7 = zI nd ∧ ∀ m, m < nd → drR1 g (3 + m) (E m)
theorem drC1.chg {h h' : jm_H} {q : Nat} {d : MD} (v : drC1 h q d) (e : ∀ K j, K = 2 ∨ (22 ≤ K ∧ K ≤ 25) → h'.1 K q j = h.1 K q j) : drC1 h' q d := by
  obtain ⟨v1, v2, v3, v4, v5⟩ := v
  refine ⟨?_, ?_, ?_, ?_, fun t ht => ?_⟩
  · rw [e _ _ (by omega)]; exact v1
  · rw [e _ _ (by omega)]; exact v2
  · rw [e _ _ (by omega)]; exact v3
  · rw [e _ _ (by omega)]; exact v4
  · rw [e _ _ (by omega), e _ _ (by omega), e _ _ (by omega), e _ _ (by omega)]; exact v5 t ht
theorem drR1.chg {g g' : jm_H} {i : Nat} {d : MD} (v : drR1 g i d) (h6 : md_tk d ≤ 6) (e : ∀ K j, (34 ≤ K ∧ K ≤ 37 ∧ j = i) ∨ (38 ≤ K ∧ K ≤ 41 ∧ 6 * i ≤ j ∧ j < 6 * i + 6) → g'.1 K 0 j = g.1 K 0 j) : drR1 g' i d := by
  obtain ⟨v1, v2, v3, v4, v5⟩ := v
  refine ⟨?_, ?_, ?_, ?_, fun t ht => ?_⟩
  · rw [e _ _ (by omega)]; exact v1
  · rw [e _ _ (by omega)]; exact v2
  · rw [e _ _ (by omega)]; exact v3
  · rw [e _ _ (by omega)]; exact v4
  · rw [e _ _ (by omega), e _ _ (by omega), e _ _ (by omega), e _ _ (by omega)]; exact v5 t ht
def cDr (dp : Nat) : Nat → Nat → Nat → Prop := fun K i j => cTf K i j ∨ ((K = 2 ∨ (22 ≤ K ∧ K ≤ 25)) ∧ 3 * dp ≤ i ∧ i < 3 * dp + 3) ∨ (K = 3 ∧ i = dp)
def cDo (dp : Nat) : Nat → Nat → Nat → Prop := fun K i j => cTk K i j ∨ ((K = 2 ∨ (22 ≤ K ∧ K ≤ 25)) ∧ 3 * dp ≤ i ∧ i < 3 * dp + 3) ∨ (K = 3 ∧ i = dp)
def cDq : Nat → Nat → Nat → Prop := fun K i j => cTe K i j ∨ (K = 8 ∧ j = 7) ∨ (34 ≤ K ∧ K ≤ 37 ∧ 3 ≤ j) ∨ (38 ≤ K ∧ K ≤ 41 ∧ 18 ≤ j)
/-- a line fails, or is read, in both; its first token is known -/
def lnF (C R : jm_H → Int32 → jm_H → Prop) (f : Nat → Int) (n : Nat) (k s e : Nat) (v : Int) (nd : Nat) (E : Nat → MD) (q : Int) (s' : Nat) : Prop := (∀ h dp, TX h f n → TKc h k s e v → drC h dp nd E → ∃ h', C h 0 h' ∧ h'.1 4 0 7 = zI q ∧ h'.1 4 0 8 = zI s' ∧ Ch (cDr dp) h h') ∧ (∀ g, TY g f n → TKr g k s e v → drR g nd E → ∃ g', R g (-1) g' ∧ g'.1 8 0 21 = zI q ∧ g'.1 8 0 22 = zI s' ∧ Ch cDq g g')
def lnY (C R : jm_H → Int32 → jm_H → Prop) (f : Nat → Int) (n : Nat) (k s e : Nat) (v : Int) (nd : Nat) (E : Nat → MD) (nd' : Nat) (E' : Nat → MD) (e' k2 s2 e2 : Nat) (v2 : Int) : Prop := (1 ≤ nd' ∧ nd' ≤ 3) ∧ (∀ m, m < nd' → wfD (E' m)) ∧ e ≤ e' ∧ e' ≤ n ∧ tokO f n e' k2 s2 e2 v2 ∧ (∀ h dp, TX h f n → TKc h k s e v → drC h dp nd E → ∃ h', C h 1 h' ∧ drC h' dp nd' E' ∧ h'.1 4 0 3 = zI e' ∧ Ch (cDo dp) h h') ∧ (∀ g, TY g f n → TKr g k s e v → drR g nd E → ∃ g', R g 0 g' ∧ drR g' nd' E' ∧ TKr g' k2 s2 e2 v2 ∧ Ch cDq g g')
theorem cDr_f {dp : Nat} {h h' : jm_H} (a : Ch cTf h h') : Ch (cDr dp) h h' := a.mono (fun K i j x => Or.inl x)
theorem cDr_o {dp : Nat} {h h' : jm_H} (a : Ch (cDo dp) h h') : Ch (cDr dp) h h' := a.mono (fun K i j x => by unfold cDo cTk at x; unfold cDr cTf; omega)
theorem cDo_k {dp : Nat} {h h' : jm_H} (a : Ch cTk h h') : Ch (cDo dp) h h' := a.mono (fun K i j x => Or.inl x)
theorem cDq_e {h h' : jm_H} (a : Ch cTe h h') : Ch cDq h h' := a.mono (fun K i j x => Or.inl x)
theorem cDq_r {h h' : jm_H} (a : Ch cTr h h') : Ch cDq h h' := cDq_e (cTe_r a)
theorem TX.dr {h h' : jm_H} {f : Nat → Int} {n dp : Nat} (X : TX h f n) (a : Ch (cDr dp) h h') : TX h' f n := X.ch (a.at (by unfold cDr cTf; omega)) (fun j => a.at (by unfold cDr cTf; omega))
theorem TY.dq {h h' : jm_H} {f : Nat → Int} {n : Nat} (X : TY h f n) (a : Ch cDq h h') : TY h' f n := X.ch (a.at (by unfold cDq cTe; omega)) (fun j => a.at (by unfold cDq cTe; omega))
def dNw (fr rs : Int) : MD := ((fr, rs, fr), (0, 0), ((fun _ => 0), (fun _ => 0), (fun _ => 0), (fun _ => 0)), ((fun _ => 0), (fun _ => 0)))
section LINE
variable {f : Nat → Int} {n nd : Nat} {E : Nat → MD} {s e : Nat} {v : Int}
theorem ln_mode (t : txt f n) (hnd : nd ≤ 3) (W : ∀ m, m < nd → wfD (E m)) (he : e ≤ n) : (∃ q s', 1 ≤ q ∧ q ≤ 6 ∧ lnF m_Reader_readMode m_M_readMode f n 1 s e v nd E q s') ∨ ∃ nd' E' e' k2 s2 e2 v2, lnY m_Reader_readMode m_M_readMode f n 1 s e v nd E nd' E' e' k2 s2 e2 v2 := by
  by_cases h3 : nd = 3
  · refine Or.inl ⟨3, s, by omega, by omega, fun h dp X K d => ?_, fun g Y K d => ?_⟩
    · obtain ⟨h', f1, f2, f3, f4⟩ := s_fail (h := h) (q := 3) K.2.1
      refine ⟨h', wp_Reader_readMode ⟨fun hc => ?_, fun _ => ⟨0, h', f1, rfl, rfl⟩⟩, f2, f3, cDr_f (f4.mono (fun K i j x => by unfold cTf; omega))⟩
      rw [d.1, d.2.1, h3] at hc; exact absurd hc (by decide)
    · obtain ⟨g', f1, f2, f3, f4⟩ := s_errs (g := g) (q := 3) K.2.1
      refine ⟨g', wp_M_readMode ⟨fun _ => ⟨_, g', f1, rfl⟩, fun hc => ?_⟩, f2, f3, cDq_e (f4.mono (fun K i j x => by unfold cTe; omega))⟩
      rw [d.1, h3] at hc; exact absurd rfl hc
  · have lt3 : ∀ h dp, drC h dp nd E → h.1 3 (h.2.1 4 0 9) 0 < 3 := fun h dp d => by rw [d.1, d.2.1, zl_3, zI_lt (by omega) (by omega) (by omega) (by omega)]; omega
    have ne3 : ∀ g, drR g nd E → ¬ g.1 8 0 7 = 3 := fun g d => by rw [d.1, zl_3, zI_eq (by omega) (by omega) (by omega) (by omega)]; omega
    rcases part_ex t (p := e) (a := 2) he (by omega) (lo := 4) (hi := 60) (by omega) (by omega) (by omega) (by omega) with ⟨q, s', hq, pF⟩ | ⟨fr, e1, s1, y1, y2, y3, y4, y5, y6, yC, yR⟩
    · refine Or.inl ⟨q, s', by omega, by omega, fun h dp X K d => ?_, fun g Y K d => ?_⟩
      · obtain ⟨h', r1, r2, r3, r4⟩ := pF.1 h X (K.2.2.1 (by omega))
        exact ⟨h', wp_Reader_readMode ⟨fun _ => ⟨0, h', r1, fun _ => rfl, fun hc => absurd rfl hc⟩, fun hc => absurd (lt3 h dp d) hc⟩, r2, r3, cDr_f r4⟩
      · obtain ⟨g1, g', r0, r1, r2, r3, r4⟩ := pF.2 g Y (K.2.2.1 (by omega))
        exact ⟨g', wp_M_readMode ⟨fun hc => absurd hc (ne3 g d), fun _ => ⟨g1, r0, _, g', r1, fun _ => rfl, fun hc => absurd rfl hc⟩⟩, r2, r3, cDq_e r4⟩
    · have hi2 : ∀ h : jm_H, h.1 4 0 6 = zI fr → (if ((h.1 4 0 6) - 1) < (59 : Int32) then ((h.1 4 0 6) - 1) else 59) = zI (fr - 1) := fun h e6 => by
        rw [e6, zl_1, zI_sub, zl_59]
        by_cases hc : fr - 1 < 59
        · rw [if_pos (by rw [zI_lt (by omega) (by omega) (by omega) (by omega)]; exact hc)]
        · rw [if_neg (by rw [zI_lt (by omega) (by omega) (by omega) (by omega)]; exact hc)]; congr 1; omega
      have hm1 : ¬ zI fr = -1 := by rw [zl_m1, zI_eq (by omega) (by omega) (by omega) (by omega)]; omega
      rcases part_ex t (p := e1) (a := 3) y5 (by omega) (lo := 0) (hi := fr - 1) (by omega) (by omega) (by omega) (by omega) with ⟨q, s', hq, pF⟩ | ⟨rs, e2, s2, z1, z2, z3, z4, z5, z6, zC, zR⟩
      · refine Or.inl ⟨q, s', by omega, by omega, fun h dp X K d => ?_, fun g Y K d => ?_⟩
        · obtain ⟨h1, a1, a2, a3, a4, a5⟩ := yC h X (K.2.2.1 (by omega))
          obtain ⟨h', r1, r2, r3, r4⟩ := pF.1 h1 (X.tk a5) a2
          exact ⟨h', wp_Reader_readMode ⟨fun _ => ⟨1, h1, a1, fun hc => absurd hc (by decide), fun _ => ⟨0, h', by rw [hi2 h1 a4]; exact r1, fun _ => rfl, fun hc => absurd rfl hc⟩⟩, fun hc => absurd (lt3 h dp d) hc⟩, r2, r3, cDr_f ((cTf_k a5).tr r4)⟩
        · obtain ⟨g1, g2, b1, b2, b3, b4, b5⟩ := yR g Y (K.2.2.1 (by omega))
          obtain ⟨g3, g', r0, r1, r2, r3, r4⟩ := pF.2 g2 (Y.tr b5) b3
          exact ⟨g', wp_M_readMode ⟨fun hc => absurd hc (ne3 g d), fun _ => ⟨g1, b1, _, g2, b2, fun hc => absurd hc hm1, fun _ => ⟨g3, r0, _, g', by rw [zl_1, zI_sub]; exact r1, fun _ => rfl, fun hc => absurd rfl hc⟩⟩⟩, r2, r3, cDq_e ((cTe_r b5).tr r4)⟩
      · have hm2 : ¬ zI rs = -1 := by rw [zl_m1, zI_eq (by omega) (by omega) (by omega) (by omega)]; omega
        obtain ⟨k2, t2, u2, v2, O⟩ := tok_ex t z5
        have O' := O
        obtain ⟨o0, o1, o2, o3, o4, o5, o6, o7⟩ := O
        refine Or.inr ⟨nd + 1, dWith E nd (dNw fr rs), e2, k2, t2, u2, v2, ⟨by omega, by omega⟩, fun m hm => ?_, by omega, z5, O', fun h dp X K d => ?_, fun g Y K d => ?_⟩
        · by_cases em : m = nd
          · rw [em, dW_eq]
            refine ⟨⟨y1, y2⟩, ⟨z1, by show rs < fr; omega⟩, by show (0 : Nat) ≤ 6; omega, ⟨by show 1 ≤ 1; omega, by show 1 ≤ 96; omega⟩, ?_, fun t ht => absurd ht (by show ¬ t < 0; omega), by show (0 : Int) ≤ 24; omega⟩
            show fr = (if (0 : Nat) = 0 then fr else _)
            rw [if_pos rfl]
          · rw [dW_ne em]; exact W m (by omega)
        · obtain ⟨h1, a1, a2, a3, a4, a5⟩ := yC h X (K.2.2.1 (by omega))
          obtain ⟨h2, b1, b2, b3, b4, b5⟩ := zC h1 (X.tk a5) a2
          have c2 : Ch cTk h h2 := a5.tr b5
          have d9 : h2.2.1 4 0 9 = dp := by rw [c2.2]; exact d.1
          have d3 : h2.1 3 dp 0 = zI nd := by rw [c2.at (by unfold cTk; omega)]; exact d.2.1
          have eo : 3 * (h2.2.1 4 0 9) + (h2.1 3 (h2.2.1 4 0 9) 0).toNatClampNeg = 3 * dp + nd := by rw [d9, d3, zI_cn (by omega)]
          obtain ⟨k, ek⟩ : ∃ k, k = jm_sI (jm_sI (jm_sI (jm_sI (jm_sI h2 2 (3 * dp + nd) 0 (zI fr)) 2 (3 * dp + nd) 1 (zI rs)) 2 (3 * dp + nd) 2 0) 2 (3 * dp + nd) 3 0) 2 (3 * dp + nd) 4 1 := ⟨_, rfl⟩
          have ck : Ch (fun K i _ => K = 2 ∧ i = 3 * dp + nd) h2 k := by
            rw [ek]
            exact ((((Ch.sI ⟨rfl, rfl⟩).tr (Ch.sI ⟨rfl, rfl⟩)).tr (Ch.sI ⟨rfl, rfl⟩)).tr (Ch.sI ⟨rfl, rfl⟩)).tr (Ch.sI ⟨rfl, rfl⟩)
          have k9 : k.2.1 4 0 9 = dp := by rw [ck.2]; exact d9
          have k3 : k.1 3 dp 0 = zI nd := by rw [ck.at (by omega)]; exact d3
          refine ⟨jm_sI k 3 dp 0 (zI ((nd + 1 : Nat) : Int)), wp_Reader_readMode ⟨fun _ => ⟨1, h1, a1, fun hc => absurd hc (by decide), fun _ => ⟨1, h2, by rw [hi2 h1 a4]; exact b1, fun hc => absurd hc (by decide), fun _ => ⟨by rw [d9, d3]; exact zI_in (by omega) (by omega) (by omega), k, ?_, ?_⟩⟩⟩, fun hc => absurd (lt3 h dp d) hc⟩, ⟨k9, sI_eq, fun m hm => ?_⟩, ?_, ?_⟩
          · rw [eo, a4, b4]; exact wp_Mode_begin (by rw [ek])
          · rw [k9, k3, e_p1]
          · by_cases em : m = nd
            · rw [em, dW_eq]
              refine ⟨?_, ?_, ?_, ?_, fun t ht => absurd ht (by show ¬ t < 0; omega)⟩
              · rw [sI_ne (by omega), ek, sI_ne (by omega), sI_ne (by omega), sI_ne (by omega), sI_ne (by omega), sI_eq]; rfl
              · rw [sI_ne (by omega), ek, sI_ne (by omega), sI_ne (by omega), sI_ne (by omega), sI_eq]; rfl
              · rw [sI_ne (by omega), ek, sI_ne (by omega), sI_ne (by omega), sI_eq]; rfl
              · rw [sI_ne (by omega), ek, sI_eq]; rfl
            · rw [dW_ne em]
              exact (d.2.2 m (by omega)).chg (fun K j hK => by rw [sI_ne (by omega), ck.at (by omega), c2.at (by unfold cTk; omega)])
          · rw [sI_ne (by omega), ck.at (by omega)]; exact b2
          · exact ((cDo_k c2).tr (ck.mono (fun K i j x => Or.inr (Or.inl (by omega))))).tr (Ch.sI (Or.inr (Or.inr ⟨rfl, rfl⟩)))
        · obtain ⟨g1, g2, b1, b2, b3, b4, b5⟩ := yR g Y (K.2.2.1 (by omega))
          obtain ⟨g3, g4, c1, c2, c3, c4, c5⟩ := zR g2 (Y.tr b5) b3
          have c24 : Ch cTr g g4 := b5.tr c5
          obtain ⟨g5, p1, p2, p3⟩ := o7 g4 (Y.tr c24) c3
          have c6 : Ch cTr g g5 := c24.tr p3
          have e3 : (3 : Int32) + (g.1 8 0 7) = zI ((3 + nd : Nat) : Int) := by rw [d.1, zl_3, zI_add]; rfl
          have i3 : jm_in ((3 : Int32) + (g.1 8 0 7)) 6 := by rw [e3]; exact zI_in (by omega) (by omega) (by omega)
          have g7 : g5.1 8 0 7 = zI nd := by rw [c6.at (by unfold cTr; omega)]; exact d.1
          obtain ⟨k, ek⟩ : ∃ k, k = jm_sI (jm_sI (jm_sI (jm_sI g5 34 0 (3 + nd) (zI fr)) 35 0 (3 + nd) (zI rs)) 36 0 (3 + nd) 0) 37 0 (3 + nd) (zI fr) := ⟨_, rfl⟩
          have ck : Ch (fun K _ j => 34 ≤ K ∧ K ≤ 37 ∧ j = 3 + nd) g5 k := by
            rw [ek]
            exact (((Ch.sI (by omega)).tr (Ch.sI (by omega))).tr (Ch.sI (by omega))).tr (Ch.sI (by omega))
          refine ⟨jm_sI k 8 0 7 (zI ((nd + 1 : Nat) : Int)), wp_M_readMode ⟨fun hc => absurd hc (ne3 g d), fun _ => ⟨g1, b1, _, g2, b2, fun hc => absurd hc hm1, fun _ => ⟨g3, c1, _, g4, by rw [zl_1, zI_sub]; exact c2, fun hc => absurd hc hm2, fun _ => ⟨g5, p1, i3, i3, i3, i3, ?_⟩⟩⟩⟩, ⟨sI_eq, fun m hm => ?_⟩, ⟨?_, ?_, fun x => ?_, fun x => ?_⟩, ?_⟩
          · rw [e3, zI_cn (by omega), ← ek, g7, e_p1]
          · by_cases em : m = nd
            · rw [em, dW_eq]
              refine ⟨?_, ?_, ?_, ?_, fun t ht => absurd ht (by show ¬ t < 0; omega)⟩
              · rw [sI_ne (by omega), ek, sI_ne (by omega), sI_ne (by omega), sI_ne (by omega), sI_eq]; rfl
              · rw [sI_ne (by omega), ek, sI_ne (by omega), sI_ne (by omega), sI_eq]; rfl
              · rw [sI_ne (by omega), ek, sI_ne (by omega), sI_eq]; rfl
              · rw [sI_ne (by omega), ek, sI_eq]; rfl
            · rw [dW_ne em]
              exact (d.2 m (by omega)).chg (W m (by omega)).2.2.1 (fun K j hK => by rw [sI_ne (by omega), ck.at (by omega), c6.at (by unfold cTr; omega)])
          · rw [sI_ne (by omega), ck.at (by omega)]; exact p2.1
          · rw [sI_ne (by omega), ck.at (by omega)]; exact p2.2.1
          · rw [sI_ne (by omega), ck.at (by omega)]; exact p2.2.2.1 x
          · rw [sI_ne (by omega), ck.at (by omega)]; exact p2.2.2.2 x
          · exact ((cDq_r c6).tr (ck.mono (fun K i j x => by unfold cDq; omega))).tr (Ch.sI (by unfold cDq; omega))
end LINE
