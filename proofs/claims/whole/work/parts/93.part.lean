/-! ===== a token, a word, a word and a whole ===== -/
def tkM (k : Nat) : Int := if k = 0 then 1 else if k = 1 then 2 else if k = 2 then 3 else if k = 3 then 59 else 0
/-- the class stands behind a token, and the reference -/
def TKc (h : jm_H) (k s e : Nat) (v : Int) : Prop := h.1 4 0 4 = zI k ∧ h.1 4 0 5 = zI s ∧ (k ≠ 0 → h.1 4 0 3 = zI e) ∧ (k = 2 → h.1 4 0 6 = zI v)
def TKr (g : jm_H) (k s e : Nat) (v : Int) : Prop := g.1 8 0 19 = zI (tkM k) ∧ g.1 8 0 17 = zI s ∧ (k ≠ 0 → g.1 8 0 18 = zI e) ∧ (k = 2 → g.1 8 0 20 = zI v)
def tokO (f : Nat → Int) (n p k s e : Nat) (v : Int) : Prop := k ≤ 4 ∧ p ≤ s ∧ s ≤ e ∧ e ≤ n ∧ ((k = 1 ∨ k = 2 ∨ k = 3) → s < e) ∧ (k = 2 → 0 ≤ v ∧ v ≤ 999) ∧ (∀ h, TX h f n → h.1 4 0 3 = zI p → ∃ h', m_Reader_next h h' ∧ TKc h' k s e v ∧ Ch cTk h h') ∧ (∀ g, TY g f n → g.1 8 0 18 = zI p → ∃ g', m_M_reads g g' ∧ TKr g' k s e v ∧ Ch cTr g g')
theorem dgv_b {f : Nat → Int} {s : Nat} : ∀ j : Nat, (∀ i, i < j → isD (f (s + i))) → (j = 0 → dgv f s j = 0) ∧ (j ≤ 1 → 0 ≤ dgv f s j ∧ dgv f s j ≤ 9) ∧ (j ≤ 2 → 0 ≤ dgv f s j ∧ dgv f s j ≤ 99) ∧ (j ≤ 3 → 0 ≤ dgv f s j ∧ dgv f s j ≤ 999) := by
  intro j
  induction j with
  | zero =>
    intro _
    show ((0 : Nat) = 0 → (0 : Int) = 0) ∧ _
    refine ⟨fun _ => rfl, fun _ => ?_, fun _ => ?_, fun _ => ?_⟩
    · show (0 : Int) ≤ 0 ∧ (0 : Int) ≤ 9; omega
    · show (0 : Int) ≤ 0 ∧ (0 : Int) ≤ 99; omega
    · show (0 : Int) ≤ 0 ∧ (0 : Int) ≤ 999; omega
  | succ j ih =>
    intro H
    obtain ⟨a0, a1, a2, a3⟩ := ih (fun i hi => H i (by omega))
    have d := H j (by omega)
    unfold isD at d
    have e : dgv f s (j + 1) = dgv f s j * 10 + (f (s + j) - 48) := rfl
    rw [e]
    refine ⟨fun x => by omega, fun x => ?_, fun x => ?_, fun x => ?_⟩
    · have := a0 (by omega); omega
    · have := a1 (by omega); omega
    · have := a2 (by omega); omega
theorem tok_ex {f : Nat → Int} {n : Nat} (t : txt f n) {p : Nat} (hp : p ≤ n) : ∃ k s e v, tokO f n p k s e v := by
  have t1 := t.1
  obtain ⟨s, s1, s2, s3, s4⟩ := run_ex (fun i => f i = 32) (n - p) p n (by omega)
  -- the class from the first that is no blank
  have cls : ∀ {k e : Nat} {v : Int}, (∀ h, TX h f n → h.1 4 0 3 = zI s → ∃ h', l_Reader_next_0 h (none, h') ∧ TKc h' k s e v ∧ Ch cTk h h') → ∀ h, TX h f n → h.1 4 0 3 = zI p → ∃ h', m_Reader_next h h' ∧ TKc h' k s e v ∧ Ch cTk h h' := by
    intro k e v R h X a3
    -- blanks are passed
    have go : ∀ (d q : Nat) (h : jm_H), q + d = s → p ≤ q → TX h f n → h.1 4 0 3 = zI q → ∃ h', l_Reader_next_0 h (none, h') ∧ TKc h' k s e v ∧ Ch cTk h h' := by
      intro d
      induction d with
      | zero =>
        intro q h eq hq X a3
        rw [show q = s by omega] at a3
        exact R h X a3
      | succ d ih =>
        intro q h eq hq X a3
        have c1 : Ch cTk h (jm_sI h 4 0 3 (zI ((q + 1 : Nat) : Int))) := Ch.sI (by unfold cTk; omega)
        obtain ⟨h', r1, r2, r3⟩ := ih (q + 1) (jm_sI h 4 0 3 (zI ((q + 1 : Nat) : Int))) (by omega) (by omega) (X.tk c1) sI_eq
        refine ⟨h', wp_Reader_next_0 ⟨fun hc => ?_, fun _ => ⟨zI (f q), h, by rw [a3]; exact s_sign t X (by omega), fun _ => by rw [a3, e_p1]; exact r1, fun hc => ?_⟩⟩, r2, c1.tr r3⟩
        · rw [X.1, a3, zI_le (by omega) (by omega) (by omega) (by omega)] at hc; omega
        · rw [s3 q hq (by omega)] at hc; exact absurd rfl hc
    obtain ⟨h', r1, r2, r3⟩ := go (s - p) p h (by omega) (Nat.le_refl _) X a3
    exact ⟨h', wp_Reader_next r1, r2, r3⟩
  have rf : ∀ {k e : Nat} {v : Int}, (∀ g, TY g f n → g.1 8 0 18 = zI s → ∃ g', l_M_reads_0 g (none, g') ∧ TKr g' k s e v ∧ Ch cTr g g') → ∀ g, TY g f n → g.1 8 0 18 = zI p → ∃ g', m_M_reads g g' ∧ TKr g' k s e v ∧ Ch cTr g g' := by
    intro k e v R g X a3
    have go : ∀ (d q : Nat) (g : jm_H), q + d = s → p ≤ q → TY g f n → g.1 8 0 18 = zI q → ∃ g', l_M_reads_0 g (none, g') ∧ TKr g' k s e v ∧ Ch cTr g g' := by
      intro d
      induction d with
      | zero =>
        intro q g eq hq X a3
        rw [show q = s by omega] at a3
        exact R g X a3
      | succ d ih =>
        intro q g eq hq X a3
        have c1 : Ch cTr g (jm_sI g 8 0 18 (zI ((q + 1 : Nat) : Int))) := Ch.sI (by unfold cTr; omega)
        obtain ⟨g', r1, r2, r3⟩ := ih (q + 1) (jm_sI g 8 0 18 (zI ((q + 1 : Nat) : Int))) (by omega) (by omega) (X.tr c1) sI_eq
        refine ⟨g', wp_M_reads_0 ⟨zI (f q), g, by rw [a3]; exact s_see t X (by omega), fun _ => by rw [a3, e_p1]; exact r1, fun hc => ?_⟩, r2, c1.tr r3⟩
        rw [s3 q hq (by omega)] at hc; exact absurd rfl hc
    obtain ⟨g', r1, r2, r3⟩ := go (s - p) p g (by omega) (Nat.le_refl _) X a3
    exact ⟨g', wp_M_reads r1, r2, r3⟩
  by_cases hn : s < n
  · have b := t.2 s hn
    have nb : ¬ zI (f s) = 32 := by rw [zl_32, zI_eq (by omega) (by omega) (by omega) (by omega)]; exact s4 hn
    -- ahead of the sign
    have hd : ∀ (h : jm_H) (r : jm_Rs), TX h f n → h.1 4 0 3 = zI s → (f s = 59 → r = (none, (jm_sI (jm_sI (jm_sI h 4 0 5 (zI s)) 4 0 4 3) 4 0 3 (zI ((s + 1 : Nat) : Int))))) → (f s ≠ 59 → isL (f s) → ∃ h7, m_Reader_nextWord (jm_sI h 4 0 5 (zI s)) h7 ∧ r = (none, h7)) → (f s ≠ 59 → ¬ isL (f s) → isD (f s) → ∃ h6, m_Reader_nextWhole (jm_sI h 4 0 5 (zI s)) h6 ∧ r = (none, h6)) → (f s ≠ 59 → ¬ isL (f s) → ¬ isD (f s) → r = (none, jm_sI (jm_sI h 4 0 5 (zI s)) 4 0 4 0)) → l_Reader_next_0 h r := by
      intro h r X a3 r1 r2 r3 r4
      have c1 : Ch cTk h (jm_sI h 4 0 5 (zI s)) := Ch.sI (by unfold cTk; omega)
      have X1 := X.tk c1
      have b3 : (jm_sI h 4 0 5 (zI s)).1 4 0 3 = zI s := by rw [sI_ne (by omega)]; exact a3
      refine wp_Reader_next_0 ⟨fun hc => ?_, fun _ => ⟨zI (f s), h, by rw [a3]; exact s_sign t X hn, fun hc => absurd hc nb, fun _ => ⟨fun _ => ?_, fun hc => ?_⟩⟩⟩
      · rw [X.1, a3, zI_le (by omega) (by omega) (by omega) (by omega)] at hc; omega
      · rw [a3]
        refine ⟨zI (f s), _, s_sign t X1 hn, fun hc => ?_, fun hc => ?_⟩
        · rw [zl_59, zI_eq (by omega) (by omega) (by omega) (by omega)] at hc
          rw [b3, e_p1]; exact r1 hc
        · rw [zl_59, zI_eq (by omega) (by omega) (by omega) (by omega)] at hc
          by_cases hl : isL (f s)
          · exact ⟨zI (f s), _, by rw [b3]; exact s_sign t X1 hn, 1, _, (s_let b.1 b.2).1 hl, fun hx => absurd hx (by decide), fun _ => r2 hc hl⟩
          · refine ⟨zI (f s), _, by rw [b3]; exact s_sign t X1 hn, 0, _, (s_let b.1 b.2).2 hl, fun _ => ?_, fun hx => absurd rfl hx⟩
            by_cases hD : isD (f s)
            · exact ⟨zI (f s), _, by rw [b3]; exact s_sign t X1 hn, 1, _, (s_dig b.1 b.2).1 hD, fun hx => absurd hx (by decide), fun _ => r3 hc hl hD⟩
            · exact ⟨zI (f s), _, by rw [b3]; exact s_sign t X1 hn, 0, _, (s_dig b.1 b.2).2 hD, fun _ => r4 hc hl hD, fun hx => absurd rfl hx⟩
      · rw [X.1, a3, zI_lt (by omega) (by omega) (by omega) (by omega)] at hc; omega
    have hm : ∀ (g : jm_H) (r : jm_Rs), TY g f n → g.1 8 0 18 = zI s → (isL (f s) → l_M_reads_34 (jm_sI g 8 0 17 (zI s)) r) → (¬ isL (f s) → isD (f s) → l_M_reads_70 (jm_sI (jm_sI g 8 0 17 (zI s)) 8 0 20 0) r) → (¬ isL (f s) → ¬ isD (f s) → (f s = 59 → r = (none, (jm_sI (jm_sI (jm_sI g 8 0 17 (zI s)) 8 0 18 (zI ((s + 1 : Nat) : Int))) 8 0 19 (zI 59)))) ∧ (f s ≠ 59 → r = (none, (jm_sI (jm_sI (jm_sI g 8 0 17 (zI s)) 8 0 18 (zI ((s + 1 : Nat) : Int))) 8 0 19 1)))) → l_M_reads_0 g r := by
      intro g r Y a3 r1 r2 r3
      have c1 : Ch cTr g (jm_sI g 8 0 17 (zI s)) := Ch.sI (by unfold cTr; omega)
      have Y1 := Y.tr c1
      have b3 : (jm_sI g 8 0 17 (zI s)).1 8 0 18 = zI s := by rw [sI_ne (by omega)]; exact a3
      refine wp_M_reads_0 ⟨zI (f s), g, by rw [a3]; exact s_see t Y hn, fun hc => absurd hc nb, fun _ => ?_⟩
      rw [a3]
      refine ⟨zI (f s), _, s_see t Y1 hn, fun hc => ?_, fun _ => ?_⟩
      · rw [zl_m1, zI_eq (by omega) (by omega) (by omega) (by omega)] at hc; omega
      · by_cases hl : isL (f s)
        · exact ⟨1, _, (s_letM (by omega) b.2).1 hl, fun hx => absurd hx (by decide), fun _ => r1 hl⟩
        · refine ⟨0, _, (s_letM (by omega) b.2).2 hl, fun _ => ?_, fun hx => absurd rfl hx⟩
          by_cases hD : isD (f s)
          · exact ⟨1, _, (s_digM (by omega) b.2).1 hD, fun hx => absurd hx (by decide), fun _ => r2 hl hD⟩
          · refine ⟨0, _, (s_digM (by omega) b.2).2 hD, fun _ => ⟨fun hc => ?_, fun hc => ?_⟩, fun hx => absurd rfl hx⟩
            · rw [zl_59, zI_eq (by omega) (by omega) (by omega) (by omega)] at hc
              rw [b3, e_p1, hc]; exact (r3 hl hD).1 hc
            · rw [zl_59, zI_eq (by omega) (by omega) (by omega) (by omega)] at hc
              rw [b3, e_p1]; exact (r3 hl hD).2 hc
    by_cases hl : isL (f s)
    · -- a word
      obtain ⟨e, e1, e2, e3, e4⟩ := run_ex (fun i => isL (f i)) (n - s) s n (by omega)
      have hse : s < e := by
        apply Decidable.byContradiction
        intro hx
        exact e4 (by omega) (by rw [show e = s by omega]; exact hl)
      have n59 : f s ≠ 59 := by unfold isL at hl; omega
      refine ⟨if e - s ≤ 7 then 1 else 0, s, e, 0, by split <;> omega, s1, by omega, e2, fun _ => hse, fun x => ?_, cls (fun h X a3 => ?_), rf (fun g Y a3 => ?_)⟩
      · split at x <;> omega
      · have c1 : Ch cTk h (jm_sI h 4 0 5 (zI s)) := Ch.sI (by unfold cTk; omega)
        obtain ⟨h', q1, q2, q3, q4⟩ := s_nw_0 t e2 (by omega) e3 e4 (e - s) s (jm_sI h 4 0 5 (zI s)) (by omega) (Nat.le_refl _) (X.tk c1) (by rw [sI_ne (by omega)]; exact a3) sI_eq
        refine ⟨h', hd h _ X a3 (fun x => absurd x n59) (fun _ _ => ⟨h', wp_Reader_nextWord q1, rfl⟩) (fun _ x => absurd hl x) (fun _ x => absurd hl x), ⟨?_, ?_, fun _ => q3, fun x => ?_⟩, c1.tr (q4.mono (fun K i j x => by unfold cTk; omega))⟩
        · rw [q2]; split <;> rfl
        · rw [q4.at (by omega), sI_eq]
        · split at x <;> omega
      · have c1 : Ch cTr g (jm_sI g 8 0 17 (zI s)) := Ch.sI (by unfold cTr; omega)
        obtain ⟨g', q1, q2, q3, q4⟩ := s_rw_34 t e2 (by omega) e3 e4 (e - s) s (jm_sI g 8 0 17 (zI s)) (by omega) (Nat.le_refl _) (Y.tr c1) (by rw [sI_ne (by omega)]; exact a3) sI_eq
        refine ⟨g', hm g _ Y a3 (fun _ => q1) (fun x => absurd hl x) (fun x => absurd hl x), ⟨?_, ?_, fun _ => q3, fun x => ?_⟩, c1.tr (q4.mono (fun K i j x => by unfold cTr; omega))⟩
        · rw [q2]
          by_cases h7 : e - s ≤ 7
          · rw [if_pos h7, if_pos h7]; rfl
          · rw [if_neg h7, if_neg h7]; rfl
        · rw [q4.at (by omega), sI_eq]
        · split at x <;> omega
    · by_cases hD : isD (f s)
      · -- a whole
        obtain ⟨e, e1, e2, e3, e4⟩ := run_ex (fun i => isD (f i)) (n - s) s n (by omega)
        have hse : s < e := by
          apply Decidable.byContradiction
          intro hx
          exact e4 (by omega) (by rw [show e = s by omega]; exact hD)
        have n59 : f s ≠ 59 := by unfold isD at hD; omega
        have db := dgv_b (f := f) (s := s) (e - s) (fun i hi => e3 (s + i) (by omega) (by omega))
        refine ⟨if e - s ≤ 3 then 2 else 0, s, e, dgv f s (e - s), by split <;> omega, s1, by omega, e2, fun _ => hse, fun x => ?_, cls (fun h X a3 => ?_), rf (fun g Y a3 => ?_)⟩
        · exact db.2.2.2 (by split at x <;> omega)
        · have c1 : Ch cTk h (jm_sI (jm_sI h 4 0 5 (zI s)) 4 0 6 0) := (Ch.sI (by unfold cTk; omega)).tr (Ch.sI (by unfold cTk; omega))
          obtain ⟨h', q1, q2, q3, q4, q5⟩ := s_nn_3 t e2 (by omega) e3 e4 (e - s) s (jm_sI (jm_sI h 4 0 5 (zI s)) 4 0 6 0) (by omega) (Nat.le_refl _) (X.tk c1) (by rw [sI_ne (by omega), sI_ne (by omega)]; exact a3) (by rw [sI_ne (by omega), sI_eq]) (by rw [sI_eq, Nat.sub_self]; rfl)
          refine ⟨h', hd h _ X a3 (fun x => absurd x n59) (fun _ x => absurd x hl) (fun _ _ _ => ⟨h', wp_Reader_nextWhole q1, rfl⟩) (fun _ _ x => absurd hD x), ⟨?_, ?_, fun _ => q3, fun _ => q4⟩, c1.tr (q5.mono (fun K i j x => by unfold cTk; omega))⟩
          · rw [q2]; split <;> rfl
          · rw [q5.at (by omega), sI_ne (by omega), sI_eq]
        · have c1 : Ch cTr g (jm_sI (jm_sI g 8 0 17 (zI s)) 8 0 20 0) := (Ch.sI (by unfold cTr; omega)).tr (Ch.sI (by unfold cTr; omega))
          obtain ⟨g', q1, q2, q3, q4, q5⟩ := s_rn_70 t e2 (by omega) e3 e4 (e - s) s (jm_sI (jm_sI g 8 0 17 (zI s)) 8 0 20 0) (by omega) (Nat.le_refl _) (Y.tr c1) (by rw [sI_ne (by omega), sI_ne (by omega)]; exact a3) (by rw [sI_ne (by omega), sI_eq]) (fun _ => by rw [sI_eq, Nat.sub_self]; rfl)
          refine ⟨g', hm g _ Y a3 (fun x => absurd x hl) (fun _ _ => q1) (fun _ x => absurd hD x), ⟨?_, ?_, fun _ => q3, fun x => q4 (by split at x <;> omega)⟩, c1.tr (q5.mono (fun K i j x => by unfold cTr; omega))⟩
          · rw [q2]
            by_cases h7 : e - s ≤ 3
            · rw [if_pos h7, if_pos h7]; rfl
            · rw [if_neg h7, if_neg h7]; rfl
          · rw [q5.at (by omega), sI_ne (by omega), sI_eq]
      · by_cases h59 : f s = 59
        · refine ⟨3, s, s + 1, 0, by omega, s1, by omega, by omega, fun _ => by omega, fun x => by omega, cls (fun h X a3 => ?_), rf (fun g Y a3 => ?_)⟩
          · refine ⟨_, hd h _ X a3 (fun _ => rfl) (fun x => absurd h59 x) (fun x => absurd h59 x) (fun x => absurd h59 x), ⟨?_, ?_, fun _ => sI_eq, fun x => by omega⟩, ((Ch.sI (by unfold cTk; omega)).tr (Ch.sI (by unfold cTk; omega))).tr (Ch.sI (by unfold cTk; omega))⟩
            · rw [sI_ne (by omega), sI_eq]; rfl
            · rw [sI_ne (by omega), sI_ne (by omega), sI_eq]
          · refine ⟨_, hm g _ Y a3 (fun x => absurd x hl) (fun _ x => absurd x hD) (fun _ _ => ⟨fun _ => rfl, fun x => absurd h59 x⟩), ⟨?_, ?_, fun _ => ?_, fun x => by omega⟩, ((Ch.sI (by unfold cTr; omega)).tr (Ch.sI (by unfold cTr; omega))).tr (Ch.sI (by unfold cTr; omega))⟩
            · rw [sI_eq]; rfl
            · rw [sI_ne (by omega), sI_ne (by omega), sI_eq]
            · rw [sI_ne (by omega), sI_eq]
        · refine ⟨0, s, s, 0, by omega, s1, by omega, by omega, fun x => by omega, fun x => by omega, cls (fun h X a3 => ?_), rf (fun g Y a3 => ?_)⟩
          · refine ⟨_, hd h _ X a3 (fun x => absurd x h59) (fun _ x => absurd x hl) (fun _ _ x => absurd x hD) (fun _ _ _ => rfl), ⟨?_, ?_, fun x => absurd rfl x, fun x => by omega⟩, (Ch.sI (by unfold cTk; omega)).tr (Ch.sI (by unfold cTk; omega))⟩
            · rw [sI_eq]; rfl
            · rw [sI_ne (by omega), sI_eq]
          · refine ⟨_, hm g _ Y a3 (fun x => absurd x hl) (fun _ x => absurd x hD) (fun _ _ => ⟨fun x => absurd x h59, fun _ => rfl⟩), ⟨?_, ?_, fun x => absurd rfl x, fun x => by omega⟩, ((Ch.sI (by unfold cTr; omega)).tr (Ch.sI (by unfold cTr; omega))).tr (Ch.sI (by unfold cTr; omega))⟩
            · rw [sI_eq]; rfl
            · rw [sI_ne (by omega), sI_ne (by omega), sI_eq]
  · -- the end
    have hsn : s = n := by omega
    refine ⟨4, s, s, 0, by omega, s1, by omega, s2, fun x => by omega, fun x => by omega, cls (fun h X a3 => ?_), rf (fun g Y a3 => ?_)⟩
    · refine ⟨jm_sI (jm_sI h 4 0 5 (zI s)) 4 0 4 4, wp_Reader_next_0 ⟨fun _ => ⟨fun hc => ?_, fun _ => by rw [a3]⟩, fun hc => ?_⟩, ⟨?_, ?_, fun _ => ?_, fun x => by omega⟩, (Ch.sI (by unfold cTk; omega)).tr (Ch.sI (by unfold cTk; omega))⟩
      · rw [X.1, a3, zI_lt (by omega) (by omega) (by omega) (by omega)] at hc; omega
      · rw [X.1, a3, zI_le (by omega) (by omega) (by omega) (by omega)] at hc; omega
      · rw [sI_eq]; rfl
      · rw [sI_ne (by omega), sI_eq]
      · rw [sI_ne (by omega), sI_ne (by omega)]; exact a3
    · have c1 : Ch cTr g (jm_sI g 8 0 17 (zI s)) := Ch.sI (by unfold cTr; omega)
      have e1 : m_M_see (zI s) g (-1) g := by rw [hsn]; exact s_seeE t Y
      have e2 : m_M_see (zI s) (jm_sI g 8 0 17 (zI s)) (-1) (jm_sI g 8 0 17 (zI s)) := by
        have := s_seeE t (Y.tr c1)
        rw [← hsn] at this; exact this
      refine ⟨jm_sI (jm_sI g 8 0 17 (zI s)) 8 0 19 0, wp_M_reads_0 ⟨_, g, by rw [a3]; exact e1, fun hc => absurd hc (by decide), fun _ => by rw [a3]; exact ⟨_, _, e2, fun _ => rfl, fun hc => absurd rfl hc⟩⟩, ⟨?_, ?_, fun _ => ?_, fun x => by omega⟩, c1.tr (Ch.sI (by unfold cTr; omega))⟩
      · rw [sI_eq]; rfl
      · rw [sI_ne (by omega), sI_eq]
      · rw [sI_ne (by omega), sI_ne (by omega)]; exact a3
