/-! ===== the reference tidies ===== -/
section TIDYR
variable {h : jm_H} {J F : Nat} {room : Int} {fi la c : Nat → Int} {s : FSt}
theorem s_ti_23 (hw : WN J F fi la c room) (S : MS h J F room fi la c) (L : ML h F s.1) (U : MU h s.2) (P : TI J F fi la c room s) {j a : Nat} (hj : j < J) (ha : a < F) : ∀ (e n : Nat), n + e = F → (fB s j a e n = none → ∀ r, l_M_tidies_8 (zI j) (zI a + 1) h r → l_M_tidies_23 (zI j) (zI a) (zI (s.2 j a)) (zI n) h r) ∧ (∀ b, fB s j a e n = some b → ∃ h', l_M_tidies_23 (zI j) (zI a) (zI (s.2 j a)) (zI n) h (some (jm_i 1), h') ∧ ML h' F (tmv s j a b).1 ∧ MU h' (tmv s j a b).2 ∧ Ch cFl h h') := by
  have hJ := hw.1
  have s5 := S.2.2.2.2.1
  obtain ⟨ub, lb⟩ := TI_ub hw P
  have ua := ub j a hj ha
  have e24 : ∀ x : Nat, x < 24 → (24 * zI (j : Int)) + zI (x : Int) = zI ((24 * j + x : Nat) : Int) := fun x _ => by rw [zl_24, zI_mul, zI_add]; congr 1
  intro e
  induction e with
  | zero =>
    intro n en
    refine ⟨fun _ r hr => wp_M_tidies_23 ⟨fun _ => hr, fun hc => ?_⟩, fun b hb => by cases hb⟩
    rw [s5, zI_le (by omega) (by omega) (by omega) (by omega)] at hc; omega
  | succ e ih =>
    intro n en
    have hn : n < F := by omega
    have un := ub j n hj hn
    have ln := lb n hn
    have eun : h.1 49 0 ((24 * zI (j : Int)) + zI (n : Int)).toNatClampNeg = zI (s.2 j n) := by rw [e24 n (by omega), zI_cn (by omega)]; exact U j n (by omega) (by omega)
    have hin2 : jm_in ((24 * zI (j : Int)) + zI (n : Int)) 576 := by rw [e24 n (by omega)]; exact zI_in (by omega) (by omega) (by omega)
    have hia2 : jm_in ((24 * zI (j : Int)) + zI (a : Int)) 576 := by rw [e24 a (by omega)]; exact zI_in (by omega) (by omega) (by omega)
    have hin : jm_in (zI (n : Int)) 24 := zI_in (by omega) (by omega) (by omega)
    have hia : jm_in (zI (a : Int)) 24 := zI_in (by omega) (by omega) (by omega)
    have eln : h.1 50 0 (zI (n : Int)).toNatClampNeg = zI (s.1 n) := by rw [zI_cn (by omega)]; exact L n hn
    obtain ⟨g1, g2⟩ := ih (n + 1) (by omega)
    have en1 : zI (n : Int) + 1 = zI ((n + 1 : Nat) : Int) := by rw [zl_1, zI_add]; rfl
    by_cases ht : tdc s j a n = true
    · rw [fB, if_pos ht]
      obtain ⟨t1, t2, t3, t4⟩ := tdc_iff.mp ht
      refine ⟨fun hno => (by cases hno), fun b hb => ?_⟩
      cases hb
      refine ⟨_, wp_M_tidies_23 ⟨fun hc => ?_, fun _ => ⟨fun hc => ?_, fun _ => ⟨fun hc => ?_, fun _ => ⟨hin2, fun hc => ?_, fun _ => ⟨hin, fun hc => ?_, fun _ => ⟨hia2, hin2, hin2, hia, hia, hin, hin, rfl⟩⟩⟩⟩⟩⟩, ?_, ?_, ?_⟩
      · rw [s5, zI_le (by omega) (by omega) (by omega) (by omega)] at hc; omega
      · rw [zl_0, zI_le (by omega) (by omega) (by omega) (by omega)] at hc; omega
      · rw [zI_eq (by omega) (by omega) (by omega) (by omega)] at hc; omega
      · rw [eun, zl_0, zI_le (by omega) (by omega) (by omega) (by omega)] at hc; omega
      · rw [eln, zI_lt (by omega) (by omega) (by omega) (by omega)] at hc; omega
      · intro k hk
        rw [e24 n (by omega), e24 a (by omega), zI_cn (by omega), zI_cn (by omega), zI_cn (by omega), zI_cn (by omega)]
        show _ = zI (up (up s.1 a (s.1 a - -(s.2 j a))) n (up s.1 a (s.1 a - -(s.2 j a)) n - s.2 j a) k)
        by_cases k1 : k = n
        · subst k1
          rw [sI_eq, sI_ne (by omega), sI_ne (by omega), sI_ne (by omega), L k hk, zI_sub, up_eq, up_ne t1]
        · rw [sI_ne (by omega), up_ne k1]
          by_cases k2 : k = a
          · subst k2
            rw [sI_eq, L k hk, zI_add, up_eq]; congr 1; omega
          · rw [sI_ne (by omega), sI_ne (by omega), sI_ne (by omega), up_ne k2]; exact L k hk
      · intro j' k' hj' hk'
        rw [e24 n (by omega), e24 a (by omega), zI_cn (by omega), zI_cn (by omega), zI_cn (by omega), zI_cn (by omega)]
        show _ = zI (put1 (put1 s.2 j a (-(s.2 j a))) j n (s.2 j a) j' k')
        rw [sI_ne (by omega), sI_ne (by omega)]
        by_cases k1 : j' = j ∧ k' = n
        · obtain ⟨rfl, rfl⟩ := k1
          rw [sI_eq, sI_ne (by omega), U j' k' hj' hk', zI_add, put1_eq, put1_ne (by omega)]
        · rw [sI_ne (by omega), put1_ne k1]
          by_cases k2 : j' = j ∧ k' = a
          · obtain ⟨rfl, rfl⟩ := k2
            rw [sI_eq, put1_eq, show s.2 j' k' + -(s.2 j' k') = 0 by omega]; rfl
          · rw [sI_ne (by omega), put1_ne k2]; exact U j' k' hj' hk'
      · exact (((Ch.sI (by unfold cFl; omega)).tr (Ch.sI (by unfold cFl; omega))).tr (Ch.sI (by unfold cFl; omega))).tr (Ch.sI (by unfold cFl; omega))
    · rw [fB, if_neg ht]
      have br : ∀ r, (l_M_tidies_8 (zI j) (zI a + 1) h r ∨ 0 < s.2 j a) → l_M_tidies_23 (zI j) (zI a) (zI (s.2 j a)) (zI n + 1) h r → l_M_tidies_23 (zI j) (zI a) (zI (s.2 j a)) (zI n) h r := by
        intro r hr hgo
        refine wp_M_tidies_23 ⟨fun hc => ?_, fun _ => ⟨fun hc => ?_, fun hc => ⟨fun _ => hgo, fun hc2 => ⟨hin2, fun _ => hgo, fun hc3 => ⟨hin, fun _ => hgo, fun hc4 => ?_⟩⟩⟩⟩⟩
        · rw [s5, zI_le (by omega) (by omega) (by omega) (by omega)] at hc; omega
        · rw [zl_0, zI_le (by omega) (by omega) (by omega) (by omega)] at hc
          rcases hr with hr | hr
          · exact hr
          · omega
        · rw [zl_0, zI_le (by omega) (by omega) (by omega) (by omega)] at hc
          rw [zI_eq (by omega) (by omega) (by omega) (by omega)] at hc2
          rw [eun, zl_0, zI_le (by omega) (by omega) (by omega) (by omega)] at hc3
          rw [eln, zI_lt (by omega) (by omega) (by omega) (by omega)] at hc4
          exact absurd (tdc_iff.mpr ⟨by omega, by omega, by omega, by omega⟩) ht
      refine ⟨fun hno r hr => br r (Or.inl hr) (by rw [en1]; exact g1 hno r hr), fun b hb => ?_⟩
      obtain ⟨h', r1, r2⟩ := g2 b hb
      have hp := (tdc_iff.mp (fB_some _ _ hb).1).2.1
      exact ⟨h', br _ (Or.inr hp) (by rw [en1]; exact r1), r2⟩
theorem s_ti_8 (hw : WN J F fi la c room) (S : MS h J F room fi la c) (L : ML h F s.1) (U : MU h s.2) (P : TI J F fi la c room s) {j : Nat} (hj : j < J) : ∀ (e n : Nat), n + e = F → (fA s F j e n = none → ∀ r, l_M_tidies_2 (zI j + 1) h r → l_M_tidies_8 (zI j) (zI n) h r) ∧ (∀ q, fA s F j e n = some q → ∃ h', l_M_tidies_8 (zI j) (zI n) h (some (jm_i 1), h') ∧ ML h' F (tmv s j q.1 q.2).1 ∧ MU h' (tmv s j q.1 q.2).2 ∧ Ch cFl h h') := by
  have hJ := hw.1
  have s5 := S.2.2.2.2.1
  intro e
  induction e with
  | zero =>
    intro n en
    refine ⟨fun _ r hr => wp_M_tidies_8 ⟨fun _ => hr, fun hc => ?_⟩, fun b hb => by cases hb⟩
    rw [s5, zI_le (by omega) (by omega) (by omega) (by omega)] at hc; omega
  | succ e ih =>
    intro n en
    have hn : n < F := by omega
    have e24 : (24 * zI (j : Int)) + zI (n : Int) = zI ((24 * j + n : Nat) : Int) := by rw [zl_24, zI_mul, zI_add]; congr 1
    have eun : h.1 49 0 ((24 * zI (j : Int)) + zI (n : Int)).toNatClampNeg = zI (s.2 j n) := by rw [e24, zI_cn (by omega)]; exact U j n (by omega) (by omega)
    have hin2 : jm_in ((24 * zI (j : Int)) + zI (n : Int)) 576 := by rw [e24]; exact zI_in (by omega) (by omega) (by omega)
    obtain ⟨g1, g2⟩ := ih (n + 1) (by omega)
    obtain ⟨b1, b2⟩ := s_ti_23 hw S L U P hj hn F 0 (by omega)
    have en1 : zI (n : Int) + 1 = zI ((n + 1 : Nat) : Int) := by rw [zl_1, zI_add]; rfl
    rw [fA]
    cases hb : fB s j n F 0 with
    | none =>
      (try dsimp only)
      refine ⟨fun hno r hr => wp_M_tidies_8 ⟨fun _ => hr, fun _ => ⟨hin2, ?_⟩⟩, fun q hq => ?_⟩
      · rw [eun]; exact b1 hb r (by rw [en1]; exact g1 hno r hr)
      · obtain ⟨h', r1, r2⟩ := g2 q hq
        refine ⟨h', wp_M_tidies_8 ⟨fun hc => ?_, fun _ => ⟨hin2, ?_⟩⟩, r2⟩
        · rw [s5, zI_le (by omega) (by omega) (by omega) (by omega)] at hc; omega
        · rw [eun]; exact b1 hb _ (by rw [en1]; exact r1)
    | some b =>
      (try dsimp only)
      refine ⟨fun hno => (by cases hno), fun q hq => ?_⟩
      cases hq
      obtain ⟨h', r1, r2⟩ := b2 b hb
      refine ⟨h', wp_M_tidies_8 ⟨fun hc => ?_, fun _ => ⟨hin2, ?_⟩⟩, r2⟩
      · rw [s5, zI_le (by omega) (by omega) (by omega) (by omega)] at hc; omega
      · rw [eun]; exact r1
theorem s_ti_2 (hw : WN J F fi la c room) (S : MS h J F room fi la c) (L : ML h F s.1) (U : MU h s.2) (P : TI J F fi la c room s) : ∀ (e j : Nat), j + e = J → (fJ s F e j = none → l_M_tidies_2 (zI j) h (some (jm_i 0), h)) ∧ (∀ q, fJ s F e j = some q → ∃ h', l_M_tidies_2 (zI j) h (some (jm_i 1), h') ∧ ML h' F (tmv s q.1 q.2.1 q.2.2).1 ∧ MU h' (tmv s q.1 q.2.1 q.2.2).2 ∧ Ch cFl h h') := by
  have hJ := hw.1
  have s6 := S.2.2.2.2.2.1
  intro e
  induction e with
  | zero =>
    intro j ej
    refine ⟨fun _ => wp_M_tidies_2 ⟨fun _ => rfl, fun hc => ?_⟩, fun q hq => by cases hq⟩
    rw [s6, zI_le (by omega) (by omega) (by omega) (by omega)] at hc; omega
  | succ e ih =>
    intro j ej
    have hj : j < J := by omega
    obtain ⟨a1, a2⟩ := s_ti_8 hw S L U P hj F 0 (by omega)
    obtain ⟨g1, g2⟩ := ih (j + 1) (by omega)
    have en1 : zI (j : Int) + 1 = zI ((j + 1 : Nat) : Int) := by rw [zl_1, zI_add]; rfl
    rw [fJ]
    cases hA : fA s F j F 0 with
    | none =>
      (try dsimp only)
      refine ⟨fun hno => wp_M_tidies_2 ⟨fun _ => rfl, fun _ => a1 hA _ (by rw [en1]; exact g1 hno)⟩, fun q hq => ?_⟩
      obtain ⟨h', r1, r2⟩ := g2 q hq
      refine ⟨h', wp_M_tidies_2 ⟨fun hc => ?_, fun _ => a1 hA _ (by rw [en1]; exact r1)⟩, r2⟩
      rw [s6, zI_le (by omega) (by omega) (by omega) (by omega)] at hc; omega
    | some q0 =>
      (try dsimp only)
      refine ⟨fun hno => (by cases hno), fun q hq => ?_⟩
      cases hq
      obtain ⟨h', r1, r2⟩ := a2 q0 hA
      refine ⟨h', wp_M_tidies_2 ⟨fun hc => ?_, fun _ => r1⟩, r2⟩
      rw [s6, zI_le (by omega) (by omega) (by omega) (by omega)] at hc; omega
def cLy : Nat → Nat → Nat → Prop := fun K _ j => (49 ≤ K ∧ K ≤ 51) ∨ (K = 8 ∧ j = 35)
theorem MS.cLy {h h' : jm_H} (S : MS h J F room fi la c) (a : Ch cLy h h') : MS h' J F room fi la c := S.chg (fun K j hK => a.at (by unfold Jvm.Pilot.CFrameRoundLaw_law_r7718_4414e1.cLy; omega))
theorem cLy_Fl {h h' : jm_H} (a : Ch cFl h h') : Ch cLy h h' := a.mono (fun K i j x => by unfold cFl at x; unfold cLy; omega)
theorem s_lays_9 (hw : WN J F fi la c room) : ∀ (N : Nat) (h : jm_H) (s : FSt) (w : Int), pcs J F s.2 ≤ N → MS h J F room fi la c → ML h F s.1 → MU h s.2 → TI J F fi la c room s → h.1 8 0 35 = zI w → ∃ h', l_M_lays_9 h (none, h') ∧ MS h' J F room fi la c ∧ ML h' F (titer J F N s).2.1 ∧ MU h' (titer J F N s).2.2 ∧ h'.1 8 0 35 = zI (w + (titer J F N s).1) ∧ Ch cLy h h' := by
  intro N
  induction N with
  | zero =>
    intro h s w hN S L U P hwv
    have hno : fJ s F J 0 = none := fJ_none J 0 (pcs_0 P hN)
    obtain ⟨t1, t2⟩ := s_ti_2 hw S L U P J 0 (by omega)
    refine ⟨h, wp_M_lays_9 ⟨0, h, wp_M_tidies (t1 hno), fun _ => rfl, fun hc => absurd rfl hc⟩, S, L, U, by rw [hwv]; congr 1; rw [titer]; (try dsimp only); omega, Ch.rf h⟩
  | succ N ih =>
    intro h s w hN S L U P hwv
    obtain ⟨t1, t2⟩ := s_ti_2 hw S L U P J 0 (by omega)
    rw [titer]
    cases hq : fJ s F J 0 with
    | none =>
      (try dsimp only)
      exact ⟨h, wp_M_lays_9 ⟨0, h, wp_M_tidies (t1 hq), fun _ => rfl, fun hc => absurd rfl hc⟩, S, L, U, by rw [hwv, Int.add_zero], Ch.rf h⟩
    | some q =>
      (try dsimp only)
      obtain ⟨h1, r1, r2, r3, r4⟩ := t2 q hq
      have hj := fJ_some _ _ hq
      have hp := pcs_mv (J := J) (F := F) (s := s) (show q.1 < J by omega) hj.2.2.1 hj.2.2.2 hj.1
      have c2 : Ch cLy h1 (jm_sI h1 8 0 35 (zI (w + 1))) := Ch.sI (by unfold cLy; omega)
      obtain ⟨h', g1, g2, g3, g4, g5, g6⟩ := ih (jm_sI h1 8 0 35 (zI (w + 1))) (tmv s q.1 q.2.1 q.2.2) (w + 1) (by omega) ((S.cFl r4).cLy c2) (fun k hk => by rw [sI_ne (by omega)]; exact r2 k hk) (fun j k h1 h2 => by rw [sI_ne (by omega)]; exact r3 j k h1 h2) (P.mv (by omega) hj.2.2.1 hj.2.2.2 hj.1) sI_eq
      refine ⟨h', wp_M_lays_9 ⟨1, h1, wp_M_tidies r1, fun hc => absurd hc (by decide), fun _ => ?_⟩, g2, g3, g4, ?_, ((cLy_Fl r4).tr c2).tr g6⟩
      · rw [r4.at (by unfold cFl; omega), hwv, zl_1, zI_add]; exact g1
      · rw [g5]; congr 1; omega
end TIDYR
/-! ===== good lengths have tables ===== -/
theorem sm_iv (F a n : Nat) (r : Int) (han : a ≤ n) (hn : n ≤ F) : sm F (fun k => if a ≤ k ∧ k < n then r else 0) = sg (fun _ => r) a n := by
  unfold sg
  have key : ∀ m : Nat, sm m (fun k => if a ≤ k ∧ k < n then r else 0) = sm (min m n) (fun _ => r) - sm (min m a) (fun _ => r) := by
    intro m
    induction m with
    | zero => rw [Nat.zero_min, Nat.zero_min]; rfl
    | succ m ih =>
      rw [sm_s, ih]
      by_cases h1 : m < a
      · rw [if_neg (by omega), show min (m + 1) n = m + 1 by omega, show min (m + 1) a = m + 1 by omega, show min m n = m by omega, show min m a = m by omega, sm_s]; omega
      · by_cases h2 : m < n
        · rw [if_pos (by omega), show min (m + 1) n = m + 1 by omega, show min (m + 1) a = a by omega, show min m n = m by omega, show min m a = a by omega, sm_s]; omega
        · rw [if_neg (by omega), show min (m + 1) n = n by omega, show min (m + 1) a = a by omega, show min m n = n by omega, show min m a = a by omega]; omega
  rw [key F, show min F n = n by omega, show min F a = a by omega]
section GDT
variable {d : MD} {g : Int}
theorem gd_WN (w : WFm d) (g1 : 4 ≤ g) (g2 : g ≤ 96) (G : gd d g) : WN (md_jb d) (md_F d g) (md_fi d g) (md_la d g) (md_c d) (md_rm d g) := by
  have bd := md_bd w g1 g2
  have rb := md_rmb w g1 g2
  refine ⟨⟨w.2.2.2.2.1, bd.1⟩, ⟨rb.1, by omega⟩, fun j hj => ?_, fun i j hij hj => ?_⟩
  · have b := bd.2.2 j hj
    have := G.2.1 j hj
    omega
  · have := w.2.2.2.2.2.2.2.2.1 i j hij hj
    exact Int.ediv_le_ediv (by omega) (by omega)
theorem gd_Hj (w : WFm d) (g1 : 4 ≤ g) (g2 : g ≤ 96) (G : gd d g) : Hj (md_jb d) (md_F d g) (md_fi d g) (md_la d g) (md_c d) 0 (fun _ => md_rm d g) := by
  have hw := gd_WN w g1 g2 G
  intro a n han hn
  have h1 := G.2.2.1 (fun k => decide (a ≤ k ∧ k < n))
  have e0 : nowh (md_jb d) (md_fi d g) (md_la d g) (md_c d) = 0 := sm_zero (fun j hj => if_pos (G.2.1 j hj))
  unfold ovr at h1
  have e1 : sm (md_F d g) (fun k => if decide (a ≤ k ∧ k < n) = true then md_rm d g else 0) = sg (fun _ => md_rm d g) a n := by
    rw [← sm_iv (md_F d g) a n (md_rm d g) han hn]
    exact sm_congr (fun k _ => by simp only [decide_eq_true_eq])
  have e2 : sm (md_jb d) (fun j => if bw (md_fi d g) (md_la d g) (fun k => decide (a ≤ k ∧ k < n)) j = true then md_c d j else 0) = sm (md_jb d) (fun i => if 0 ≤ i ∧ (a : Int) ≤ md_fi d g i ∧ md_la d g i < (n : Int) then md_c d i else 0) := sm_congr (fun j hj => by
    (try dsimp only)
    have wj := hw.2.2.1 j hj
    have key : bw (md_fi d g) (md_la d g) (fun k => decide (a ≤ k ∧ k < n)) j = true ↔ (0 ≤ j ∧ (a : Int) ≤ md_fi d g j ∧ md_la d g j < (n : Int)) := by
      rw [bw_iff]
      constructor
      · rintro ⟨h1, h2⟩
        have q1 := of_decide_eq_true (h2 (md_fi d g j).toNat (by omega) (by omega))
        have q2 := of_decide_eq_true (h2 (md_la d g j).toNat (by omega) (by omega))
        omega
      · rintro ⟨_, h1, h2⟩
        exact ⟨wj.2.1, fun k k1 k2 => decide_eq_true (by omega)⟩
    by_cases hb : bw (md_fi d g) (md_la d g) (fun k => decide (a ≤ k ∧ k < n)) j = true
    · rw [if_pos hb, if_pos (key.mp hb)]
    · rw [if_neg hb, if_neg (fun x => hb (key.mpr x))])
  rw [e1, e2] at h1
  omega
/-- the table of a mode by a length: how often it was tidied, slacks, units -/
noncomputable def tabS (d : MD) (g : Int) : Int × FSt := titer (md_jb d) (md_F d g) 576 (fillF (md_jb d) (md_fi d g) (md_la d g) (md_c d) (md_rm d g))
noncomputable def tabP (d : MD) (g : Int) : Int := pcs (md_jb d) (md_F d g) (tabS d g).2.2
/-- a table as the class has it -/
def TF (h : jm_H) (f : Nat) (d : MD) (g : Int) : Prop :=
  FA h f d g ∧ h.1 6 f 1 = zI (gdI d g) ∧ (gd d g → (∀ k, k < md_F d g → h.1 19 f k = zI ((tabS d g).2.1 k)) ∧ (∀ j k, j < md_jb d → k < 24 → h.1 21 (24 * f + j) k = zI ((tabS d g).2.2 j k)) ∧ h.1 6 f 2 = zI (tabP d g) ∧ h.1 6 f 3 = zI (tabS d g).1)
theorem tab_TI (w : WFm d) (g1 : 4 ≤ g) (g2 : g ≤ 96) (G : gd d g) (P : fout (md_jb d) (md_F d g) (md_fi d g) (md_la d g) (md_c d) (md_rm d g) (md_jb d) (fillF (md_jb d) (md_fi d g) (md_la d g) (md_c d) (md_rm d g))) : TI (md_jb d) (md_F d g) (md_fi d g) (md_la d g) (md_c d) (md_rm d g) (tabS d g).2 := (fout_TI P).it 576
/-- the changes of a table's making -/
def cMk (f : Nat) : Nat → Nat → Nat → Prop := fun K i j => cL f K i j ∨ cD f K i j ∨ (K = 6 ∧ i = f)
theorem s_make {q f : Nat} {h : jm_H} (v : vF h q d) (w : WFm d) (g1 : 4 ≤ g) (g2 : g ≤ 96) : ∃ h', m_Table_make f q (zI g) h h' ∧ TF h' f d g ∧ Ch (cMk f) h h' ∧ (gd d g → TI (md_jb d) (md_F d g) (md_fi d g) (md_la d g) (md_c d) (md_rm d g) (tabS d g).2) := by
  obtain ⟨h1, a1, a2, a3⟩ := s_layA (f := f) v w g1 g2
  have v1 : vF h1 q d := v.chg (fun K j hK => a2.at (by unfold cL; omega))
  obtain ⟨h2, b, b1, b2, b3, b4⟩ := s_goodIn v1 w g1 g2 a3
  have eb := gdI_of b3 b4
  have A2 := a3.ch b2
  obtain ⟨h3, eh⟩ : ∃ h3, h3 = jm_sI (jm_sI (jm_sI h2 6 f 1 (zI b)) 6 f 2 0) 6 f 3 0 := ⟨_, rfl⟩
  have c3 : Ch (cDT f) h2 h3 := by
    rw [eh]
    exact ((Ch.sI (Or.inr ⟨rfl, rfl⟩)).tr (Ch.sI (Or.inr ⟨rfl, rfl⟩))).tr (Ch.sI (Or.inr ⟨rfl, rfl⟩))
  have k1 : Ch (cMk f) h h2 := (a2.mono (fun K i j x => Or.inl x)).tr (b2.mono (fun K i j x => Or.inr (Or.inl x)))
  have k3 : Ch (cMk f) h2 h3 := c3.mono (fun K i j x => by
    rcases x with x | x
    · exact Or.inr (Or.inl x)
    · exact Or.inr (Or.inr x))
  have A3 : FA h3 f d g := ⟨A2.1.cDT c3, by rw [c3.at (by unfold cDT cD; omega)]; exact A2.2.1, fun j hj => by
    rw [c3.at (by unfold cDT cD; omega), c3.at (by unfold cDT cD; omega), c3.at (by unfold cDT cD; omega)]; exact A2.2.2 j hj⟩
  have e61 : h3.1 6 f 1 = zI b := by rw [eh, sI_ne (by omega), sI_ne (by omega), sI_eq]
  have e63 : h3.1 6 f 3 = zI 0 := by rw [eh, sI_eq]; rfl
  have lay : m_Flow_lay f q (zI g) (h.1 2 q 1) h h1 := by rw [v.2.1]; exact a1
  by_cases hG : gd d g
  · have hb : b = 1 := b4.mpr hG
    have hw := gd_WN w g1 g2 hG
    obtain ⟨h4, f1, f2, f3, f4⟩ := s_fill (f := f) hw (gd_Hj w g1 g2 hG) A3.1
    obtain ⟨h5, t1, t2, t3, t4⟩ := s_tidy (f := f) (w := 0) hw (A3.1.ch f4) f2 (fout_TI f3) (by rw [f4.at (by unfold cD; omega)]; exact e63)
    have t4' : Ch (cDT f) h4 h5 := t4.mono (fun K i j x => by
      rcases x with x | x
      · exact Or.inl x
      · exact Or.inr ⟨x.1, x.2.1⟩)
    have S5 := (A3.1.ch f4).cDT t4'
    have P5 : TI (md_jb d) (md_F d g) (md_fi d g) (md_la d g) (md_c d) (md_rm d g) (tabS d g).2 := (fout_TI f3).it 576
    have hcp := s_countPieces hw S5 t2 P5
    have k45 : Ch (cMk f) h3 h5 := (f4.mono (fun K i j x => Or.inr (Or.inl x))).tr (t4'.mono (fun K i j x => by
      rcases x with x | x
      · exact Or.inr (Or.inl x)
      · exact Or.inr (Or.inr x)))
    have k6 : Ch (cDT f) h5 (jm_sI h5 6 f 2 (zI (tabP d g))) := Ch.sI (Or.inr ⟨rfl, rfl⟩)
    refine ⟨jm_sI h5 6 f 2 (zI (tabP d g)), wp_Table_make ⟨h1, lay, zI b, h2, b1, ?_, fun hc => ?_, fun _ => ⟨h4, ?_, h5, t1, _, h5, hcp, rfl⟩⟩, ⟨⟨S5.cDT k6, ?_, fun j hj => ?_⟩, ?_, fun _ => ⟨fun k hk => ?_, fun j k hj hk => ?_, sI_eq, ?_⟩⟩, ((k1.tr k3).tr k45).tr (Ch.sI (Or.inr (Or.inr ⟨rfl, rfl⟩))), fun _ => P5⟩
    · rw [hb]; exact Or.inr rfl
    · rw [sI_eq, hb] at hc; exact absurd hc (by decide)
    · rw [← eh]; exact f1
    · rw [k6.at (by unfold cDT cD; omega), t4'.at (by unfold cDT cD; omega), f4.at (by unfold cD; omega)]; exact A3.2.1
    · rw [k6.at (by unfold cDT cD; omega), t4'.at (by unfold cDT cD; omega), f4.at (by unfold cD; omega), k6.at (by unfold cDT cD; omega), t4'.at (by unfold cDT cD; omega), f4.at (by unfold cD; omega), k6.at (by unfold cDT cD; omega), t4'.at (by unfold cDT cD; omega), f4.at (by unfold cD; omega)]; exact A3.2.2 j hj
    · rw [sI_ne (by omega), t4.at (by unfold cD; omega), f4.at (by unfold cD; omega), e61, eb]
    · rw [sI_ne (by omega)]; exact t2.2.1 k hk
    · rw [sI_ne (by omega)]; exact t2.2.2 j k hj hk
    · rw [sI_ne (by omega), t3, Int.zero_add]; rfl
  · have hb : b = 0 := by
      rcases b3 with e | e
      · exact e
      · exact absurd (b4.mp e) hG
    refine ⟨h3, wp_Table_make ⟨h1, lay, zI b, h2, b1, ?_, fun _ => ?_, fun hc => ?_⟩, ⟨A3, by rw [e61, eb], fun x => absurd x hG⟩, k1.tr k3, fun x => absurd x hG⟩
    · rw [hb]; exact Or.inl rfl
    · rw [eh]
    · rw [sI_eq, hb] at hc; exact absurd rfl hc
/-! ===== the reference's table ===== -/
theorem s_lays {m : Nat} {h : jm_H} (v : vM h m d) (w : WFm d) (hm : m < 3) (g1 : 4 ≤ g) (g2 : g ≤ 96) (G : gd d g) : ∃ h', m_M_lays (zI m) (zI g) h h' ∧ SUp h' m d g ∧ ML h' (md_F d g) (tabS d g).2.1 ∧ MU h' (tabS d g).2.2 ∧ h'.1 8 0 35 = zI (tabS d g).1 ∧ Ch cMs h h' ∧ TI (md_jb d) (md_F d g) (md_fi d g) (md_la d g) (md_c d) (md_rm d g) (tabS d g).2 := by
  have hw := gd_WN w g1 g2 G
  obtain ⟨h1, a1, a2, a3⟩ := s_setsUpA v w hm g1 g2
  obtain ⟨h2, f1, f2, f3, f4, f5, f6⟩ := s_fills hw (gd_Hj w g1 g2 G) a3.1
  have c2 : Ch cLy h2 (jm_sI h2 8 0 35 (zI 0)) := Ch.sI (by unfold cLy; omega)
  have pb : pcs (md_jb d) (md_F d g) (fillF (md_jb d) (md_fi d g) (md_la d g) (md_c d) (md_rm d g)).2 ≤ (576 : Nat) := by
    have h1 := (pcs_le (md_jb d) (md_F d g) (fillF (md_jb d) (md_fi d g) (md_la d g) (md_c d) (md_rm d g)).2).2
    have h2 := hw.1
    have h3 : (md_F d g : Int) * (md_jb d : Int) ≤ 24 * 24 := Int.mul_le_mul (by omega) (by omega) (by omega) (by omega)
    omega
  obtain ⟨h', g1', g2', g3, g4, g5, g6⟩ := s_lays_9 hw 576 (jm_sI h2 8 0 35 (zI 0)) _ 0 pb (f2.cLy c2) (fun k hk => by rw [sI_ne (by omega)]; exact f3 k hk) (fun j k hj hk => by rw [sI_ne (by omega)]; exact f4 j k hj hk) (fout_TI f5) sI_eq
  have k1 : Ch cMs h1 h' := ((f6.mono (fun K i j x => by unfold cFl at x; unfold cMs; omega)).tr (c2.mono (fun K i j x => by unfold cLy at x; unfold cMs; omega))).tr (g6.mono (fun K i j x => by unfold cLy at x; unfold cMs; omega))
  refine ⟨h', wp_M_lays ⟨h1, a1, h2, f1, g1'⟩, ⟨g2', a3.2.ms k1⟩, g3, g4, ?_, a2.tr k1, (fout_TI f5).it 576⟩
  rw [g5, Int.zero_add]; rfl
end GDT
