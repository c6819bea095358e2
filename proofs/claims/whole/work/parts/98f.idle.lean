/-! ===== idle ===== -/
section IDLE
variable {B : Int} {h : jm_H} {nm : Nat} {D : Nat → MD} {m : Nat} {d : MD}
/-- no piece in a frame -/
def emp (d : MD) (k : Nat) : Prop := sm (md_jb d) (fun j => mU d j k) = 0
theorem emp_iff (t : TId d) {k : Nat} (hk : k < mF d) : emp d k ↔ mSl d k = md_rm d (md_fr d) := by
  have h1 := (t.1.2.2.2 k hk).2
  unfold emp mU mSl
  (try dsimp only at h1)
  omega
theorem s_id_35 (v : vM h m d) (w : WFm d) (hm : m < 3) (t : MTb h m d) (G : gdm d) (ti : TId d) (e56 : h.1 56 0 1 = zI m) {k : Nat} (hk : k < mF d) {x1 x2 x3 : Int32} {r : jm_Rs} (r1 : emp d k → (x2 = x1 → r = (some (jm_i (zI k)), h)) ∧ (¬ x2 = x1 → l_M_idle_21 x1 (x2 + 1) x3 (zI k + 1) h r)) (r2 : ¬ emp d k → l_M_idle_21 x1 x2 x3 (zI k + 1) h r) : ∀ (e n : Nat), n + e = md_jb d → l_M_idle_35 x1 x2 x3 (zI k) (zI (sm n (fun j => mU d j k))) (zI n) h r := by
  have w5 := w.2.2.2.2.1
  have F24 := (mF_b w).1
  have em : (zI (m : Int)).toNatClampNeg = m := zI_cn (by omega)
  have sb : ∀ n, n ≤ 24 → 0 ≤ sm n (fun j => mU d j k) ∧ sm n (fun j => mU d j k) ≤ 100 * n := by
    intro n
    induction n with
    | zero => intro _; exact ⟨Int.le_refl _, Int.le_refl _⟩
    | succ n ih =>
      intro hn
      have h1 := ih (by omega)
      have h2 := mU_b w G ti n k (by omega) (by omega)
      rw [sm_s]; omega
  intro e
  induction e with
  | zero =>
    intro n en
    have en' : n = md_jb d := by omega
    subst en'
    have s1 := sb (md_jb d) w5
    refine wp_M_idle_35 ⟨by rw [e56]; exact zI_in (by omega) (by omega) (by omega), fun _ => ⟨fun hc => ?_, fun hc => ?_⟩, fun hc => ?_⟩
    · rw [zl_0, zI_eq (by omega) (by omega) (by omega) (by omega)] at hc
      exact r1 hc
    · rw [zl_0, zI_eq (by omega) (by omega) (by omega) (by omega)] at hc
      exact r2 hc
    · rw [e56, em, v.2.2.2.2.1, zI_le (by omega) (by omega) (by omega) (by omega)] at hc; omega
  | succ e ih =>
    intro n en
    have q := ih (n + 1) (by omega)
    rw [sm_s n] at q
    refine wp_M_idle_35 ⟨by rw [e56]; exact zI_in (by omega) (by omega) (by omega), fun hc => ?_, fun _ => ⟨_, h, by rw [e56]; exact s_has t hm (by omega) (by omega), ?_⟩⟩
    · rw [e56, em, v.2.2.2.2.1, zI_le (by omega) (by omega) (by omega) (by omega)] at hc; omega
    · rw [zI_add, e_p1]; exact q
/-- the i-th frame without a piece, from here on, n of them passed -/
theorem id_ex (w : WFm d) (G : gdm d) (ti : TId d) {i : Int} (i1 : -2147483648 ≤ i) (i2 : i ≤ 2147483647) : ∀ (e k n : Nat), k + e = mF d → n ≤ k → ∃ o : Option Nat, (∀ z, o = some z → z < 24) ∧ ((n : Int) ≤ i → ∀ h q, TF h q d (md_fr d) → l_Table_emptyFrame_4 q (zI (i - n)) (zI k) h (some (jm_i (zI (oI o))), h)) ∧ (i < n → o = none) ∧ (∀ h m, m < 3 → vM h m d → MTb h m d → h.1 56 0 1 = zI m → (o = none → l_M_idle_21 (zI i) (zI n) 1 (zI k) h (some (jm_i 0), jm_sI h 8 0 0 1)) ∧ (∀ z, o = some z → l_M_idle_21 (zI i) (zI n) 1 (zI k) h (some (jm_i (zI z)), h))) := by
  have F24 := (mF_b w).1
  intro e
  induction e with
  | zero =>
    intro k n ek hn
    refine ⟨none, fun z hz => by cases hz, fun hi h q T => ?_, fun _ => rfl, fun h m hm v t e56 => ⟨fun _ => ?_, fun z hz => by cases hz⟩⟩
    · refine wp_Table_emptyFrame_4 ⟨fun _ => rfl, fun _ => ⟨fun _ => rfl, fun hc => ?_⟩⟩
      rw [(T.fl G).2.1, zI_le (by omega) (by omega) (by omega) (by omega)] at hc; omega
    · refine wp_M_idle_21 ⟨fun _ => rfl, fun _ => ⟨_, h, by rw [e56]; exact s_framesOf v w hm, fun _ => rfl, fun hc => ?_⟩⟩
      rw [zI_le (by omega) (by omega) (by omega) (by omega)] at hc; omega
  | succ e ih =>
    intro k n ek hn
    have hk : k < mF d := by omega
    have rb := md_rmb w (g := md_fr d) (by have := w.1; omega) (by have := w.1; omega)
    have sl := sl_b w G ti hk
    have tst : ∀ h q, TF h q d (md_fr d) → (h.1 19 q (zI (k : Int)).toNatClampNeg = h.1 1 q 1 ↔ emp d k) := fun h q T => by
      rw [zI_cn (by omega), (T.fl G).2.2 k hk, T.1.1.2.2.2.1, zI_eq (by omega) (by omega) (by omega) (by omega), emp_iff ti hk]
    have isM : ∀ h q, TF h q d (md_fr d) → ¬ h.1 6 q 1 = 0 := fun h q T => by rw [T.2.1, gdI_1.mpr G]; decide
    have more : ∀ h q, TF h q d (md_fr d) → ¬ h.1 1 q 2 ≤ zI (k : Int) := fun h q T => by rw [(T.fl G).2.1, zI_le (by omega) (by omega) (by omega) (by omega)]; omega
    have gM : ∀ {h : jm_H} {m : Nat} {r : jm_Rs}, m < 3 → vM h m d → h.1 56 0 1 = zI m → l_M_idle_35 (zI i) (zI n) 1 (zI k) 0 0 h r → l_M_idle_21 (zI i) (zI n) 1 (zI k) h r := fun {h m r} hm v e56 hr => by
      refine wp_M_idle_21 ⟨fun hc => absurd hc (by decide), fun _ => ⟨_, h, by rw [e56]; exact s_framesOf v w hm, fun hc => ?_, fun _ => hr⟩⟩
      rw [zI_le (by omega) (by omega) (by omega) (by omega)] at hc; omega
    by_cases he : emp d k
    · by_cases hi : i = n
      · refine ⟨some k, fun z hz => by cases hz; omega, fun _ h q T => ?_, fun x => by omega, fun h m hm v t e56 => ⟨fun hz => by cases hz, fun z hz => ?_⟩⟩
        · refine wp_Table_emptyFrame_4 ⟨fun hc => absurd hc (isM h q T), fun _ => ⟨fun hc => absurd hc (more h q T), fun _ => ⟨zI_in (by omega) (by omega) (by omega), fun _ => ⟨fun _ => rfl, fun hc => ?_⟩, fun hc => absurd ((tst h q T).mpr he) hc⟩⟩⟩
          rw [hi, Int.sub_self] at hc; exact absurd rfl hc
        · cases hz
          exact gM hm v e56 (s_id_35 v w hm t G ti e56 hk (fun _ => ⟨fun _ => rfl, fun hc => absurd (by rw [hi]) hc⟩) (fun x => absurd he x) (md_jb d) 0 (by omega))
      · obtain ⟨o, o1, o2, o3, o4⟩ := ih (k + 1) (n + 1) (by omega) (by omega)
        refine ⟨o, o1, fun hni h q T => ?_, fun x => o3 (by omega), fun h m hm v t e56 => ⟨fun hz => ?_, fun z hz => ?_⟩⟩
        · have q1 := o2 (by omega) h q T
          refine wp_Table_emptyFrame_4 ⟨fun hc => absurd hc (isM h q T), fun _ => ⟨fun hc => absurd hc (more h q T), fun _ => ⟨zI_in (by omega) (by omega) (by omega), fun _ => ⟨fun hc => ?_, fun _ => ?_⟩, fun hc => absurd ((tst h q T).mpr he) hc⟩⟩⟩
          · rw [zl_0, zI_eq (by omega) (by omega) (by omega) (by omega)] at hc; omega
          · rw [e_p1, zl_m1, zI_add, show i - (n : Int) + -1 = i - ((n + 1 : Nat) : Int) by omega]; exact q1
        · exact gM hm v e56 (s_id_35 v w hm t G ti e56 hk (fun _ => ⟨fun hc => by rw [zI_eq (by omega) (by omega) (by omega) (by omega)] at hc; omega, fun _ => by rw [e_p1, e_p1]; exact (o4 h m hm v t e56).1 hz⟩) (fun x => absurd he x) (md_jb d) 0 (by omega))
        · exact gM hm v e56 (s_id_35 v w hm t G ti e56 hk (fun _ => ⟨fun hc => by rw [zI_eq (by omega) (by omega) (by omega) (by omega)] at hc; omega, fun _ => by rw [e_p1, e_p1]; exact (o4 h m hm v t e56).2 z hz⟩) (fun x => absurd he x) (md_jb d) 0 (by omega))
    · obtain ⟨o, o1, o2, o3, o4⟩ := ih (k + 1) n (by omega) (by omega)
      refine ⟨o, o1, fun hni h q T => ?_, o3, fun h m hm v t e56 => ⟨fun hz => ?_, fun z hz => ?_⟩⟩
      · have q1 := o2 hni h q T
        exact wp_Table_emptyFrame_4 ⟨fun hc => absurd hc (isM h q T), fun _ => ⟨fun hc => absurd hc (more h q T), fun _ => ⟨zI_in (by omega) (by omega) (by omega), fun hc => absurd ((tst h q T).mp hc) he, fun _ => by rw [e_p1]; exact q1⟩⟩⟩
      · exact gM hm v e56 (s_id_35 v w hm t G ti e56 hk (fun x => absurd x he) (fun _ => by rw [e_p1]; exact (o4 h m hm v t e56).1 hz) (md_jb d) 0 (by omega))
      · exact gM hm v e56 (s_id_35 v w hm t G ti e56 hk (fun x => absurd x he) (fun _ => by rw [e_p1]; exact (o4 h m hm v t e56).2 z hz) (md_jb d) 0 (by omega))
theorem INV.sL {x : Int64} (I : INV B h) : INV B (jm_sL h x) := I
/-- the reference's idle leaves all as it was, but who is laid -/
theorem INV.mk3 {h2 : jm_H} (P : PL h nm D) (C : CKI h nm D B) (T : TT h) (Q : TP h) (b : MX nm D h h2) (e1 : h2.1 8 0 1 = h.1 8 0 1) (e3 : h2.1 8 0 3 = h.1 8 0 3) : INV B h2 := by
  refine ⟨nm, D, P.M b, C.M b, ⟨?_, ?_, fun x => ?_⟩, Q.chg (fun K j hK => b.1.at (by unfold cMX cMs; omega))⟩
  · rw [b.1.at (by unfold cMX cMs; omega), e1]; exact T.1
  · rw [b.1.at (by unfold cMX cMs; omega), b.1.at (by unfold cMX cMs; omega)]; exact T.2.1
  · rw [b.1.at (by unfold cMX cMs; omega)] at x
    rw [b.1.at (by unfold cMX cMs; omega), e3]; exact T.2.2 x
theorem s_laid3 (P : PL h nm D) (hm : m < nm) : ∃ h', m_M_isLaid (zI m) h (zI (gdI (D m) (md_fr (D m)))) h' ∧ MX nm D h h' ∧ (gdm (D m) → TL h' m (D m)) ∧ (∀ j, j = 0 ∨ j = 1 ∨ j = 3 → h'.1 8 0 j = if j = 0 then h'.1 8 0 0 else h.1 8 0 j) ∧ h'.1 56 0 1 = h.1 56 0 1 := by
  have p1 := P.1
  obtain ⟨q1, q2, q3, q4, q5, q6⟩ := P.2.2.2.2 m hm
  obtain ⟨h', a1, a2, a3, a4⟩ := s_isLaid q3 q1 (by omega) q5
  refine ⟨h', a1, ⟨a4.mono (fun K i j x => by unfold cLd at x; unfold cMX; rcases x with x | x | x | x | x; exact Or.inl x; all_goals exact Or.inr (Or.inl (by omega))), fun m' hm' => ?_⟩, a3, fun j hj => ?_, a4.at (by unfold cLd cMs; omega)⟩
  · by_cases e : m' = m
    · subst e
      exact ⟨fun _ => a2, fun t => a3 t.2.1⟩
    · have hF := P.F24 hm'
      exact ⟨fun t => t.chg hF (fun K j hK => a4.at (by unfold cLd cMs; omega)), fun t => t.chg hF (fun K j hK => a4.at (by unfold cLd cMs; omega))⟩
  · by_cases e : j = 0
    · rw [if_pos e, e]
    · rw [if_neg e]; exact a4.at (by unfold cLd cMs; omega)
end IDLE
