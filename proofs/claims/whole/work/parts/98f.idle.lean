/-! ===== idle ===== -/
section IDLE
variable {B : Int} {h : jm_H} {nm : Nat} {D : Nat → MD} {m : Nat} {d : MD}
/-- no piece in a frame -/
def emp (d : MD) (k : Nat) : Prop := sm (md_jb d) (fun j => mU d j k) = 0
theorem emp_iff (t : TId d) {k : Nat} (hk : k < mF d) : emp d k ↔ mSl d k = md_rm d (md_fr d) := by
  have h1 := (t.1.2.2.2 k hk).2
  unfold emp mU mSl
  (try dsimp only at h1)
  omega
theorem s_id_35 (v : vM h m d) (w : WFm d) (hm : m < 3) (t : MTb h m d) (G : gdm d) (ti : TId d) (e56 : h.1 56 0 1 = zI m) {k : Nat} (hk : k < mF d) {x1 x2 x3 : Int32} {r : jm_Rs} (r1 : emp d k → (x2 = x1 → r = (some (jm_i (zI k)), h)) ∧ (¬ x2 = x1 → l_M_idle_21 x1 (x2 + 1) x3 (zI k + 1) h r)) (r2 : ¬ emp d k → l_M_idle_21 x1 x2 x3 (zI k + 1) h r) : ∀ (e n : Nat), n + e = md_jb d → l_M_idle_35 x1 x2 x3 (zI k) (zI (sm n (fun j => mU d j k))) (zI n) h r := by
  have w5 := w.2.2.2.2.1
  have F24 := (mF_b w).1
  have em : (zI (m : Int)).toNatClampNeg = m := zI_cn (by omega)
  have sb : ∀ n, n ≤ 24 → 0 ≤ sm n (fun j => mU d j k) ∧ sm n (fun j => mU d j k) ≤ 100 * n := by
    intro n
    induction n with
    | zero => intro _; exact ⟨Int.le_refl _, Int.le_refl _⟩
    | succ n ih =>
      intro hn
      have h1 := ih (by omega)
      have h2 := mU_b w G ti n k (by omega) (by omega)
      rw [sm_s]; omega
  intro e
  induction e with
  | zero =>
    intro n en
    have en' : n = md_jb d := by omega
    subst en'
    have s1 := sb (md_jb d) w5
    refine wp_M_idle_35 ⟨by rw [e56]; exact zI_in (by omega) (by omega) (by omega), fun _ => ⟨fun hc => ?_, fun hc => ?_⟩, fun hc => ?_⟩
    · rw [zl_0, zI_eq (by omega) (by omega) (by omega) (by omega)] at hc
      exact r1 hc
    · rw [zl_0, zI_eq (by omega) (by omega) (by omega) (by omega)] at hc
      exact r2 hc
    · rw [e56, em, v.2.2.2.2.1, zI_le (by omega) (by omega) (by omega) (by omega)] at hc; omega
  | succ e ih =>
    intro n en
    have q := ih (n + 1) (by omega)
    rw [sm_s n] at q
    refine wp_M_idle_35 ⟨by rw [e56]; exact zI_in (by omega) (by omega) (by omega), fun hc => ?_, fun _ => ⟨_, h, by rw [e56]; exact s_has t hm (by omega) (by omega), ?_⟩⟩
    · rw [e56, em, v.2.2.2.2.1, zI_le (by omega) (by omega) (by omega) (by omega)] at hc; omega
    · rw [zI_add, e_p1]; exact q
/-- the i-th frame without a piece, from here on, n of them passed -/
theorem id_ex (w : WFm d) (G : gdm d) (ti : TId d) {i : Int} (i1 : -2147483648 ≤ i) (i2 : i ≤ 2147483647) : ∀ (e k n : Nat), k + e = mF d → n ≤ k → ∃ o : Option Nat, (∀ z, o = some z → z < 24) ∧ ((n : Int) ≤ i → ∀ h q, TF h q d (md_fr d) → l_Table_emptyFrame_4 q (zI (i - n)) (zI k) h (some (jm_i (zI (oI o))), h)) ∧ (i < n → o = none) ∧ (∀ h m, m < 3 → vM h m d → MTb h m d → h.1 56 0 1 = zI m → (o = none → l_M_idle_21 (zI i) (zI n) 1 (zI k) h (some (jm_i 0), jm_sI h 8 0 0 1)) ∧ (∀ z, o = some z → l_M_idle_21 (zI i) (zI n) 1 (zI k) h (some (jm_i (zI z)), h))) := by
  have F24 := (mF_b w).1
  intro e
  induction e with
  | zero =>
    intro k n ek hn
    refine ⟨none, fun z hz => (by cases hz), fun hi h q T => ?_, fun _ => rfl, fun h m hm v t e56 => ⟨fun _ => ?_, fun z hz => (by cases hz)⟩⟩
    · refine wp_Table_emptyFrame_4 ⟨fun _ => rfl, fun _ => ⟨fun _ => rfl, fun hc => ?_⟩⟩
      rw [(T.fl G).2.1, zI_le (by omega) (by omega) (by omega) (by omega)] at hc; omega
    · refine wp_M_idle_21 ⟨fun _ => rfl, fun _ => ⟨_, h, by rw [e56]; exact s_framesOf v w hm, fun _ => rfl, fun hc => ?_⟩⟩
      rw [zI_le (by omega) (by omega) (by omega) (by omega)] at hc; omega
  | succ e ih =>
    intro k n ek hn
    have hk : k < mF d := by omega
    have rb := md_rmb w (g := md_fr d) (by have := w.1; omega) (by have := w.1; omega)
    have sl := sl_b w G ti hk
    have tst : ∀ h q, TF h q d (md_fr d) → (h.1 19 q (zI (k : Int)).toNatClampNeg = h.1 1 q 1 ↔ emp d k) := fun h q T => by
      rw [zI_cn (by omega), (T.fl G).2.2 k hk, T.1.1.2.2.2.1, zI_eq (by omega) (by omega) (by omega) (by omega), emp_iff ti hk]
    have isM : ∀ h q, TF h q d (md_fr d) → ¬ h.1 6 q 1 = 0 := fun h q T => by rw [T.2.1, gdI_1.mpr G]; decide
    have more : ∀ h q, TF h q d (md_fr d) → ¬ h.1 1 q 2 ≤ zI (k : Int) := fun h q T => by rw [(T.fl G).2.1, zI_le (by omega) (by omega) (by omega) (by omega)]; omega
    have gM : ∀ {h : jm_H} {m : Nat} {r : jm_Rs}, m < 3 → vM h m d → h.1 56 0 1 = zI m → l_M_idle_35 (zI i) (zI n) 1 (zI k) 0 0 h r → l_M_idle_21 (zI i) (zI n) 1 (zI k) h r := fun {h m r} hm v e56 hr => by
      refine wp_M_idle_21 ⟨fun hc => absurd hc (by decide), fun _ => ⟨_, h, by rw [e56]; exact s_framesOf v w hm, fun hc => ?_, fun _ => hr⟩⟩
      rw [zI_le (by omega) (by omega) (by omega) (by omega)] at hc; omega
    by_cases he : emp d k
    · by_cases hi : i = n
      · refine ⟨some k, fun z hz => (by cases hz; omega), fun _ h q T => ?_, fun x => (by omega), fun h m hm v t e56 => ⟨fun hz => (by cases hz), fun z hz => ?_⟩⟩
        · refine wp_Table_emptyFrame_4 ⟨fun hc => absurd hc (isM h q T), fun _ => ⟨fun hc => absurd hc (more h q T), fun _ => ⟨zI_in (by omega) (by omega) (by omega), fun _ => ⟨fun _ => rfl, fun hc => ?_⟩, fun hc => absurd ((tst h q T).mpr he) hc⟩⟩⟩
          rw [hi, Int.sub_self] at hc; exact absurd rfl hc
        · cases hz
          exact gM hm v e56 (s_id_35 v w hm t G ti e56 hk (fun _ => ⟨fun _ => rfl, fun hc => absurd (by rw [hi]) hc⟩) (fun x => absurd he x) (md_jb d) 0 (by omega))
      · obtain ⟨o, o1, o2, o3, o4⟩ := ih (k + 1) (n + 1) (by omega) (by omega)
        refine ⟨o, o1, fun hni h q T => ?_, fun x => o3 (by omega), fun h m hm v t e56 => ⟨fun hz => ?_, fun z hz => ?_⟩⟩
        · have q1 := o2 (by omega) h q T
          refine wp_Table_emptyFrame_4 ⟨fun hc => absurd hc (isM h q T), fun _ => ⟨fun hc => absurd hc (more h q T), fun _ => ⟨zI_in (by omega) (by omega) (by omega), fun _ => ⟨fun hc => ?_, fun _ => ?_⟩, fun hc => absurd ((tst h q T).mpr he) hc⟩⟩⟩
          · rw [zl_0, zI_eq (by omega) (by omega) (by omega) (by omega)] at hc; omega
          · rw [e_p1, zl_m1, zI_add, show i - (n : Int) + -1 = i - ((n + 1 : Nat) : Int) by omega]; exact q1
        · exact gM hm v e56 (s_id_35 v w hm t G ti e56 hk (fun _ => ⟨fun hc => by rw [zI_eq (by omega) (by omega) (by omega) (by omega)] at hc; omega, fun _ => by rw [e_p1, e_p1]; exact (o4 h m hm v t e56).1 hz⟩) (fun x => absurd he x) (md_jb d) 0 (by omega))
        · exact gM hm v e56 (s_id_35 v w hm t G ti e56 hk (fun _ => ⟨fun hc => by rw [zI_eq (by omega) (by omega) (by omega) (by omega)] at hc; omega, fun _ => by rw [e_p1, e_p1]; exact (o4 h m hm v t e56).2 z hz⟩) (fun x => absurd he x) (md_jb d) 0 (by omega))
    · obtain ⟨o, o1, o2, o3, o4⟩ := ih (k + 1) n (by omega) (by omega)
      refine ⟨o, o1, fun hni h q T => ?_, o3, fun h m hm v t e56 => ⟨fun hz => ?_, fun z hz => ?_⟩⟩
      · have q1 := o2 hni h q T
        exact wp_Table_emptyFrame_4 ⟨fun hc => absurd hc (isM h q T), fun _ => ⟨fun hc => absurd hc (more h q T), fun _ => ⟨zI_in (by omega) (by omega) (by omega), fun hc => absurd ((tst h q T).mp hc) he, fun _ => by rw [e_p1]; exact q1⟩⟩⟩
      · exact gM hm v e56 (s_id_35 v w hm t G ti e56 hk (fun x => absurd x he) (fun _ => by rw [e_p1]; exact (o4 h m hm v t e56).1 hz) (md_jb d) 0 (by omega))
      · exact gM hm v e56 (s_id_35 v w hm t G ti e56 hk (fun x => absurd x he) (fun _ => by rw [e_p1]; exact (o4 h m hm v t e56).2 z hz) (md_jb d) 0 (by omega))
theorem INV.sL {x : Int64} (I : INV B h) : INV B (jm_sL h x) := I
/-- the reference's idle leaves all as it was, but who is laid -/
theorem INV.mk3 {h2 : jm_H} (P : PL h nm D) (C : CKI h nm D B) (T : TT h) (Q : TP h) (b : MX nm D h h2) (e1 : h2.1 8 0 1 = h.1 8 0 1) (e3 : h2.1 8 0 3 = h.1 8 0 3) : INV B h2 := by
  refine ⟨nm, D, P.M b, C.M b, ⟨?_, ?_, fun x => ?_⟩, Q.chg (fun K j hK => b.1.at (by unfold cMX cMs; omega))⟩
  · rw [b.1.at (by unfold cMX cMs; omega), e1]; exact T.1
  · rw [b.1.at (by unfold cMX cMs; omega), b.1.at (by unfold cMX cMs; omega)]; exact T.2.1
  · rw [b.1.at (by unfold cMX cMs; omega)] at x
    rw [b.1.at (by unfold cMX cMs; omega), e3]; exact T.2.2 x
theorem s_laid3 (P : PL h nm D) (hm : m < nm) : ∃ h', m_M_isLaid (zI m) h (zI (gdI (D m) (md_fr (D m)))) h' ∧ MX nm D h h' ∧ (gdm (D m) → TL h' m (D m)) ∧ (∀ j, j = 0 ∨ j = 1 ∨ j = 3 → h'.1 8 0 j = h.1 8 0 j) ∧ h'.1 56 0 1 = h.1 56 0 1 ∧ h'.2 = h.2 := by
  have p1 := P.1
  obtain ⟨q1, q2, q3, q4, q5, q6⟩ := P.2.2.2.2 m hm
  obtain ⟨h', a1, a2, a3, a4⟩ := s_isLaid q3 q1 (by omega) q5
  refine ⟨h', a1, ⟨a4.mono (fun K i j x => by unfold cLd at x; unfold cMX; rcases x with x | x | x | x | x; exact Or.inl x; all_goals exact Or.inr (Or.inl (by omega))), fun m' hm' => ?_⟩, a3, fun j hj => a4.at (by unfold cLd cMs; omega), a4.at (by unfold cLd cMs; omega), a4.2⟩
  by_cases e : m' = m
  · subst e
    exact ⟨fun _ => a2, fun t => a3 t.2.1⟩
  · have hF := P.F24 hm'
    exact ⟨fun t => t.chg hF (fun K j hK => a4.at (by unfold cLd cMs; omega)), fun t => t.chg hF (fun K j hK => a4.at (by unfold cLd cMs; omega))⟩
theorem oI_none {o : Option Nat} (h24 : ∀ z, o = some z → z < 24) : (o = none → zI (oI o) = -1) ∧ (∀ z, o = some z → zI (oI o) = zI z) := by
  cases o with
  | none => exact ⟨fun _ => rfl, fun z hz => (by cases hz)⟩
  | some z => exact ⟨fun hz => (by cases hz), fun z' hz => (by cases hz; rfl)⟩
def idA (B : Int) (a : Int32) (h : jm_H) : Prop := ∃ v, m_FR_idle a h v h ∧ ∃ h2, m_M_idle a (jm_sL h v.toInt64) v h2 ∧ h2.1 8 0 0 = 0 ∧ INV B h2 ∧ h2.2.2 = v.toInt64
def idB (B : Int) (a : Int32) (h : jm_H) : Prop := ∃ k ls, (k = 6 ∨ k = 21) ∧ jm_P cod_80 (0, [some (jm_r 7 0), some (jm_i a), none], [], h) (k, ls, [], h) ∧ ∃ v h2, m_M_idle a h v h2 ∧ h2.1 8 0 0 = 1 ∧ INV B h2
theorem c_idle (I : INV B h) (a : Int32) : idA B a h ∨ idB B a h := by
  obtain ⟨nm, D, P, C, T, Q⟩ := I
  obtain ⟨x, rfl, x1, x2⟩ := i32x a
  have p1 := P.1
  -- the reference finds none
  have c0 : ∀ g : jm_H, Ch cM2 g (jm_sI g 8 0 0 0) := fun g => Ch.sI (by unfold cM2; omega)
  have c1 : ∀ g : jm_H, Ch cM2 g (jm_sI g 8 0 0 1) := fun g => Ch.sI (by unfold cM2; omega)
  by_cases hz : nm = 0
  · refine Or.inr ⟨6, _, Or.inl rfl, wi_idle ⟨fun _ => rfl, fun hc => absurd ((pz P).1.mpr hz) hc⟩, 0, jm_sI (jm_sI h 8 0 0 0) 8 0 0 1, wp_M_idle ⟨fun _ => wp_M_idle_21 ⟨fun _ => rfl, fun hc => absurd rfl hc⟩, fun hc => ?_⟩, sI_eq, INV.mk3 P C T Q ((MX.of P (c0 h)).tr (MX.of P (c1 _))) (by rw [sI_ne (by omega), sI_ne (by omega)]) (by rw [sI_ne (by omega), sI_ne (by omega)])⟩
    rw [P.2.2.2.1, hz] at hc; exact absurd (by decide) hc
  · obtain ⟨c, k1, k2, k3, k4⟩ := C.2.1 (by omega)
    have hm := k3.2.1
    obtain ⟨q1, q2, q3, q4, q5, q6⟩ := P.2.2.2.2 _ hm
    have n6 : ∀ g : jm_H, g.1 8 0 6 = h.1 8 0 6 → ¬ g.1 8 0 6 ≤ 0 := fun g e => by rw [e, P.2.2.2.1, zl_0, zI_le (by omega) (by omega) (by omega) (by omega)]; omega
    -- the reference, at a heap with the same cells
    have ref : ∀ y : Int64, ∃ h3, m_M_isLaid (zI (k_mo c)) (jm_sI (jm_sL h y) 8 0 0 0) (zI (gdI (D (k_mo c)) (md_fr (D (k_mo c))))) h3 ∧ MX nm D (jm_sI (jm_sL h y) 8 0 0 0) h3 ∧ (gdm (D (k_mo c)) → TL h3 (k_mo c) (D (k_mo c))) ∧ h3.1 8 0 0 = 0 ∧ h3.1 8 0 1 = h.1 8 0 1 ∧ h3.1 8 0 3 = h.1 8 0 3 ∧ h3.1 56 0 1 = zI (k_mo c) ∧ h3.2.2 = y ∧ MX nm D (jm_sL h y) h3 := fun y => by
      have Py : PL (jm_sL h y) nm D := P
      have P0 : PL (jm_sI (jm_sL h y) 8 0 0 0) nm D := Py.M (MX.of Py (c0 _))
      obtain ⟨h3, a1, a2, a3, a4, a5, a6⟩ := s_laid3 P0 hm
      refine ⟨h3, a1, a2, a3, by rw [a4 0 (by omega), sI_eq], by rw [a4 1 (by omega), sI_ne (by omega)]; rfl, by rw [a4 3 (by omega), sI_ne (by omega)]; rfl, by rw [a5, sI_ne (by omega)]; exact k2.2.1, by rw [a6]; rfl, (MX.of Py (c0 _)).tr a2⟩
    by_cases G : gdm (D (k_mo c))
    · have ti := q6 G
      obtain ⟨o, o1, o2, o3, o4⟩ := id_ex q1 G ti x1 x2 (mF (D (k_mo c))) 0 0 (by omega) (by omega)
      have on := oI_none o1
      have m3 := P.m3 hm
      cases ho : o with
      | none =>
        obtain ⟨h3, a1, a2, a3, a4, a5, a6, a7, a8, a9⟩ := ref h.2.2
        have v3 := ((PL.M P a9).2.2.2.2 _ hm).2.2.1
        have rM := (o4 h3 (k_mo c) m3 v3 (a3 G).2.2 a7).1 ho
        have hMi : m_M_idle (zI x) h 0 (jm_sI h3 8 0 0 1) := by
          refine wp_M_idle ⟨fun hc => absurd hc (n6 h rfl), fun _ => ⟨_, h3, by rw [k2.2.1]; exact a1, fun hc => ?_, fun _ => rM⟩⟩
          rw [gdI_1.mpr G] at hc; exact absurd hc (by decide)
        have fin : INV B (jm_sI h3 8 0 0 1) := INV.mk3 P C T Q (a9.tr (MX.of P (c1 _))) (by rw [sI_ne (by omega)]; exact a5) (by rw [sI_ne (by omega)]; exact a6)
        by_cases hx : 0 ≤ x
        · have eF := o2 (by omega) h (k_mo c) q4
          rw [show x - ((0 : Nat) : Int) = x by omega, on.1 ho] at eF
          refine Or.inr ⟨21, _, Or.inr rfl, wi_idle ⟨fun hc => absurd ((pz P).1.mp hc) hz, fun _ => ⟨fun _ => ⟨by rw [k1.2.1]; exact in3 P hm, -1, h, by rw [k1.2.1, tq P hm]; exact wp_Table_emptyFrame eF, fun hc => absurd hc (by decide), fun _ => rfl⟩, fun hc => ?_⟩⟩, 0, _, hMi, sI_eq, fin⟩
          rw [zl_0, zI_le (by omega) (by omega) (by omega) (by omega)] at hc; omega
        · refine Or.inr ⟨6, _, Or.inl rfl, wi_idle ⟨fun hc => absurd ((pz P).1.mp hc) hz, fun _ => ⟨fun hc => ?_, fun _ => rfl⟩⟩, 0, _, hMi, sI_eq, fin⟩
          rw [zl_0, zI_le (by omega) (by omega) (by omega) (by omega)] at hc; omega
      | some z =>
        have z24 := o1 z ho
        have hx : 0 ≤ x := by
          apply Decidable.byContradiction
          intro hn
          have := o3 (by omega)
          rw [ho] at this; cases this
        have eF := o2 (by omega) h (k_mo c) q4
        rw [show x - ((0 : Nat) : Int) = x by omega, on.2 z ho] at eF
        obtain ⟨h3, a1, a2, a3, a4, a5, a6, a7, a8, a9⟩ := ref (zI (z : Int)).toInt64
        have Py : PL (jm_sL h (zI (z : Int)).toInt64) nm D := P
        have v3 := ((Py.M a9).2.2.2.2 _ hm).2.2.1
        have rM := (o4 h3 (k_mo c) m3 v3 (a3 G).2.2 a7).2 z ho
        have e56 : (jm_sL h (zI (z : Int)).toInt64).1 56 0 1 = zI (k_mo c) := k2.2.1
        have hMi : m_M_idle (zI x) (jm_sL h (zI (z : Int)).toInt64) (zI z) h3 := by
          refine wp_M_idle ⟨fun hc => absurd hc (n6 _ rfl), fun _ => ⟨zI (gdI (D (k_mo c)) (md_fr (D (k_mo c)))), h3, by rw [e56]; exact a1, fun hc => ?_, fun _ => rM⟩⟩
          rw [gdI_1.mpr G] at hc; exact absurd hc (by decide)
        have hF : m_FR_idle (zI x) h (zI z) h := by
          refine wp_FR_idle ⟨fun hc => absurd ((pz P).1.mp hc) hz, fun _ => ⟨fun _ => ⟨by rw [k1.2.1]; exact in3 P hm, zI z, h, by rw [k1.2.1, tq P hm]; exact wp_Table_emptyFrame eF, fun _ => rfl, fun hc => ?_⟩, fun hc => ?_⟩⟩
          · rw [zl_0, zI_le (by omega) (by omega) (by omega) (by omega)] at hc; omega
          · rw [zl_0, zI_le (by omega) (by omega) (by omega) (by omega)] at hc; omega
        exact Or.inl ⟨zI z, hF, h3, hMi, a4, INV.mk3 (h := jm_sL h (zI (z : Int)).toInt64) P C T Q a9 a5 a6, a8⟩
    · obtain ⟨h3, a1, a2, a3, a4, a5, a6, a7, a8, a9⟩ := ref h.2.2
      have hMi : m_M_idle (zI x) h 0 (jm_sI h3 8 0 0 1) := by
        refine wp_M_idle ⟨fun hc => absurd hc (n6 h rfl), fun _ => ⟨_, h3, by rw [k2.2.1]; exact a1, fun _ => wp_M_idle_21 ⟨fun _ => rfl, fun hc => absurd rfl hc⟩, fun hc => ?_⟩⟩
        rw [gd0 G] at hc; exact absurd rfl hc
      have fin : INV B (jm_sI h3 8 0 0 1) := INV.mk3 P C T Q (a9.tr (MX.of P (c1 _))) (by rw [sI_ne (by omega)]; exact a5) (by rw [sI_ne (by omega)]; exact a6)
      by_cases hx : 0 ≤ x
      · have t0 : h.1 6 (k_mo c) 1 = 0 := by rw [q4.2.1, gd0 G]; rfl
        refine Or.inr ⟨21, _, Or.inr rfl, wi_idle ⟨fun hc => absurd ((pz P).1.mp hc) hz, fun _ => ⟨fun _ => ⟨by rw [k1.2.1]; exact in3 P hm, -1, h, by rw [k1.2.1, tq P hm]; exact wp_Table_emptyFrame (wp_Table_emptyFrame_4 ⟨fun _ => rfl, fun hc => absurd t0 hc⟩), fun hc => absurd hc (by decide), fun _ => rfl⟩, fun hc => ?_⟩⟩, 0, _, hMi, sI_eq, fin⟩
        rw [zl_0, zI_le (by omega) (by omega) (by omega) (by omega)] at hc; omega
      · refine Or.inr ⟨6, _, Or.inl rfl, wi_idle ⟨fun hc => absurd ((pz P).1.mp hc) hz, fun _ => ⟨fun hc => ?_, fun _ => rfl⟩⟩, 0, _, hMi, sI_eq, fin⟩
        rw [zl_0, zI_le (by omega) (by omega) (by omega) (by omega)] at hc; omega
end IDLE
