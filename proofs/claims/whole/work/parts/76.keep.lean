/-! ===== clock, keep, back ===== -/
theorem KE {h : jm_H} {o K : Nat} {c : CK} (a : KF h o c) (b : KM h K c) : ∀ j : Nat, j ≤ 9 → h.1 0 o j = h.1 K 0 j := by
  obtain ⟨a0, a1, a2, a3, a4, a5, a6, a7, a8, a9, _⟩ := a
  obtain ⟨b0, b1, b2, b3, b4, b5, b6, b7, b8, b9, _⟩ := b
  intro j hj
  rcases (show j = 0 ∨ j = 1 ∨ j = 2 ∨ j = 3 ∨ j = 4 ∨ j = 5 ∨ j = 6 ∨ j = 7 ∨ j = 8 ∨ j = 9 by omega) with e | e | e | e | e | e | e | e | e | e <;> subst e
  · rw [a0, b0]
  · rw [a1, b1]
  · rw [a2, b2]
  · rw [a3, b3]
  · rw [a4, b4]
  · rw [a5, b5]
  · rw [a6, b6]
  · rw [a7, b7]
  · rw [a8, b8]
  · rw [a9, b9]
section KEEP
variable {B : Int} {h : jm_H} {nm : Nat} {D : Nat → MD}
theorem s_tell {o : Nat} {y : Int} (y0 : 0 ≤ y) (y1 : y ≤ 9) : m_Clock_tell o (zI y) h (h.1 0 o y.toNat) h := by
  have ty := i32eq (y := y) (by omega) (by omega)
  have key : ∀ k : Int, 0 ≤ k → k ≤ 9 → y = k → (some (jm_i (h.1 0 o y.toNat)), h) = ((some (jm_i (h.1 0 o k.toNat)), h) : jm_Rs) := fun k _ _ e => by rw [e]
  refine wp_Clock_tell ⟨fun hc => ?_, fun hc => ?_, fun hc => ?_, fun hc => ?_, fun hc => ?_, fun hc => ?_, fun hc => ?_, fun hc => ?_, fun hc => ?_, fun hc => ?_⟩
  · rw [zl_0, zI_eq (by omega) (by omega) (by omega) (by omega)] at hc; exact key 0 (by omega) (by omega) hc
  · rw [zl_1, zI_eq (by omega) (by omega) (by omega) (by omega)] at hc; exact key 1 (by omega) (by omega) hc
  · rw [zl_2, zI_eq (by omega) (by omega) (by omega) (by omega)] at hc; exact key 2 (by omega) (by omega) hc
  · rw [zl_3, zI_eq (by omega) (by omega) (by omega) (by omega)] at hc; exact key 3 (by omega) (by omega) hc
  · rw [zl_4, zI_eq (by omega) (by omega) (by omega) (by omega)] at hc; exact key 4 (by omega) (by omega) hc
  · rw [zl_5, zI_eq (by omega) (by omega) (by omega) (by omega)] at hc; exact key 5 (by omega) (by omega) hc
  · rw [zl_6, zI_eq (by omega) (by omega) (by omega) (by omega)] at hc; exact key 6 (by omega) (by omega) hc
  · rw [zl_7, zI_eq (by omega) (by omega) (by omega) (by omega)] at hc; exact key 7 (by omega) (by omega) hc
  · rw [zl_8, zI_eq (by omega) (by omega) (by omega) (by omega)] at hc; exact key 8 (by omega) (by omega) hc
  · rw [ty] at hc; exact key 9 (by omega) (by omega) (by omega)
theorem pz (P : PL h nm D) : (h.1 3 (h.2.1 7 0 1) 0 = 0 ↔ nm = 0) ∧ (h.1 8 0 6 = 0 ↔ nm = 0) := by
  have p1 := P.1
  rw [P.2.2.1, P.2.2.2.1, zl_0, zI_eq (by omega) (by omega) (by omega) (by omega)]
  omega
theorem c_clock (I : INV B h) (a : Int32) : ∃ v h1 h2, m_FR_clock a h v h1 ∧ m_M_clock a h1 v h2 ∧ INV B h2 := by
  obtain ⟨nm, D, P, C, T, Q⟩ := I
  obtain ⟨y, rfl, y1, y2⟩ := i32x a
  by_cases hz : nm = 0
  · have Pa := PLa P 1
    exact ⟨_, _, _, wp_FR_clock ⟨fun _ => ⟨_, _, wp_FR_refused rfl, rfl⟩, fun hc => absurd ((pz P).1.mpr hz) hc⟩, wp_M_clock ⟨_, s_an, fun _ => ⟨_, _, wp_M_no rfl, rfl⟩, fun hc => absurd ((pz Pa).2.mpr hz) hc⟩, ref_inv P C T Q (t := 1) (by decide)⟩
  · by_cases hy : 0 ≤ y ∧ y ≤ 9
    · obtain ⟨c, k1, k2, k3, k4⟩ := C.2.1 (by omega)
      have Pa := PLb P (Ch.rf h) 0
      have E1 : EF h (jm_sI h 7 0 8 0) 0 := EF.of (Ch.rf h) 0
      refine ⟨_, _, hAn (jm_sI h 7 0 8 0), wp_FR_clock ⟨fun hc => absurd ((pz P).1.mp hc) hz, fun _ => ⟨fun hc => ?_, fun _ => ⟨fun _ => ⟨_, h, s_tell hy.1 hy.2, _, _, wp_FR_answered rfl, rfl⟩, fun hc => ?_⟩⟩⟩, wp_M_clock ⟨_, s_an, fun hc => absurd ((pz Pa).2.mp hc) hz, fun _ => ⟨_, _, s_in (x := y) (a := 0) (b := 9) y1 y2 (by omega) (by omega) (by omega) (by omega), fun hc => absurd hc (nz1 hy), fun _ => ⟨zI_in (by omega) (by omega) (by omega), ?_⟩⟩⟩, ans_inv P C T Q (Ch.rf h) (MX.rf _) (hAn_t _) (by decide)⟩
      · rw [zl_0, zI_lt (by omega) (by omega) (by omega) (by omega)] at hc; omega
      · rw [zl_9, zI_le (by omega) (by omega) (by omega) (by omega)] at hc; omega
      · rw [zI_nat (by omega) (by omega), (hAn_c (jm_sI h 7 0 8 0)).at (by unfold cM2 cMs; omega), sI_ne (by omega), KE k1 k2 y.toNat (by omega)]
    · have Pa := PLa P 1
      refine ⟨_, _, _, wp_FR_clock ⟨fun _ => ⟨_, _, wp_FR_refused rfl, rfl⟩, fun _ => ⟨fun _ => ⟨_, _, wp_FR_refused rfl, rfl⟩, fun hc => ⟨fun hc2 => ?_, fun _ => ⟨_, _, wp_FR_refused rfl, rfl⟩⟩⟩⟩, wp_M_clock ⟨_, s_an, fun _ => ⟨_, _, wp_M_no rfl, rfl⟩, fun _ => ⟨_, _, s_in (x := y) (a := 0) (b := 9) y1 y2 (by omega) (by omega) (by omega) (by omega), fun _ => ⟨_, _, wp_M_no rfl, rfl⟩, fun hc => absurd (nz0 hy) hc⟩⟩, ref_inv P C T Q (t := 1) (by decide)⟩
      rw [zl_0, zI_lt (by omega) (by omega) (by omega) (by omega)] at hc
      rw [zl_9, zI_le (by omega) (by omega) (by omega) (by omega)] at hc2; omega
/-- one clock becomes another -/
theorem s_become {o p : Nat} (ho : o < 2) (hp : p < 2) (hne : o ≠ p) {c : CK} (k : KF h p c) (k8 : k_wn c ≤ 8) : ∃ h', m_Clock_become o p h h' ∧ KF h' o c ∧ Ch (fun K i _ => (K = 0 ∨ K = 10 ∨ K = 11) ∧ i = o) h h' := by
  obtain ⟨h1, e1⟩ : ∃ h1, h1 = (jm_sI (jm_sI (jm_sI (jm_sI (jm_sI (jm_sI (jm_sI (jm_sI (jm_sI (jm_sI h 0 o 0 (h.1 0 p 0)) 0 o 1 (h.1 0 p 1)) 0 o 2 (h.1 0 p 2)) 0 o 3 (h.1 0 p 3)) 0 o 4 (h.1 0 p 4)) 0 o 5 (h.1 0 p 5)) 0 o 6 (h.1 0 p 6)) 0 o 7 (h.1 0 p 7)) 0 o 8 (h.1 0 p 8)) 0 o 9 (h.1 0 p 9)) := ⟨_, rfl⟩
  have c1 : Ch (fun K i _ => K = 0 ∧ i = o) h h1 := by
    rw [e1]
    exact (((((((((Ch.sI ⟨rfl, rfl⟩).tr (Ch.sI ⟨rfl, rfl⟩)).tr (Ch.sI ⟨rfl, rfl⟩)).tr (Ch.sI ⟨rfl, rfl⟩)).tr (Ch.sI ⟨rfl, rfl⟩)).tr (Ch.sI ⟨rfl, rfl⟩)).tr (Ch.sI ⟨rfl, rfl⟩)).tr (Ch.sI ⟨rfl, rfl⟩)).tr (Ch.sI ⟨rfl, rfl⟩)).tr (Ch.sI ⟨rfl, rfl⟩)
  have cp_at : ∀ (g : jm_H) (K i K' i' a b j : Nat), (jm_cp g K i K' i').1 a b j = if a = K' ∧ b = i' ∧ j < jm_ln K' then g.1 K i j else g.1 a b j := fun _ _ _ _ _ _ _ _ => rfl
  have l10 : jm_ln 10 = 8 := rfl
  have l11 : jm_ln 11 = 8 := rfl
  have c2 : Ch (fun K i _ => K = 10 ∧ i = o) h1 (jm_cp h1 10 p 10 o) := ⟨fun K i j hn => by rw [cp_at, if_neg (by omega)], rfl⟩
  have c3 : Ch (fun K i _ => K = 11 ∧ i = o) (jm_cp h1 10 p 10 o) (jm_cp (jm_cp h1 10 p 10 o) 11 p 11 o) := ⟨fun K i j hn => by rw [cp_at, if_neg (by omega)], rfl⟩
  have e0 : ∀ j, (jm_cp (jm_cp h1 10 p 10 o) 11 p 11 o).1 0 o j = h1.1 0 o j := fun j => by rw [c3.at (by omega), c2.at (by omega)]
  obtain ⟨k0, k1, k2, k3, k4, k5, k6, k7, k8', k9, k10⟩ := k
  refine ⟨jm_cp (jm_cp h1 10 p 10 o) 11 p 11 o, wp_Clock_become (by rw [e1]), ⟨?_, ?_, ?_, ?_, ?_, ?_, ?_, ?_, ?_, ?_, fun i hi => ⟨?_, ?_⟩⟩, ((c1.mono (fun K i j x => ⟨by omega, x.2⟩)).tr (c2.mono (fun K i j x => ⟨by omega, x.2⟩))).tr (c3.mono (fun K i j x => ⟨by omega, x.2⟩))⟩
  · rw [e0, e1, sI_ne (by omega), sI_ne (by omega), sI_ne (by omega), sI_ne (by omega), sI_ne (by omega), sI_ne (by omega), sI_ne (by omega), sI_ne (by omega), sI_ne (by omega), sI_eq]; exact k0
  · rw [e0, e1, sI_ne (by omega), sI_ne (by omega), sI_ne (by omega), sI_ne (by omega), sI_ne (by omega), sI_ne (by omega), sI_ne (by omega), sI_ne (by omega), sI_eq]; exact k1
  · rw [e0, e1, sI_ne (by omega), sI_ne (by omega), sI_ne (by omega), sI_ne (by omega), sI_ne (by omega), sI_ne (by omega), sI_ne (by omega), sI_eq]; exact k2
  · rw [e0, e1, sI_ne (by omega), sI_ne (by omega), sI_ne (by omega), sI_ne (by omega), sI_ne (by omega), sI_ne (by omega), sI_eq]; exact k3
  · rw [e0, e1, sI_ne (by omega), sI_ne (by omega), sI_ne (by omega), sI_ne (by omega), sI_ne (by omega), sI_eq]; exact k4
  · rw [e0, e1, sI_ne (by omega), sI_ne (by omega), sI_ne (by omega), sI_ne (by omega), sI_eq]; exact k5
  · rw [e0, e1, sI_ne (by omega), sI_ne (by omega), sI_ne (by omega), sI_eq]; exact k6
  · rw [e0, e1, sI_ne (by omega), sI_ne (by omega), sI_eq]; exact k7
  · rw [e0, e1, sI_ne (by omega), sI_eq]; exact k8'
  · rw [e0, e1, sI_eq]; exact k9
  · rw [c3.at (by omega), cp_at, if_pos ⟨rfl, rfl, by omega⟩, c1.at (by omega)]; exact (k10 i hi).1
  · rw [cp_at, if_pos ⟨rfl, rfl, by omega⟩, c2.at (by omega), c1.at (by omega)]; exact (k10 i hi).2
/-- cells copied -/
theorem s_keep_12 : ∀ (e n : Nat) (h : jm_H), n + e = 28 → (∀ j, j < n → h.1 57 0 j = h.1 56 0 j) → ∃ h', l_M_keep_12 (zI n) h (some (jm_i 1), jm_sI h' 8 0 43 1) ∧ (∀ j, j < 28 → h'.1 57 0 j = h.1 56 0 j) ∧ Ch (fun K _ _ => K = 57) h h' := by
  intro e
  induction e with
  | zero =>
    intro n h en Z
    refine ⟨h, wp_M_keep_12 ⟨fun _ => rfl, fun hc => ?_⟩, fun j hj => Z j (by omega), Ch.rf h⟩
    rw [zl_28, zI_le (by omega) (by omega) (by omega) (by omega)] at hc; omega
  | succ e ih =>
    intro n h en Z
    have c1 : Ch (fun K _ _ => K = 57) h (jm_sI h 57 0 n (h.1 56 0 n)) := Ch.sI rfl
    obtain ⟨h', r1, r2, r3⟩ := ih (n + 1) (jm_sI h 57 0 n (h.1 56 0 n)) (by omega) (fun j hj => by
      by_cases e2 : j = n
      · rw [e2, sI_eq, sI_ne (by omega)]
      · rw [sI_ne (by omega), sI_ne (by omega)]; exact Z j (by omega))
    refine ⟨h', wp_M_keep_12 ⟨fun hc => ?_, fun _ => ⟨zI_in (by omega) (by omega) (by omega), zI_in (by omega) (by omega) (by omega), ?_⟩⟩, fun j hj => ?_, c1.tr r3⟩
    · rw [zl_28, zI_le (by omega) (by omega) (by omega) (by omega)] at hc; omega
    · rw [zI_cn (by omega), zl_1, zI_add]; exact r1
    · rw [r2 j hj, sI_ne (by omega)]
theorem s_back_12 : ∀ (e n : Nat) (h : jm_H), n + e = 28 → (∀ j, j < n → h.1 56 0 j = h.1 57 0 j) → ∃ h', l_M_back_12 (zI n) h (some (jm_i 1), h') ∧ (∀ j, j < 28 → h'.1 56 0 j = h.1 57 0 j) ∧ Ch (fun K _ _ => K = 56) h h' := by
  intro e
  induction e with
  | zero =>
    intro n h en Z
    refine ⟨h, wp_M_back_12 ⟨fun _ => rfl, fun hc => ?_⟩, fun j hj => Z j (by omega), Ch.rf h⟩
    rw [zl_28, zI_le (by omega) (by omega) (by omega) (by omega)] at hc; omega
  | succ e ih =>
    intro n h en Z
    have c1 : Ch (fun K _ _ => K = 56) h (jm_sI h 56 0 n (h.1 57 0 n)) := Ch.sI rfl
    obtain ⟨h', r1, r2, r3⟩ := ih (n + 1) (jm_sI h 56 0 n (h.1 57 0 n)) (by omega) (fun j hj => by
      by_cases e2 : j = n
      · rw [e2, sI_eq, sI_ne (by omega)]
      · rw [sI_ne (by omega), sI_ne (by omega)]; exact Z j (by omega))
    refine ⟨h', wp_M_back_12 ⟨fun hc => ?_, fun _ => ⟨zI_in (by omega) (by omega) (by omega), zI_in (by omega) (by omega) (by omega), ?_⟩⟩, fun j hj => ?_, c1.tr r3⟩
    · rw [zl_28, zI_le (by omega) (by omega) (by omega) (by omega)] at hc; omega
    · rw [zI_cn (by omega), zl_1, zI_add]; exact r1
    · rw [r2 j hj, sI_ne (by omega)]
theorem KM.mv {h h' : jm_H} {K K' : Nat} {c : CK} (k : KM h K c) (k8 : k_wn c ≤ 8) (e : ∀ j, j < 28 → h'.1 K' 0 j = h.1 K 0 j) : KM h' K' c := by
  obtain ⟨k0, k1, k2, k3, k4, k5, k6, k7, k8', k9, k10⟩ := k
  refine ⟨?_, ?_, ?_, ?_, ?_, ?_, ?_, ?_, ?_, ?_, fun i hi => ?_⟩
  · rw [e _ (by omega)]; exact k0
  · rw [e _ (by omega)]; exact k1
  · rw [e _ (by omega)]; exact k2
  · rw [e _ (by omega)]; exact k3
  · rw [e _ (by omega)]; exact k4
  · rw [e _ (by omega)]; exact k5
  · rw [e _ (by omega)]; exact k6
  · rw [e _ (by omega)]; exact k7
  · rw [e _ (by omega)]; exact k8'
  · rw [e _ (by omega)]; exact k9
  · rw [e _ (by omega), e _ (by omega)]; exact k10 i hi
/-- modes and tables don't rest on clocks -/
theorem PL.ck {h h' : jm_H} (P : PL h nm D) (e : ∀ K i j, (K = 3 ∨ (K = 8 ∧ j = 6) ∨ K = 1 ∨ K = 2 ∨ K = 6 ∨ (12 ≤ K ∧ K ≤ 27) ∨ (34 ≤ K ∧ K ≤ 44) ∨ (52 ≤ K ∧ K ≤ 55)) → h'.1 K i j = h.1 K i j) (e2 : h'.2 = h.2) : PL h' nm D := by
  have F24 := fun m (hm : m < nm) => P.F24 hm
  obtain ⟨p1, p2, p3, p4, p5⟩ := P
  refine ⟨p1, by rw [e2]; exact p2, by rw [e2, e _ _ _ (by omega)]; exact p3, by rw [e _ _ _ (by omega)]; exact p4, fun m hm => ?_⟩
  obtain ⟨q1, q2, q3, q4, q5, q6⟩ := p5 m hm
  refine ⟨q1, by rw [e2]; exact q2.chg (fun K j hK => e _ _ _ (by omega)), q3.chg (fun K j hK => e _ _ _ (by omega)), ?_, q5.chg (F24 m hm) (fun K j hK => e _ _ _ (by omega)), q6⟩
  obtain ⟨⟨s, s2, s3⟩, t1, t2⟩ := q4
  obtain ⟨s1', s2', s3', s4, s5, s6, s7, s8, s9⟩ := s
  refine ⟨⟨⟨s1', s2', s3', ?_, ?_, ?_, fun j hj => ?_, fun j hj => ?_, fun j hj => ?_⟩, ?_, fun j hj => ?_⟩, ?_, fun hG => ⟨fun k hk => ?_, fun j k hj hk => ?_, ?_, ?_⟩⟩
  · rw [e _ _ _ (by omega)]; exact s4
  · rw [e _ _ _ (by omega)]; exact s5
  · rw [e _ _ _ (by omega)]; exact s6
  · rw [e _ _ _ (by omega)]; exact s7 j hj
  · rw [e _ _ _ (by omega)]; exact s8 j hj
  · rw [e _ _ _ (by omega)]; exact s9 j hj
  · rw [e _ _ _ (by omega)]; exact s2
  · rw [e _ _ _ (by omega), e _ _ _ (by omega), e _ _ _ (by omega)]; exact s3 j hj
  · rw [e _ _ _ (by omega)]; exact t1
  · rw [e _ _ _ (by omega)]; exact (t2 hG).1 k hk
  · rw [e _ _ _ (by omega)]; exact (t2 hG).2.1 j k hj hk
  · rw [e _ _ _ (by omega)]; exact (t2 hG).2.2.1
  · rw [e _ _ _ (by omega)]; exact (t2 hG).2.2.2
theorem c_keep (I : INV B h) : ∃ v h1 h2, m_FR_keep h v h1 ∧ m_M_keep h1 v h2 ∧ INV B h2 := by
  obtain ⟨nm, D, P, C, T, Q⟩ := I
  by_cases hz : nm = 0
  · have Pa := PLa P 1
    exact ⟨_, _, _, wp_FR_keep ⟨fun _ => rfl, fun hc => absurd ((pz P).1.mpr hz) hc⟩, wp_M_keep ⟨_, s_an, fun _ => rfl, fun hc => absurd ((pz Pa).2.mpr hz) hc⟩, ref_inv P C T Q (t := 1) (by decide)⟩
  · obtain ⟨c, k1, k2, k3, k4⟩ := C.2.1 (by omega)
    have k8 := k3.2.2.1
    have c0 : Ch (fun K _ j => K = 7 ∧ j = 8) h (jm_sI h 7 0 8 0) := Ch.sI ⟨rfl, rfl⟩
    obtain ⟨h1, b1, b2, b3⟩ := s_become (h := jm_sI h 7 0 8 0) (o := 1) (p := 0) (by omega) (by omega) (by omega) (k1.chg (fun K j hK => c0.at (by omega))) k8
    have c2 : Ch (fun K _ j => K = 7 ∧ j = 7) h1 (jm_sI h1 7 0 7 1) := Ch.sI ⟨rfl, rfl⟩
    have c3 := hAn_c (jm_sI h1 7 0 7 1)
    obtain ⟨h4, d1, d2, d3⟩ := s_keep_12 28 0 (hAn (jm_sI h1 7 0 7 1)) (by omega) (fun j hj => by omega)
    have c5 : Ch (fun K _ j => K = 8 ∧ j = 43) h4 (jm_sI h4 8 0 43 1) := Ch.sI ⟨rfl, rfl⟩
    -- what has changed in all
    have al : ∀ K i j, ¬ (((K = 0 ∨ K = 10 ∨ K = 11) ∧ i = 1) ∨ (K = 7 ∧ (j = 7 ∨ j = 8)) ∨ (K = 8 ∧ (j = 0 ∨ j = 1 ∨ j = 3 ∨ j = 43)) ∨ K = 57) → (jm_sI h4 8 0 43 1).1 K i j = h.1 K i j := fun K i j hn => by
      have hA : (hAn (jm_sI h1 7 0 7 1)).1 K i j = (jm_sI h1 7 0 7 1).1 K i j := by
        unfold hAn
        rw [sI_ne (by omega), sI_ne (by omega), sI_ne (by omega)]
      rw [c5.at (by omega), d3.at (by omega), hA, c2.at (by omega), b3.at (by omega), c0.at (by omega)]
    have a2 : (jm_sI h4 8 0 43 1).2 = h.2 := by rw [c5.2, d3.2, c3.2, c2.2, b3.2, c0.2]
    have t7 : (jm_sI h4 8 0 43 1).1 7 0 8 = 0 := by
      rw [c5.at (by omega), d3.at (by omega), c3.at (by unfold cM2 cMs; omega), c2.at (by omega), b3.at (by omega), sI_eq]
    have t8 : (jm_sI h4 8 0 43 1).1 8 0 1 = 0 := by rw [c5.at (by omega), d3.at (by omega)]; exact hAn_t _
    have tl : ∀ m, m < nm → TL h m (D m) → TL (jm_sI h4 8 0 43 1) m (D m) := fun m hm t => t.chg (P.F24 hm) (fun K j hK => al K 0 j (by omega))
    refine ⟨_, _, _, wp_FR_keep ⟨fun hc => absurd ((pz P).1.mp hc) hz, fun _ => ⟨h1, b1, rfl⟩⟩, wp_M_keep ⟨_, s_an, fun hc => ?_, fun _ => d1⟩, nm, D, P.ck (fun K i j hK => al K i j (by omega)) a2, ⟨fun x => absurd x hz, fun _ => ⟨c, k1.chg (fun K j hK => al K 0 j (by omega)), k2.chg (fun j => al 56 0 j (by omega)), k3, k4.M k3 tl⟩, 1, Or.inr rfl, ?_, ?_, fun _ => ⟨by omega, c, ?_, ?_, k3, k4.M k3 tl⟩⟩, ⟨by rw [t7, t8], ?_, fun x => ?_⟩, Q.chg (fun K j hK => al K 0 j (by omega))⟩
    · have : (hAn (jm_sI h1 7 0 7 1)).1 8 0 6 = h.1 8 0 6 := by
        rw [c3.at (by unfold cM2 cMs; omega), c2.at (by omega), b3.at (by omega), c0.at (by omega)]
      rw [this] at hc
      exact absurd ((pz P).2.mp hc) hz
    · rw [c5.at (by omega), d3.at (by omega), c3.at (by unfold cM2 cMs; omega), sI_eq]; rfl
    · rw [sI_eq]; rfl
    · exact b2.chg (fun K j hK => by
        have hA : (hAn (jm_sI h1 7 0 7 1)).1 K 1 j = (jm_sI h1 7 0 7 1).1 K 1 j := by
          unfold hAn
          rw [sI_ne (by omega), sI_ne (by omega), sI_ne (by omega)]
        rw [c5.at (by omega), d3.at (by omega), hA, c2.at (by omega)])
    · exact k2.mv k8 (fun j hj => by
        rw [c5.at (by omega), d2 j hj, c3.at (by unfold cM2 cMs; omega), c2.at (by omega), b3.at (by omega), c0.at (by omega)])
    · rw [al _ _ _ (by omega), al _ _ _ (by omega)]; exact T.2.1
    · rw [t7] at x; exact absurd x (by decide)
theorem c_back (I : INV B h) : ∃ v h1 h2, m_FR_back h v h1 ∧ m_M_back h1 v h2 ∧ INV B h2 := by
  obtain ⟨nm, D, P, C, T, Q⟩ := I
  obtain ⟨b, b01, f1, f2, f3⟩ := C.2.2
  rcases b01 with e | e
  · have eM : (hAn (jm_sI h 7 0 8 1)).1 8 0 43 = 0 := by
      rw [(hAn_c (jm_sI h 7 0 8 1)).at (by unfold cM2 cMs; omega), sI_ne (by omega), f2, e]; rfl
    exact ⟨_, _, _, wp_FR_back ⟨fun _ => rfl, fun hc => absurd (by rw [f1, e]; rfl) hc⟩, wp_M_back ⟨_, s_an, fun _ => rfl, fun hc => absurd eM hc⟩, ref_inv P C T Q (t := 1) (by decide)⟩
  · obtain ⟨hnm, c, k1, k2, k3, k4⟩ := f3 e
    have k8 := k3.2.2.1
    have c0 : Ch (fun K _ j => K = 7 ∧ j = 8) h (jm_sI h 7 0 8 0) := Ch.sI ⟨rfl, rfl⟩
    obtain ⟨h1, b1, b2, b3⟩ := s_become (h := jm_sI h 7 0 8 0) (o := 0) (p := 1) (by omega) (by omega) (by omega) (k1.chg (fun K j hK => c0.at (by omega))) k8
    have c3 := hAn_c h1
    obtain ⟨h4, d1, d2, d3⟩ := s_back_12 28 0 (hAn h1) (by omega) (fun j hj => by omega)
    have al : ∀ K i j, ¬ (((K = 0 ∨ K = 10 ∨ K = 11) ∧ i = 0) ∨ (K = 7 ∧ j = 8) ∨ (K = 8 ∧ (j = 0 ∨ j = 1 ∨ j = 3)) ∨ K = 56) → h4.1 K i j = h.1 K i j := fun K i j hn => by
      have hA : (hAn h1).1 K i j = h1.1 K i j := by
        unfold hAn
        rw [sI_ne (by omega), sI_ne (by omega), sI_ne (by omega)]
      rw [d3.at (by omega), hA, b3.at (by omega), c0.at (by omega)]
    have a2 : h4.2 = h.2 := by rw [d3.2, c3.2, b3.2, c0.2]
    have t7 : h4.1 7 0 8 = 0 := by
      rw [d3.at (by omega), c3.at (by unfold cM2 cMs; omega), b3.at (by omega), sI_eq]
    have t8 : h4.1 8 0 1 = 0 := by rw [d3.at (by omega)]; exact hAn_t _
    have tl : ∀ m, m < nm → TL h m (D m) → TL h4 m (D m) := fun m hm t => t.chg (P.F24 hm) (fun K j hK => al K 0 j (by omega))
    have eM : (hAn h1).1 8 0 43 = zI b := by
      rw [c3.at (by unfold cM2 cMs; omega), b3.at (by omega), c0.at (by omega)]; exact f2
    refine ⟨_, _, h4, wp_FR_back ⟨fun hc => ?_, fun _ => ⟨h1, b1, rfl⟩⟩, wp_M_back ⟨_, s_an, fun hc => ?_, fun _ => d1⟩, nm, D, P.ck (fun K i j hK => al K i j (by omega)) a2, ⟨fun x => by omega, fun _ => ⟨c, ?_, ?_, k3, k4.M k3 tl⟩, b, Or.inr e, by rw [al _ _ _ (by omega)]; exact f1, by rw [al _ _ _ (by omega)]; exact f2, fun _ => ⟨hnm, c, k1.chg (fun K j hK => al K 1 j (by omega)), k2.chg (fun j => al 57 0 j (by omega)), k3, k4.M k3 tl⟩⟩, ⟨by rw [t7, t8], ?_, fun x => ?_⟩, Q.chg (fun K j hK => al K 0 j (by omega))⟩
    · rw [f1, e] at hc; exact absurd hc (by decide)
    · rw [eM, e] at hc; exact absurd hc (by decide)
    · exact b2.chg (fun K j hK => by
        have hA : (hAn h1).1 K 0 j = h1.1 K 0 j := by
          unfold hAn
          rw [sI_ne (by omega), sI_ne (by omega), sI_ne (by omega)]
        rw [d3.at (by omega), hA])
    · exact k2.mv k8 (fun j hj => by
        rw [d2 j hj, c3.at (by unfold cM2 cMs; omega), b3.at (by omega), c0.at (by omega)])
    · rw [al _ _ _ (by omega), al _ _ _ (by omega)]; exact T.2.1
    · rw [t7] at x; exact absurd x (by decide)
end KEEP
