/-! ===== calls that may change the clock ===== -/
def cKY : Nat → Nat → Nat → Prop := fun K i j => cFX K i j ∨ cM2 K i j ∨ ((K = 0 ∨ K = 10 ∨ K = 11) ∧ i = 0) ∨ K = 56
def cKX : Nat → Nat → Nat → Prop := fun K i j => cKY K i j ∨ (52 ≤ K ∧ K ≤ 55)
def KX (nm : Nat) (D : Nat → MD) (h h' : jm_H) : Prop := Ch cKX h h' ∧ ∀ m, m < nm → (TM h m (D m) → TM h' m (D m)) ∧ (TL h m (D m) → TL h' m (D m))
section KXS
variable {nm : Nat} {D : Nat → MD} {h h' : jm_H}
theorem KX.rf (h : jm_H) : KX nm D h h := ⟨Ch.rf h, fun _ _ => ⟨id, id⟩⟩
theorem KX.tr {h1 h2 h3 : jm_H} (a : KX nm D h1 h2) (b : KX nm D h2 h3) : KX nm D h1 h3 := ⟨a.1.tr b.1, fun m hm => ⟨fun x => (b.2 m hm).1 ((a.2 m hm).1 x), fun x => (b.2 m hm).2 ((a.2 m hm).2 x)⟩⟩
theorem KX.m (a : MX nm D h h') : KX nm D h h' := ⟨a.1.mono (fun K i j x => by
  rcases x with x | x | x
  · exact Or.inl (Or.inr (Or.inl (Or.inl x)))
  · exact Or.inr x
  · exact Or.inl (Or.inr (Or.inl (Or.inr x)))), a.2⟩
theorem KX.of {h0 : jm_H} (P : PL h0 nm D) (a : Ch cKY h h') : KX nm D h h' := by
  refine ⟨a.mono (fun K i j x => Or.inl x), fun m hm => ⟨fun t => t.chg (P.F24 hm) (fun K j hK => a.at (by unfold cKY cFX cT cL cD cM2 cMs; omega)), fun t => t.chg (P.F24 hm) (fun K j hK => a.at (by unfold cKY cFX cT cL cD cM2 cMs; omega))⟩⟩
theorem cKY_F (a : Ch cFX h h') : Ch cKY h h' := a.mono (fun K i j x => Or.inl x)
theorem cKY_2 (a : Ch cM2 h h') : Ch cKY h h' := a.mono (fun K i j x => Or.inr (Or.inl x))
theorem cKY_44 (a : Ch c44 h h') : Ch cKY h h' := a.mono (fun K i j x => by unfold c44 at x; unfold cKY cM2 cMs; omega)
theorem cKY_W (a : Ch (fun K i j => c44 K i j ∨ cW K i j) h h') : Ch cKY h h' := a.mono (fun K i j x => by unfold c44 cW at x; unfold cKY cM2 cMs; omega)
theorem PL.k (P : PL h nm D) (a : KX nm D h h') : PL h' nm D := by
  obtain ⟨p1, p2, p3, p4, p5⟩ := P
  obtain ⟨a, b⟩ := a
  refine ⟨p1, by rw [a.2]; exact p2, ?_, ?_, fun m hm => ?_⟩
  · rw [a.2, a.at (by unfold cKX cKY cFX cT cL cD cM2 cMs; omega)]; exact p3
  · rw [a.at (by unfold cKX cKY cFX cT cL cD cM2 cMs; omega)]; exact p4
  · obtain ⟨q1, q2, q3, q4, q5, q6⟩ := p5 m hm
    refine ⟨q1, ?_, ?_, ?_, (b m hm).1 q5, q6⟩
    · rw [a.2]; exact q2.chg (fun K j hK => a.at (by unfold cKX cKY cFX cT cL cD cM2 cMs; omega))
    · exact q3.chg (fun K j hK => a.at (by unfold cKX cKY cFX cT cL cD cM2 cMs; omega))
    · obtain ⟨⟨s, s2, s3⟩, t1, t2⟩ := q4
      obtain ⟨s1', s2', s3', s4, s5, s6, s7, s8, s9⟩ := s
      have e : ∀ K j, (K = 1 ∨ K = 6 ∨ (12 ≤ K ∧ K ≤ 19)) → h'.1 K m j = h.1 K m j := fun K j hK => a.at (by unfold cKX cKY cFX cT cL cD cM2 cMs; omega)
      refine ⟨⟨⟨s1', s2', s3', ?_, ?_, ?_, fun j hj => ?_, fun j hj => ?_, fun j hj => ?_⟩, ?_, fun j hj => ?_⟩, ?_, fun hG => ⟨fun k hk => ?_, fun j k hj hk => ?_, ?_, ?_⟩⟩
      · rw [e _ _ (by omega)]; exact s4
      · rw [e _ _ (by omega)]; exact s5
      · rw [e _ _ (by omega)]; exact s6
      · rw [e _ _ (by omega)]; exact s7 j hj
      · rw [e _ _ (by omega)]; exact s8 j hj
      · rw [e _ _ (by omega)]; exact s9 j hj
      · rw [e _ _ (by omega)]; exact s2
      · rw [e _ _ (by omega), e _ _ (by omega), e _ _ (by omega)]; exact s3 j hj
      · rw [e _ _ (by omega)]; exact t1
      · rw [e _ _ (by omega)]; exact (t2 hG).1 k hk
      · rw [a.at (by unfold cKX cKY cFX cT cL cD cM2 cMs; have := q1.2.2.2.2.1; omega)]; exact (t2 hG).2.1 j k hj hk
      · rw [e _ _ (by omega)]; exact (t2 hG).2.2.1
      · rw [e _ _ (by omega)]; exact (t2 hG).2.2.2
theorem ckOk.mono {B B' : Int} {c : CK} (k : ckOk nm D B c) (hB : B ≤ B') : ckOk nm D B' c := ⟨⟨k.1.1, Int.le_trans k.1.2 hB⟩, k.2⟩
theorem INV.mono {B B' : Int} (I : INV B h) (hB : B ≤ B') : INV B' h := by
  obtain ⟨nm, D, P, ⟨c1, c2, b, b1, b2, b3, b4⟩, T, Q⟩ := I
  refine ⟨nm, D, P, ⟨c1, fun x => ?_, b, b1, b2, b3, fun x => ?_⟩, T, Q⟩
  · obtain ⟨c, k1, k2, k3, k4⟩ := c2 x
    exact ⟨c, k1, k2, k3.mono hB, k4⟩
  · obtain ⟨x0, c, k1, k2, k3, k4⟩ := b4 x
    exact ⟨x0, c, k1, k2, k3.mono hB, k4⟩
theorem INV.mk2 {B B' : Int} (P : PL h nm D) (C : CKI h nm D B) (T : TT h) (Q : TP h) (hB : B ≤ B') (a : KX nm D h h') (hn : 0 < nm) {c' : CK} (k1 : KF h' 0 c') (k2 : KM h' 56 c') (k3 : ckOk nm D B' c') (k4 : ckL h' D c') {t : Int32} (t1 : h'.1 7 0 8 = t) (t2 : h'.1 8 0 1 = t) (t4 : t ≠ 4) : INV B' h' := by
  have P' := P.k a
  obtain ⟨_, _, b, b1, b2, b3, b4⟩ := C
  obtain ⟨a, tm⟩ := a
  refine ⟨nm, D, P', ⟨fun x => by omega, fun _ => ⟨c', k1, k2, k3, k4⟩, b, b1, ?_, ?_, fun x => ?_⟩, ⟨?_, ?_, fun x => ?_⟩, ?_⟩
  · rw [a.at (by unfold cKX cKY cFX cT cL cD cM2 cMs; omega)]; exact b2
  · rw [a.at (by unfold cKX cKY cFX cT cL cD cM2 cMs; omega)]; exact b3
  · obtain ⟨x0, c, q1, q2, q3, q4⟩ := b4 x
    exact ⟨x0, c, q1.chg (fun K j hK => a.at (by unfold cKX cKY cFX cT cL cD cM2 cMs; omega)), q2.chg (fun j => a.at (by unfold cKX cKY cFX cT cL cD cM2 cMs; omega)), q3.mono hB, q4.M q3 (fun m hm => (tm m hm).2)⟩
  · rw [t1, t2]
  · rw [a.at (by unfold cKX cKY cFX cT cL cD cM2 cMs; omega), a.at (by unfold cKX cKY cFX cT cL cD cM2 cMs; omega)]; exact T.2.1
  · rw [t1] at x; exact absurd x t4
  · exact Q.chg (fun K j hK => a.at (by unfold cKX cKY cFX cT cL cD cM2 cMs; omega))
end KXS
section CKC
variable {B : Int} {h : jm_H} {nm : Nat} {D : Nat → MD} {c : CK}
theorem sw_of (P : PL h nm D) (k : ckOk nm D B c) (G : gdm (D (k_mo c))) (hB : B ≤ 1000000000) : swOk nm D c ∧ wOk c ∧ InT D c 0 := by
  obtain ⟨k1, k2, k3, k4, k5, k6, k7, k8, k9, k10⟩ := k
  refine ⟨⟨fun m hm => (P.2.2.2.2 m hm).1, P.1, G, k2, k5 G, ⟨k1.1, by omega⟩, ?_⟩, ⟨by omega, k8, k9⟩, fun i hi => ?_⟩
  · rcases k6 with x | ⟨x1, x2, x3, x4, x5, x6, x7⟩
    · exact Or.inl x
    · exact Or.inr ⟨x1, x2, x3, by omega, x6, x7⟩
  · obtain ⟨n, n1, n2, n3⟩ := k10 i hi
    exact ⟨n, n1, n2, by omega⟩
theorem CB.of (P : PL h nm D) (k4 : ckL h D c) (t : TL h (k_mo c) (D (k_mo c))) : CB h nm D c := ⟨fun m hm => (P.2.2.2.2 m hm).2.2.1, t, fun x => (k4.2 x).2⟩
theorem s_hasSw {o : Nat} {to : Int} (e : h.1 0 o 7 = zI to) (b1 : -2147483648 ≤ to) (b2 : to ≤ 2147483647) : m_Clock_hasSwitch o h (zI (if 0 ≤ to then 1 else 0)) h := by
  refine wp_Clock_hasSwitch ⟨fun hc => ?_, fun hc => ?_⟩
  · rw [e, zl_0, zI_lt (by omega) (by omega) (by omega) (by omega)] at hc
    rw [if_neg (by omega)]; rfl
  · rw [e, zl_0, zI_lt (by omega) (by omega) (by omega) (by omega)] at hc
    rw [if_pos (by omega)]; rfl
theorem sw_to (S : swOk nm D c) : -2 ≤ k_to c ∧ k_to c < 3 := by
  have := S.2.1
  rcases S.2.2.2.2.2.2 with x | x <;> omega
theorem s_survey (P : PL h nm D) (S : swOk nm D c) (Z : tId nm D) (k : KF h 0 c) : ∃ h', m_FR_surveyAhead h h' ∧ SV h' D c ∧ Ch (fun K _ _ => K = 5 ∨ K = 30 ∨ K = 31) h h' := by
  have hm := S.2.2.2.1
  have hto := sw_to S
  obtain ⟨k0, k1, k2, k3, k4, k5, k6, k7, k8, k9, k10⟩ := k
  have e0 := tq P hm
  have w := S.1 _ hm
  obtain ⟨h1, a1, a2, a3⟩ := s_sumUp30 (f := k_fr c) w S.2.2.1 (Z _ hm S.2.2.1) (P.fl hm S.2.2.1) S.2.2.2.2.1
  have c2 : Ch (fun K _ _ => K = 5) h1 (jm_sI h1 5 0 2 400) := Ch.sI rfl
  have e7 : (jm_sI h1 5 0 2 400).1 0 0 7 = zI (k_to c) := by rw [c2.at (by omega), a3.at (by omega)]; exact k7
  have hs := s_hasSw (o := 0) e7 (by omega) (by omega)
  by_cases ht : 0 ≤ k_to c
  · rcases S.2.2.2.2.2.2 with x | ⟨x1, x2, x3, x4, x5, x6⟩
    · omega
    · have hm2 : (k_to c).toNat < nm := by omega
      have w2 := S.1 _ hm2
      obtain ⟨h3, b1, b2, b3⟩ := s_sumUp31 (f := 0) (h := jm_sI h1 5 0 2 400) w2 x3 (Z _ hm2 x3) ((P.fl hm2 x3).chg (fun K j hK => by rw [c2.at (by omega), a3.at (by omega)])) (by have := (mF_b w2).2 x3; omega)
      have hn := S.2.2.2.2.2.1
      have et : zI (k_to c) = zI (((k_to c).toNat : Nat) : Int) := by congr 1; omega
      refine ⟨jm_sI h3 5 0 2 (zI (k_at c - k_now c)), wp_FR_surveyAhead ⟨by rw [k1]; exact in3 P hm, h1, by rw [k1, k2, e0]; exact a1, _, _, hs, fun hc => absurd hc (nz1 ht), fun _ => ⟨by rw [e7, et]; exact in3 P hm2, h3, by rw [e7, et, tq P hm2]; exact b1, ?_⟩⟩, ⟨fun i hi => ?_, fun _ i hi => ?_, k_at c - k_now c, sI_eq, Or.inr ⟨ht, rfl⟩⟩, ?_⟩
      · rw [b3.at (by omega), b3.at (by omega), c2.at (by omega), c2.at (by omega), a3.at (by omega), a3.at (by omega), k8, k0, zI_sub]
      · rw [sI_ne (by omega), b3.at (by omega), c2.at (by omega)]; exact a2 i hi
      · rw [sI_ne (by omega)]; exact b2 i hi
      · exact (((a3.mono (fun K i j x => by omega)).tr (c2.mono (fun K i j x => by omega))).tr (b3.mono (fun K i j x => by omega))).tr (Ch.sI (by omega))
  · refine ⟨jm_sI h1 5 0 2 400, wp_FR_surveyAhead ⟨by rw [k1]; exact in3 P hm, h1, by rw [k1, k2, e0]; exact a1, _, _, hs, fun _ => rfl, fun hc => absurd (nz0 ht) hc⟩, ⟨fun i hi => ?_, fun x => absurd x ht, 400, by rw [sI_eq]; rfl, Or.inl ⟨by omega, rfl⟩⟩, (a3.mono (fun K i j x => by omega)).tr (c2.mono (fun K i j x => by omega))⟩
    rw [c2.at (by omega)]; exact a2 i hi
theorem svX {h h' : jm_H} (a : Ch (fun K _ _ => K = 5 ∨ K = 30 ∨ K = 31) h h') : Ch cFX h h' := a.mono (fun K i j x => by unfold cFX; omega)
/-! ===== refusals ===== -/
theorem s_clR1 (P : PL h nm D) (hz : nm = 0) {a : Int32} : m_FR_clockRefusal a h 1 h := wp_FR_clockRefusal ⟨fun _ => rfl, fun hc => absurd ((pz P).1.mpr hz) hc⟩
theorem s_clR5 (P : PL h nm D) (k : KF h 0 c) (hm : k_mo c < nm) (G : ¬ gdm (D (k_mo c))) {a : Int32} : m_FR_clockRefusal a h 5 h := by
  have t := (P.2.2.2.2 _ hm).2.2.2.1.2.1
  refine wp_FR_clockRefusal ⟨fun hc => absurd ((pz P).1.mp hc) (by omega), fun _ => ⟨by rw [k.2.1]; exact in3 P hm, fun _ => rfl, fun hc => ?_⟩⟩
  rw [k.2.1, tq P hm, t, gd0 G] at hc; exact absurd rfl hc
theorem s_clR (P : PL h nm D) (k : KF h 0 c) (hm : k_mo c < nm) (G : gdm (D (k_mo c))) : m_FR_clockRefusal 0 h 2 h ∧ m_FR_clockRefusal 1 h 0 h := by
  have t := (P.2.2.2.2 _ hm).2.2.2.1.2.1
  have key : ¬ (h.1 6 (3 * 0 + (h.1 0 0 1).toNatClampNeg) 1) = 0 := by
    rw [k.2.1, tq P hm, t, gdI_1.mpr G]; decide
  exact ⟨wp_FR_clockRefusal ⟨fun hc => absurd ((pz P).1.mp hc) (by omega), fun _ => ⟨by rw [k.2.1]; exact in3 P hm, fun hc => absurd hc key, fun _ => ⟨fun _ => rfl, fun hc => absurd rfl hc⟩⟩⟩, wp_FR_clockRefusal ⟨fun hc => absurd ((pz P).1.mp hc) (by omega), fun _ => ⟨by rw [k.2.1]; exact in3 P hm, fun hc => absurd hc key, fun _ => ⟨fun hc => absurd hc (by decide), fun _ => rfl⟩⟩⟩⟩
theorem s_clW1 (P : PL h nm D) (hz : nm = 0) {a : Int32} : m_M_clockWhy a h 1 h := wp_M_clockWhy ⟨fun _ => rfl, fun hc => absurd ((pz P).2.mpr hz) hc⟩
theorem s_clW0 (P : PL h nm D) : m_M_clockWhy 0 h 1 h := wp_M_clockWhy ⟨fun _ => rfl, fun _ => ⟨fun _ => rfl, fun hc => absurd rfl hc⟩⟩
theorem s_clW (P : PL h nm D) (e1 : h.1 56 0 1 = zI (k_mo c)) (hm : k_mo c < nm) : ∃ h', m_M_clockWhy 1 h (gT (D (k_mo c))) h' ∧ MX nm D h h' ∧ (gdm (D (k_mo c)) → TL h' (k_mo c) (D (k_mo c))) ∧ h'.1 8 0 1 = h.1 8 0 1 := by
  obtain ⟨h', a1, a2, a3, a4⟩ := s_laidX P hm
  refine ⟨h', wp_M_clockWhy ⟨fun hc => absurd ((pz P).2.mp hc) (by omega), fun _ => ⟨fun hc => absurd hc (by decide), fun _ => ⟨_, h', by rw [e1]; exact a1, fun hc => ?_, fun hc => ?_⟩⟩⟩, a2, a3, a4⟩
  · by_cases G : gdm (D (k_mo c))
    · rw [gdI_1.mpr G] at hc; exact absurd hc (by decide)
    · rw [gT_n G]
  · by_cases G : gdm (D (k_mo c))
    · rw [gT_y G]
    · rw [gd0 G] at hc; exact absurd rfl hc
theorem s_isNeedF {x : Int} (x1 : -2147483648 ≤ x) (x2 : x ≤ 2147483647) : m_FR_isNeed (zI x) h (zI (if 1 ≤ x ∧ x ≤ 400 then 1 else 0)) h := by
  refine wp_FR_isNeed ⟨fun hc => ?_, fun hc => ⟨fun hd => ?_, fun hd => ?_⟩⟩
  · rw [zl_1, zI_lt (by omega) (by omega) (by omega) (by omega)] at hc
    rw [if_neg (by omega)]; rfl
  · rw [zl_400, zI_lt (by omega) (by omega) (by omega) (by omega)] at hd
    rw [if_neg (by omega)]; rfl
  · rw [zl_1, zI_lt (by omega) (by omega) (by omega) (by omega)] at hc
    rw [zl_400, zI_lt (by omega) (by omega) (by omega) (by omega)] at hd
    rw [if_pos (by omega)]; rfl
theorem s_isNeedM {x : Int} (x1 : -2147483648 ≤ x) (x2 : x ≤ 2147483647) : m_M_isNeed (zI x) h (zI (if 1 ≤ x ∧ x ≤ 400 then 1 else 0)) h := wp_M_isNeed ⟨_, h, s_in (x := x) (a := 1) (b := 400) x1 x2 (by omega) (by omega) (by omega) (by omega), by split <;> rfl, rfl⟩
theorem s_isDueF {x : Int} (x1 : -2147483648 ≤ x) (x2 : x ≤ 2147483647) {N : Int} (e : h.1 0 0 0 = zI N) (n1 : 0 ≤ N) (n2 : N ≤ 1000000000) : m_FR_isDue (zI x) h (zI (if N < x ∧ x ≤ N + 400 then 1 else 0)) h := by
  refine wp_FR_isDue ⟨fun hc => ?_, fun hc => ⟨fun hd => ?_, fun hd => ?_⟩⟩
  · rw [e, zI_le (by omega) (by omega) (by omega) (by omega)] at hc
    rw [if_neg (by omega)]; rfl
  · rw [e, zl_400, zI_add, zI_lt (by omega) (by omega) (by omega) (by omega)] at hd
    rw [if_neg (by omega)]; rfl
  · rw [e, zI_le (by omega) (by omega) (by omega) (by omega)] at hc
    rw [e, zl_400, zI_add, zI_lt (by omega) (by omega) (by omega) (by omega)] at hd
    rw [if_pos (by omega)]; rfl
theorem s_isDueM {x : Int} (x1 : -2147483648 ≤ x) (x2 : x ≤ 2147483647) {N : Int} (e : h.1 56 0 0 = zI N) (n1 : 0 ≤ N) (n2 : N ≤ 1000000000) : m_M_isDue (zI x) h (zI (if N < x ∧ x ≤ N + 400 then 1 else 0)) h := by
  have := s_in (h := h) (x := x) (a := N + 1) (b := N + 400) x1 x2 (by omega) (by omega) (by omega) (by omega)
  have e2 : (if N + 1 ≤ x ∧ x ≤ N + 400 then (1 : Int) else 0) = if N < x ∧ x ≤ N + 400 then 1 else 0 := by
    by_cases hc : N < x ∧ x ≤ N + 400
    · rw [if_pos hc, if_pos (by omega)]
    · rw [if_neg hc, if_neg (by omega)]
  rw [e2] at this
  exact wp_M_isDue ⟨_, h, by rw [e, zl_1, zl_400, zI_add, zI_add]; exact this, by split <;> rfl, rfl⟩
end CKC
