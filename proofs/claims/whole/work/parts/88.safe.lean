/-! ===== safe ends ===== -/
theorem least_ex {p : Nat → Prop} : ∀ N : Nat, p N → ∃ n, n ≤ N ∧ p n ∧ ∀ j, j < n → ¬ p j := by
  have key : ∀ N : Nat, (∀ j, j < N → ¬ p j) ∨ ∃ n, n < N ∧ p n ∧ ∀ j, j < n → ¬ p j := by
    intro N
    induction N with
    | zero => exact Or.inl (fun j hj => by omega)
    | succ N ih =>
      rcases ih with a | ⟨n, n1, n2, n3⟩
      · by_cases hc : p N
        · exact Or.inr ⟨N, by omega, hc, a⟩
        · refine Or.inl (fun j hj => ?_)
          by_cases e : j = N
          · rw [e]; exact hc
          · exact a j (by omega)
      · exact Or.inr ⟨n, by omega, n2, n3⟩
  intro N hN
  rcases key N with a | ⟨n, n1, n2, n3⟩
  · exact ⟨N, Nat.le_refl _, hN, a⟩
  · exact ⟨n, by omega, n2, n3⟩
def opP (d : MD) (k : Nat) : Prop := ∀ j, j < 32 → opB d k j = false
theorem Mk_op {b : Int32} {d : MD} {k : Nat} (m : Mk b (opB d k)) : b = 0 ↔ opP d k := by
  constructor
  · intro e j hj
    have h1 := m j hj
    rw [e] at h1
    rw [← h1]; exact Mk_0 j hj
  · intro e
    exact m.uq Mk_0 (fun j hj => e j hj)
/-- the clock, were there a switch n frames on -/
def hyp (D : Nat → MD) (c : CK) (m n : Nat) : CK := setS c (m : Int) (k_now c + (n : Int) * md_fr (D (k_mo c)))
def sfP (D : Nat → MD) (c : CK) (m n : Nat) : Prop := opP (D (k_mo c)) ((k_fr c + n) % mF (D (k_mo c))) ∧ InT D (hyp D c m n) 0
section SAFE
variable {B : Int} {h : jm_H} {nm : Nat} {D : Nat → MD} {c : CK} {m : Nat}
theorem hyp_S (S : swOk nm D c) (hm : m < nm) (Gm : gdm (D m)) {n : Nat} (hn : (n : Int) * md_fr (D (k_mo c)) ≤ 600) : swOk nm D (hyp D c m n) := by
  have L := sw_L S
  have h0 : 0 ≤ (n : Int) * md_fr (D (k_mo c)) := Int.mul_nonneg (by omega) (by omega)
  obtain ⟨s1, s2, s3, s4, s5, s6, s7⟩ := S
  refine ⟨s1, s2, s3, s4, s5, s6, Or.inr ⟨?_, ?_, Gm, ?_, ?_, ?_⟩⟩
  · show (0 : Int) ≤ (m : Int); omega
  · show (m : Int) < nm; omega
  · show k_now c ≤ k_now c + (n : Int) * md_fr (D (k_mo c)); omega
  · show k_now c + (n : Int) * md_fr (D (k_mo c)) ≤ k_now c + 600; omega
  · show (k_now c + (n : Int) * md_fr (D (k_mo c)) - k_now c) % md_fr (D (k_mo c)) = 0
    rw [show k_now c + (n : Int) * md_fr (D (k_mo c)) - k_now c = (n : Int) * md_fr (D (k_mo c)) by omega]; exact Int.mul_emod_left _ _
theorem hyp_n (S : swOk nm D c) (m n : Nat) : sN D (hyp D c m n) = n := by
  have L := sw_L S
  have e : sN D (hyp D c m n) = if (0 : Int) ≤ (m : Int) then ((k_now c + (n : Int) * md_fr (D (k_mo c)) - k_now c) / md_fr (D (k_mo c))).toNat else 1000000 := rfl
  rw [e, if_pos (by omega), show k_now c + (n : Int) * md_fr (D (k_mo c)) - k_now c = (n : Int) * md_fr (D (k_mo c)) by omega, Int.mul_ediv_cancel _ (by omega)]; rfl
/-- far enough on all is safe -/
theorem safe_ex (S : swOk nm D c) (w : wOk c) (It : InT D c 0) (ht : k_to c < 0) (m : Nat) : ∃ N : Nat, (N : Int) * md_fr (D (k_mo c)) ≤ 592 ∧ sfP D c m N := by
  have L := sw_L S
  have wf := S.1 _ S.2.2.2.1
  have hF := (mF_b wf).2 S.2.2.1
  have hfr := S.2.2.2.2.1
  have w3 := wf.2.2.1
  have rd : (mF (D (k_mo c)) : Int) * md_fr (D (k_mo c)) = md_rd (D (k_mo c)) := by
    have h1 := (md_bd wf (g := md_fr (D (k_mo c))) (by omega) (by omega)).2.1
    have h2 := Int.ediv_mul_cancel (Int.dvd_of_emod_eq_zero S.2.2.1.1)
    show (md_F (D (k_mo c)) (md_fr (D (k_mo c))) : Int) * _ = _
    rw [h1]; exact h2
  obtain ⟨q, eq⟩ : ∃ q : Nat, q = ((400 + md_rd (D (k_mo c)) - 1) / md_rd (D (k_mo c))).toNat := ⟨_, rfl⟩
  have q0 : 0 ≤ (400 + md_rd (D (k_mo c)) - 1) / md_rd (D (k_mo c)) := Int.ediv_nonneg (by omega) (by omega)
  have q1 := Int.ediv_mul_le (400 + md_rd (D (k_mo c)) - 1) (show md_rd (D (k_mo c)) ≠ 0 by omega)
  have q2 := Int.lt_ediv_add_one_mul_self (400 + md_rd (D (k_mo c)) - 1) (show 0 < md_rd (D (k_mo c)) by omega)
  rw [Int.add_mul, Int.one_mul] at q2
  have q3 : (q : Int) = (400 + md_rd (D (k_mo c)) - 1) / md_rd (D (k_mo c)) := by omega
  rw [← q3] at q1 q2
  obtain ⟨N, eN⟩ : ∃ N : Nat, N = (mF (D (k_mo c)) - k_fr c) + q * mF (D (k_mo c)) := ⟨_, rfl⟩
  have e1 : (N : Int) * md_fr (D (k_mo c)) = ((mF (D (k_mo c)) - k_fr c : Nat) : Int) * md_fr (D (k_mo c)) + (q : Int) * md_rd (D (k_mo c)) := by
    rw [eN, ← rd, ← Int.mul_assoc, ← Int.add_mul]
    congr 1
  have e2 := mul_m (show mF (D (k_mo c)) - k_fr c ≤ mF (D (k_mo c)) by omega) (show 0 ≤ md_fr (D (k_mo c)) by omega)
  have e3 : 0 ≤ ((mF (D (k_mo c)) - k_fr c : Nat) : Int) * md_fr (D (k_mo c)) := Int.mul_nonneg (by omega) (by omega)
  refine ⟨N, by omega, ?_, fun i hi => ?_⟩
  · have e4 : (k_fr c + N) % mF (D (k_mo c)) = 0 := by
      rw [eN, ← Nat.add_assoc, show k_fr c + (mF (D (k_mo c)) - k_fr c) = mF (D (k_mo c)) by omega, Nat.add_mul_mod_self_right, Nat.mod_self]
    rw [e4]
    intro j hj
    unfold opB
    by_cases hjb : j < md_jb (D (k_mo c))
    · have := (wf.2.2.2.2.2.2.2.1 j hjb).2.1
      have e5 : decide (md_ja (D (k_mo c)) j < ((0 : Nat) : Int) * md_fr (D (k_mo c))) = false := by
        rw [decide_eq_false_iff_not, show ((0 : Nat) : Int) = 0 from rfl, Int.zero_mul]; omega
      rw [e5, Bool.false_and, Bool.and_false]
    · rw [decide_eq_false hjb, Bool.false_and]
  · have hi' : i < k_wn c := hi
    have hw := w.2.1 i hi'
    obtain ⟨n, n1, n2, n3⟩ := It i hi'
    have sn := hyp_n S m N
    have s0 : sN D c = 1000000 := by
      rcases sw_n S with x | x <;> omega
    have hT : aTi D c n = k_now c + (n : Int) * md_fr (D (k_mo c)) := by unfold aTi; rw [if_pos (by omega)]
    have hnN : n ≤ N := by
      apply Decidable.byContradiction
      intro hx
      have := mul_m (show N + 1 ≤ n by omega) (show 0 ≤ md_fr (D (k_mo c)) by omega)
      rw [mul_s] at this
      omega
    refine ⟨n, n1, ?_, ?_⟩
    · show aTi D (hyp D c m N) n ≤ k_du c i
      by_cases hc : n < N
      · have : aTi D (hyp D c m N) n = k_now c + (n : Int) * md_fr (D (k_mo c)) := by
          unfold aTi; rw [sn, if_pos hc]; rfl
        omega
      · have : aTi D (hyp D c m N) n = k_now c + (N : Int) * md_fr (D (k_mo c)) := by
          unfold aTi; rw [sn, if_neg hc, show n - N = 0 by omega]
          show k_now c + (N : Int) * md_fr (D (k_mo c)) + (0 : Int) * _ = _
          rw [Int.zero_mul]; omega
        rw [show n = N by omega] at n2 hT this
        rw [show n = N by omega]
        omega
    · have c1 : sm n (aSl D (hyp D c m N)) = frs (D (k_mo c)) (k_fr c) n := cs_own (c := hyp D c m N) (by omega)
      have c2 : sm n (aSl D c) = frs (D (k_mo c)) (k_fr c) n := cs_own (by omega)
      rw [c1, ← c2]; exact n3
theorem s_fse_32 (P : PL h nm D) (S : swOk nm D c) (Z : tId nm D) (w : wOk c) (w8 : k_wn c ≤ 8) (hm : m < nm) (Gm : gdm (D m)) {N : Nat} (hN : (N : Int) * md_fr (D (k_mo c)) ≤ 592) (p1 : sfP D c m N) (p2 : ∀ j, j < N → ¬ sfP D c m j) : ∀ (e n : Nat) (h : jm_H), n + e = N → PL h nm D → KW h c → (∀ i : Nat, i < 401 → h.1 30 0 i = zI (os (D (k_mo c)) (k_fr c) i)) → (∀ i : Nat, i < 401 → h.1 31 0 i = zI (os (D m) 0 i)) → ∃ h', l_FR_firstSafeEnd_32 (k_mo c) (zI (((k_fr c + n) % mF (D (k_mo c)) : Nat) : Int)) (zI ((n : Int) * md_fr (D (k_mo c)))) h (some (jm_i (zI (k_now c + (N : Int) * md_fr (D (k_mo c))))), h') ∧ Ch (fun K _ _ => K = 5) h h' := by
  have L := sw_L S
  have hmo := S.2.2.2.1
  have wf := S.1 _ hmo
  have hF := mF_b wf
  have hF1 := hF.2 S.2.2.1
  have hnow := S.2.2.2.2.2.1
  intro e
  induction e with
  | zero =>
    intro n h en P k A1 A2
    have en' : n = N := by omega
    subst en'
    have h0 : 0 ≤ (n : Int) * md_fr (D (k_mo c)) := Int.mul_nonneg (by omega) (by omega)
    have hmod := Nat.mod_lt (k_fr c + n) (show 0 < mF (D (k_mo c)) by omega)
    have S' := hyp_S S hm Gm (n := n) (by omega)
    have cg : Ch (fun K _ _ => K = 5) h (jm_sI h 5 0 2 (zI ((n : Int) * md_fr (D (k_mo c))))) := Ch.sI rfl
    have Pg := P.k (KX.of P (cKY_F (cg.mono (fun K i j x => by unfold cFX; omega))))
    obtain ⟨z, z1, z2⟩ := s_openJobs (Pg.2.2.2.2 _ hmo).2.2.2.1 wf S.2.2.1 (Z _ hmo S.2.2.1) (k := (k_fr c + n) % mF (D (k_mo c))) (by omega)
    have z0 : z = 0 := (Mk_op z2).mpr p1.1
    subst z0
    have mg := s_margin (c := hyp D c m n) (h := jm_sI h 5 0 2 (zI ((n : Int) * md_fr (D (k_mo c))))) S' Z w w8 (k.chg (fun K j hK => cg.at (by omega))) ⟨fun i hi => by rw [cg.at (by omega)]; exact A1 i hi, fun _ i hi => by rw [cg.at (by omega)]; exact A2 i hi, (n : Int) * md_fr (D (k_mo c)), sI_eq, Or.inr ⟨by show (0 : Int) ≤ (m : Int); omega, by show _ = k_now c + (n : Int) * md_fr (D (k_mo c)) - k_now c; omega⟩⟩
    have lb := lm_b (c := hyp D c m n) S' Z w 0 (k_wn c) (Nat.le_refl _)
    have l0 : 0 ≤ lm D (hyp D c m n) 0 (k_wn c) := (lm_InT (c := hyp D c m n) S' Z w (X := 0) (by omega)).mpr p1.2
    refine ⟨_, wp_FR_firstSafeEnd_32 ⟨fun hc => ?_, fun _ => ⟨0, _, z1, fun _ => ⟨_, _, mg, fun hc => ?_, fun _ => ?_⟩, fun hc => absurd rfl hc⟩⟩, cg⟩
    · rw [zl_592, zI_lt (by omega) (by omega) (by omega) (by omega)] at hc; omega
    · have hc' : zI (lm D (hyp D c m n) 0 (k_wn c)) < 0 := hc
      rw [zl_0, zI_lt (by omega) (by omega) (by omega) (by omega)] at hc'; omega
    · rw [cg.at (by omega), k.1, zI_add]
  | succ e ih =>
    intro n h en P k A1 A2
    have h0 : 0 ≤ (n : Int) * md_fr (D (k_mo c)) := Int.mul_nonneg (by omega) (by omega)
    have hnN := mul_m (show n + 1 ≤ N by omega) (show 0 ≤ md_fr (D (k_mo c)) by omega)
    rw [mul_s] at hnN
    have hmod := Nat.mod_lt (k_fr c + n) (show 0 < mF (D (k_mo c)) by omega)
    have S' := hyp_S S hm Gm (n := n) (by omega)
    have cg : Ch (fun K _ _ => K = 5) h (jm_sI h 5 0 2 (zI ((n : Int) * md_fr (D (k_mo c))))) := Ch.sI rfl
    have Pg := P.k (KX.of P (cKY_F (cg.mono (fun K i j x => by unfold cFX; omega))))
    have fl := Pg.fl hmo S.2.2.1
    obtain ⟨z, z1, z2⟩ := s_openJobs (Pg.2.2.2.2 _ hmo).2.2.2.1 wf S.2.2.1 (Z _ hmo S.2.2.1) (k := (k_fr c + n) % mF (D (k_mo c))) (by omega)
    have mg := s_margin (c := hyp D c m n) (h := jm_sI h 5 0 2 (zI ((n : Int) * md_fr (D (k_mo c))))) S' Z w w8 (k.chg (fun K j hK => cg.at (by omega))) ⟨fun i hi => by rw [cg.at (by omega)]; exact A1 i hi, fun _ i hi => by rw [cg.at (by omega)]; exact A2 i hi, (n : Int) * md_fr (D (k_mo c)), sI_eq, Or.inr ⟨by show (0 : Int) ≤ (m : Int); omega, by show _ = k_now c + (n : Int) * md_fr (D (k_mo c)) - k_now c; omega⟩⟩
    have lb := lm_b (c := hyp D c m n) S' Z w 0 (k_wn c) (Nat.le_refl _)
    obtain ⟨h', r1, r2⟩ := ih (n + 1) (jm_sI h 5 0 2 (zI ((n : Int) * md_fr (D (k_mo c))))) (by omega) Pg (k.chg (fun K j hK => cg.at (by omega))) (fun i hi => by rw [cg.at (by omega)]; exact A1 i hi) (fun i hi => by rw [cg.at (by omega)]; exact A2 i hi)
    rw [mul_s, ← Nat.add_assoc, mod_s hF1] at r1
    obtain ⟨g, eg⟩ : ∃ g, g = jm_sI h 5 0 2 (zI ((n : Int) * md_fr (D (k_mo c)))) := ⟨_, rfl⟩
    rw [← eg] at z1 mg r1 r2 fl cg
    have le1 : (if (1 : Int32) < g.1 1 (k_mo c) 0 then g.1 1 (k_mo c) 0 else 1) = zI (md_fr (D (k_mo c))) := by
      rw [fl.1, if_pos (by rw [zl_1, zI_lt (by omega) (by omega) (by omega) (by omega)]; omega)]
    have on : (g.1 1 (k_mo c) 2 ≤ (zI (((k_fr c + n) % mF (D (k_mo c)) : Nat) : Int) + 1) → l_FR_firstSafeEnd_32 (k_mo c) 0 (zI ((n : Int) * md_fr (D (k_mo c))) + (if (1 : Int32) < g.1 1 (k_mo c) 0 then g.1 1 (k_mo c) 0 else 1)) g (some (jm_i (zI (k_now c + (N : Int) * md_fr (D (k_mo c))))), h')) ∧ (¬ (g.1 1 (k_mo c) 2 ≤ (zI (((k_fr c + n) % mF (D (k_mo c)) : Nat) : Int) + 1)) → l_FR_firstSafeEnd_32 (k_mo c) (zI (((k_fr c + n) % mF (D (k_mo c)) : Nat) : Int) + 1) (zI ((n : Int) * md_fr (D (k_mo c))) + (if (1 : Int32) < g.1 1 (k_mo c) 0 then g.1 1 (k_mo c) 0 else 1)) g (some (jm_i (zI (k_now c + (N : Int) * md_fr (D (k_mo c))))), h')) := by
      rw [le1, fl.2.1, e_p1, zI_add]
      refine ⟨fun hd => ?_, fun hd => ?_⟩
      · rw [zI_le (by omega) (by omega) (by omega) (by omega)] at hd
        rw [if_pos (by omega)] at r1; exact r1
      · rw [zI_le (by omega) (by omega) (by omega) (by omega)] at hd
        rw [if_neg (by omega)] at r1; exact r1
    refine ⟨h', wp_FR_firstSafeEnd_32 ⟨fun hc => ?_, fun _ => ?_⟩, cg.tr r2⟩
    · rw [zl_592, zI_lt (by omega) (by omega) (by omega) (by omega)] at hc; omega
    · rw [← eg]
      refine ⟨z, g, z1, fun hz => ⟨_, g, mg, fun _ => on, fun hc => ?_⟩, fun _ => on⟩
      have hc' : ¬ zI (lm D (hyp D c m n) 0 (k_wn c)) < 0 := hc
      rw [zl_0, zI_lt (by omega) (by omega) (by omega) (by omega)] at hc'
      exact absurd ⟨(Mk_op z2).mp hz, (lm_InT (c := hyp D c m n) S' Z w (X := 0) (by omega)).mp (by show 0 ≤ lm D (hyp D c m n) 0 (k_wn c); omega)⟩ (p2 n (by omega))
theorem s_fse (P : PL h nm D) (S : swOk nm D c) (Z : tId nm D) (w : wOk c) (w8 : k_wn c ≤ 8) (k : KF h 0 c) (hm : m < nm) (Gm : gdm (D m)) {N : Nat} (hN : (N : Int) * md_fr (D (k_mo c)) ≤ 592) (p1 : sfP D c m N) (p2 : ∀ j, j < N → ¬ sfP D c m j) : ∃ h', m_FR_firstSafeEnd (zI m) h (zI (k_now c + (N : Int) * md_fr (D (k_mo c)))) h' ∧ Ch (fun K _ _ => K = 5 ∨ K = 30 ∨ K = 31) h h' := by
  have hmo := S.2.2.2.1
  have hfr := S.2.2.2.2.1
  have wf := S.1 _ hmo
  have wm := S.1 _ hm
  obtain ⟨h1, a1, a2, a3⟩ := s_sumUp30 (f := k_fr c) wf S.2.2.1 (Z _ hmo S.2.2.1) (P.fl hmo S.2.2.1) hfr
  obtain ⟨h2, b1, b2, b3⟩ := s_sumUp31 (f := 0) (h := h1) wm Gm (Z _ hm Gm) ((P.fl hm Gm).chg (fun K j hK => a3.at (by omega))) (by have := (mF_b wm).2 Gm; omega)
  have c2 : Ch (fun K _ _ => K = 5 ∨ K = 30 ∨ K = 31) h h2 := (a3.mono (fun K i j x => by omega)).tr (b3.mono (fun K i j x => by omega))
  have P2 := P.k (KX.of P (cKY_F (svX c2)))
  obtain ⟨h3, r1, r2⟩ := s_fse_32 P2 S Z w w8 hm Gm hN p1 p2 N 0 h2 (by omega) P2 ((sv_k k c2).kw) (fun i hi => by rw [b3.at (by omega)]; exact a2 i hi) b2
  rw [show k_fr c + 0 = k_fr c from rfl, Nat.mod_eq_of_lt hfr, show ((0 : Nat) : Int) = 0 from rfl, Int.zero_mul] at r1
  refine ⟨h3, wp_FR_firstSafeEnd ⟨by rw [k.2.1]; exact in3 P hmo, h1, by rw [k.2.1, k.2.2.1, tq P hmo]; exact a1, in3 P hm, h2, by rw [tq P hm]; exact b1, ?_⟩, c2.tr (r2.mono (fun K i j x => by omega))⟩
  rw [k.2.1, tq P hmo, c2.at (by omega), k.2.2.1]; exact r1
theorem s_sfM_12 {h0 : jm_H} (P : PL h0 nm D) (S : swOk nm D c) (Z : tId nm D) (w : wOk c) (hm : m < nm) (Gm : gdm (D m)) {N : Nat} (hN : (N : Int) * md_fr (D (k_mo c)) ≤ 592) (p1 : sfP D c m N) (p2 : ∀ j, j < N → ¬ sfP D c m j) : ∀ (e n : Nat) (h : jm_H), n + e = N → CB h nm D c → TL h m (D m) → KM h 56 c → ∃ h', l_M_safeFor_12 (zI m) (zI (k_now c + (n : Int) * md_fr (D (k_mo c)))) (zI (((k_fr c + n) % mF (D (k_mo c)) : Nat) : Int)) 0 h (some (jm_i (zI (k_now c + (N : Int) * md_fr (D (k_mo c))))), h') ∧ Ch c44 h h' := by
  have L := sw_L S
  have n3 := S.2.1
  have hmo := S.2.2.2.1
  have wf := S.1 _ hmo
  have hF := mF_b wf
  have hF1 := hF.2 S.2.2.1
  have hnow := S.2.2.2.2.2.1
  intro e
  induction e with
  | zero =>
    intro n h en b t k
    have en' : n = N := by omega
    subst en'
    have h0' : 0 ≤ (n : Int) * md_fr (D (k_mo c)) := Int.mul_nonneg (by omega) (by omega)
    have hmod := Nat.mod_lt (k_fr c + n) (show 0 < mF (D (k_mo c)) by omega)
    have S' := hyp_S S hm Gm (n := n) (by omega)
    obtain ⟨z, z1, z2⟩ := s_openOf (b.1 _ hmo) wf (by omega) b.2.1.2.2 S.2.2.1 (Z _ hmo S.2.2.1) (k := (k_fr c + n) % mF (D (k_mo c))) (by omega)
    have z0 : z = 0 := (Mk_op z2).mpr p1.1
    subst z0
    obtain ⟨h1, l1, l2, l3⟩ := s_looks (c := hyp D c m n) (h := h) S' k.1 k.2.1 k.2.2.1
    have b1 : CB h1 nm D (hyp D c m n) := CB.ch S' (⟨b.1, b.2.1, fun _ => t⟩ : CB h nm D (hyp D c m n)) (fun K j hK => l3.at (by unfold c44; omega))
    obtain ⟨v, h2, a1, a2, a3, a4⟩ := s_areInTime (c := hyp D c m n) (less := 0) S' Z w (by omega) (by omega) l2 b1 (k.kv.chg (fun j => l3.at (by unfold c44; omega)))
    have hv : v = 1 := a2.mpr p1.2
    subst hv
    refine ⟨h2, wp_M_safeFor_12 ⟨fun _ => ⟨0, h, by rw [k.2.1]; exact z1, fun _ => ⟨h1, l1, _, h2, a3, fun hc => absurd hc (by decide), fun _ => wp_M_safeFor_12 ⟨fun hc => absurd hc (by decide), fun _ => rfl⟩⟩, fun hc => absurd rfl hc⟩, fun hc => absurd rfl hc⟩, l3.tr a4⟩
  | succ e ih =>
    intro n h en b t k
    have h0' : 0 ≤ (n : Int) * md_fr (D (k_mo c)) := Int.mul_nonneg (by omega) (by omega)
    have hnN := mul_m (show n + 1 ≤ N by omega) (show 0 ≤ md_fr (D (k_mo c)) by omega)
    rw [mul_s] at hnN
    have hmod := Nat.mod_lt (k_fr c + n) (show 0 < mF (D (k_mo c)) by omega)
    have S' := hyp_S S hm Gm (n := n) (by omega)
    obtain ⟨z, z1, z2⟩ := s_openOf (b.1 _ hmo) wf (by omega) b.2.1.2.2 S.2.2.1 (Z _ hmo S.2.2.1) (k := (k_fr c + n) % mF (D (k_mo c))) (by omega)
    -- on with the next frame
    have on : ∀ g, Ch c44 h g → ∃ h', (jm_in (g.1 56 0 1) 6 ∧ ∃ (v4 : Int32) (h4 : jm_H), m_M_framesOf (g.1 56 0 1) g v4 h4 ∧ ¬ v4 = 0 ∧ l_M_safeFor_12 (zI m) (zI (k_now c + (n : Int) * md_fr (D (k_mo c))) + (g.1 34 0 ((g.1 56 0 1).toNatClampNeg))) ((zI (((k_fr c + n) % mF (D (k_mo c)) : Nat) : Int) + 1) - (zI (((k_fr c + n) % mF (D (k_mo c)) : Nat) : Int) + 1) / v4 * v4) 0 h4 (some (jm_i (zI (k_now c + (N : Int) * md_fr (D (k_mo c))))), h')) ∧ Ch c44 g h' := by
      intro g cg
      have bg := b.ch S (fun K j hK => cg.at (by unfold c44; omega))
      have kg := k.chg (h' := g) (fun j => cg.at (by unfold c44; omega))
      obtain ⟨h', r1, r2⟩ := ih (n + 1) g (by omega) bg (t.chg (mF_b (S.1 _ hm)).1 (fun K j hK => cg.at (by unfold c44; omega))) kg
      rw [mul_s, ← Nat.add_assoc] at r1
      refine ⟨h', ⟨by rw [kg.2.1]; exact zI_in (by omega) (by omega) (by omega), _, g, by rw [kg.2.1]; exact s_framesOf (bg.1 _ hmo) wf (by omega), ?_, ?_⟩, r2⟩
      · rw [zl_0, zI_eq (by omega) (by omega) (by omega) (by omega)]; omega
      · have e1 : (zI (((k_fr c + n) % mF (D (k_mo c)) : Nat) : Int) + 1) - (zI (((k_fr c + n) % mF (D (k_mo c)) : Nat) : Int) + 1) / zI (mF (D (k_mo c)) : Int) * zI (mF (D (k_mo c)) : Int) = zI (((k_fr c + n + 1) % mF (D (k_mo c)) : Nat) : Int) := by
          rw [e_p1, zI_rem (by omega) (by omega) (by omega) (by omega)]
          have e2 : (k_fr c + n + 1) % mF (D (k_mo c)) = ((k_fr c + n) % mF (D (k_mo c)) + 1) % mF (D (k_mo c)) := (Nat.mod_add_mod _ _ _).symm
          rw [e2]; rfl
        rw [e1, kg.2.1, zI_cn (by omega), (bg.1 _ hmo).1, zI_add, show k_now c + (n : Int) * md_fr (D (k_mo c)) + md_fr (D (k_mo c)) = k_now c + ((n : Int) * md_fr (D (k_mo c)) + md_fr (D (k_mo c))) by omega]
        exact r1
    by_cases hz : z = 0
    · obtain ⟨h1, l1, l2, l3⟩ := s_looks (c := hyp D c m n) (h := h) S' k.1 k.2.1 k.2.2.1
      have b1 : CB h1 nm D (hyp D c m n) := CB.ch S' (⟨b.1, b.2.1, fun _ => t⟩ : CB h nm D (hyp D c m n)) (fun K j hK => l3.at (by unfold c44; omega))
      obtain ⟨v, h2, a1, a2, a3, a4⟩ := s_areInTime (c := hyp D c m n) (less := 0) S' Z w (by omega) (by omega) l2 b1 (k.kv.chg (fun j => l3.at (by unfold c44; omega)))
      have hv : v = 0 := by
        rcases a1 with e | e
        · exact e
        · exact absurd ⟨(Mk_op z2).mp hz, a2.mp e⟩ (p2 n (by omega))
      subst hv
      obtain ⟨h', o1, o2⟩ := on h2 (l3.tr a4)
      exact ⟨h', wp_M_safeFor_12 ⟨fun _ => ⟨z, h, by rw [k.2.1]; exact z1, fun _ => ⟨h1, l1, _, h2, a3, fun _ => o1, fun hc => absurd rfl hc⟩, fun hc => absurd hz hc⟩, fun hc => absurd rfl hc⟩, (l3.tr a4).tr o2⟩
    · obtain ⟨h', o1, o2⟩ := on h (Ch.rf h)
      exact ⟨h', wp_M_safeFor_12 ⟨fun _ => ⟨z, h, by rw [k.2.1]; exact z1, fun hc => absurd hc hz, fun _ => ⟨fun _ => o1, fun hc => absurd rfl hc⟩⟩, fun hc => absurd rfl hc⟩, o2⟩
/-! ===== refusals of a switch ===== -/
theorem s_swR0 (P : PL h nm D) {x : Int} (x1 : -2147483648 ≤ x) (x2 : x ≤ 2147483647) (hx : ¬ (0 ≤ x ∧ x < nm)) : m_FR_switchRefusal (zI x) h 1 h := wp_FR_switchRefusal ⟨_, h, s_isModeF P x1 x2, fun _ => rfl, fun hc => absurd (nz0 hx) hc⟩
theorem s_swR (P : PL h nm D) (k : KF h 0 c) (k3 : ckOk nm D B c) (hm : m < nm) (b1 : -2 ≤ k_to c) (b2 : k_to c < 3) : (gdm (D (k_mo c)) ∧ gdm (D m) ∧ k_to c < 0 ∧ m_FR_switchRefusal (zI m) h 0 h) ∨ (¬ (gdm (D (k_mo c)) ∧ gdm (D m) ∧ k_to c < 0) ∧ m_FR_switchRefusal (zI m) h 5 h) := by
  have n3 := P.1
  have hmo := k3.2.1
  have im := s_isModeF P (x := (m : Int)) (by omega) (by omega)
  have y1 : 0 ≤ (m : Int) ∧ (m : Int) < nm := by omega
  have t1 : h.1 6 (3 * 0 + (h.1 0 0 1).toNatClampNeg) 1 = zI (gdI (D (k_mo c)) (md_fr (D (k_mo c)))) := by rw [k.2.1, tq P hmo]; exact (P.2.2.2.2 _ hmo).2.2.2.1.2.1
  have t2 : h.1 6 (3 * 0 + (zI (m : Int)).toNatClampNeg) 1 = zI (gdI (D m) (md_fr (D m))) := by rw [tq P hm]; exact (P.2.2.2.2 _ hm).2.2.2.1.2.1
  have hs := s_hasSw (h := h) (o := 0) k.2.2.2.2.2.2.2.1 (by omega) (by omega)
  have i1 : jm_in (h.1 0 0 1) 3 := by rw [k.2.1]; exact in3 P hmo
  by_cases G : gdm (D (k_mo c))
  · have n1 : ¬ h.1 6 (3 * 0 + (h.1 0 0 1).toNatClampNeg) 1 = 0 := by rw [t1, gdI_1.mpr G]; decide
    by_cases Gm : gdm (D m)
    · have n2 : ¬ h.1 6 (3 * 0 + (zI (m : Int)).toNatClampNeg) 1 = 0 := by rw [t2, gdI_1.mpr Gm]; decide
      by_cases ht : 0 ≤ k_to c
      · exact Or.inr ⟨fun q => by omega, wp_FR_switchRefusal ⟨_, h, im, fun hc => absurd hc (nz1 y1), fun _ => ⟨i1, fun hc => absurd hc n1, fun _ => ⟨in3 P hm, fun hc => absurd hc n2, fun _ => ⟨_, h, hs, fun hc => absurd hc (nz1 ht), fun _ => rfl⟩⟩⟩⟩⟩
      · exact Or.inl ⟨G, Gm, by omega, wp_FR_switchRefusal ⟨_, h, im, fun hc => absurd hc (nz1 y1), fun _ => ⟨i1, fun hc => absurd hc n1, fun _ => ⟨in3 P hm, fun hc => absurd hc n2, fun _ => ⟨_, h, hs, fun _ => rfl, fun hc => absurd (nz0 ht) hc⟩⟩⟩⟩⟩
    · exact Or.inr ⟨fun q => Gm q.2.1, wp_FR_switchRefusal ⟨_, h, im, fun hc => absurd hc (nz1 y1), fun _ => ⟨i1, fun hc => absurd hc n1, fun _ => ⟨in3 P hm, fun _ => rfl, fun hc => absurd (by rw [t2, gd0 Gm]; rfl) hc⟩⟩⟩⟩
  · exact Or.inr ⟨fun q => G q.1, wp_FR_switchRefusal ⟨_, h, im, fun hc => absurd hc (nz1 y1), fun _ => ⟨i1, fun _ => rfl, fun hc => absurd (by rw [t1, gd0 G]; rfl) hc⟩⟩⟩
theorem s_swW0 (P : PL h nm D) {x : Int} (x1 : -2147483648 ≤ x) (x2 : x ≤ 2147483647) (hx : ¬ (0 ≤ x ∧ x < nm)) : m_M_switchWhy (zI x) h 1 h := by
  have im := s_isModeM P x1 x2
  rw [if_neg hx] at im
  exact wp_M_switchWhy ⟨_, h, im, 1, h, s_clW0 P, fun hc => absurd hc (by decide), fun _ => rfl⟩
/-- in the reference; who is laid -/
theorem s_swW (P : PL h nm D) (k : KM h 56 c) (hmo : k_mo c < nm) (hm : m < nm) (b1 : -2 ≤ k_to c) (b2 : k_to c < 3) (b3 : k_to c < 0 → k_to c = -2) : ∃ h', MX nm D h h' ∧ h'.1 8 0 1 = h.1 8 0 1 ∧ ((gdm (D (k_mo c)) ∧ gdm (D m) ∧ k_to c < 0 → m_M_switchWhy (zI m) h 0 h' ∧ TL h' (k_mo c) (D (k_mo c)) ∧ TL h' m (D m)) ∧ (¬ (gdm (D (k_mo c)) ∧ gdm (D m) ∧ k_to c < 0) → m_M_switchWhy (zI m) h 5 h')) := by
  have n3 := P.1
  have y1 : 0 ≤ (m : Int) ∧ (m : Int) < nm := by omega
  have im := s_isModeM P (x := (m : Int)) (by omega) (by omega)
  rw [if_pos y1] at im
  obtain ⟨h1, a1, a2, a3, a4⟩ := s_clW (c := c) P k.2.1 hmo
  by_cases G : gdm (D (k_mo c))
  · rw [gT_y G] at a1
    have P1 := P.M a2
    obtain ⟨h2, c1, c2, c3, c4⟩ := s_laidX P1 hm
    have e7 : h2.1 56 0 7 = zI (k_to c) := by rw [c2.1.at (by unfold cMX cMs; omega), a2.1.at (by unfold cMX cMs; omega)]; exact k.2.2.2.2.2.2.2.1
    refine ⟨h2, a2.tr c2, c4.trans a4, fun q => ⟨?_, (c2.2 _ hmo).2 (a3 G), c3 q.2.1⟩, fun q => ?_⟩
    · rw [gdI_1.mpr q.2.1] at c1
      refine wp_M_switchWhy ⟨_, h, im, 0, h1, a1, fun _ => ⟨_, h2, c1, fun hc => absurd hc (by decide), fun _ => ⟨fun _ => rfl, fun hc => ?_⟩⟩, fun hc => absurd rfl hc⟩
      rw [e7, b3 q.2.2] at hc; exact absurd rfl hc
    · refine wp_M_switchWhy ⟨_, h, im, 0, h1, a1, fun _ => ⟨_, h2, c1, fun _ => rfl, fun hc => ⟨fun hd => ?_, fun _ => rfl⟩⟩, fun hc => absurd rfl hc⟩
      rw [e7, zl_m2, zI_eq (by omega) (by omega) (by omega) (by omega)] at hd
      have : gdm (D m) := by
        apply Classical.byContradiction
        intro hx
        rw [gd0 hx] at hc; exact absurd rfl hc
      exact absurd ⟨G, this, by omega⟩ q
  · rw [gT_n G] at a1
    exact ⟨h1, a2, a4, fun q => absurd q.1 G, fun _ => wp_M_switchWhy ⟨_, h, im, 5, h1, a1, fun hc => absurd hc (by decide), fun _ => rfl⟩⟩
theorem to_b (k3 : ckOk nm D B c) (n3 : nm ≤ 3) : -2 ≤ k_to c ∧ k_to c < 3 ∧ (k_to c < 0 → k_to c = -2) := by
  rcases k3.2.2.2.2.2.1 with x | x <;> omega
theorem safeEnd_no (P : PL h nm D) (C : CKI h nm D B) (T : TT h) (Q : TP h) {x : Int} (x1 : -2147483648 ≤ x) (x2 : x ≤ 2147483647) : (∃ v h1 h2, m_FR_safeEnd (zI x) h v h1 ∧ m_M_safeEnd (zI x) h1 v h2 ∧ INV B h2) ∨ (∃ (m : Nat) (c : CK), m < nm ∧ x = m ∧ KF h 0 c ∧ KM h 56 c ∧ ckOk nm D B c ∧ ckL h D c ∧ gdm (D (k_mo c)) ∧ gdm (D m) ∧ k_to c < 0 ∧ m_FR_switchRefusal (zI x) h 0 h) := by
  by_cases hx : 0 ≤ x ∧ x < nm
  · obtain ⟨m, hm, rfl⟩ := mode_of hx
    obtain ⟨c, k1, k2, k3, k4⟩ := C.2.1 (by omega)
    have tb := to_b k3 P.1
    rcases s_swR P k1 k3 hm tb.1 tb.2.1 with ⟨G, Gm, ht, r⟩ | ⟨q, r⟩
    · exact Or.inr ⟨m, c, hm, rfl, k1, k2, k3, k4, G, Gm, ht, r⟩
    · obtain ⟨h2, a1, a2, a3⟩ := s_swW (c := c) (PLa P 5) (k2.chg (fun j => by rw [hAn56 _ (by omega), sI_ne (by omega)])) k3.2.1 hm tb.1 tb.2.1 tb.2.2
      exact Or.inl ⟨_, _, _, wp_FR_safeEnd ⟨5, h, r, fun hc => absurd hc (by decide), fun _ => ⟨_, _, wp_FR_refused rfl, rfl⟩⟩, wp_M_safeEnd ⟨_, s_an, 5, h2, a3.2 q, fun hc => absurd hc (by decide), fun _ => ⟨_, _, wp_M_no rfl, rfl⟩⟩, no_inv P C T Q (Ch.rf h) a1 (t := 5) (by decide)⟩
  · exact Or.inl ⟨_, _, _, wp_FR_safeEnd ⟨1, h, s_swR0 P x1 x2 hx, fun hc => absurd hc (by decide), fun _ => ⟨_, _, wp_FR_refused rfl, rfl⟩⟩, wp_M_safeEnd ⟨_, s_an, 1, _, s_swW0 (PLa P 1) x1 x2 hx, fun hc => absurd hc (by decide), fun _ => ⟨_, _, wp_M_no rfl, rfl⟩⟩, ref_inv P C T Q (t := 1) (by decide)⟩
theorem change_no (P : PL h nm D) (C : CKI h nm D B) (T : TT h) (Q : TP h) {x : Int} (x1 : -2147483648 ≤ x) (x2 : x ≤ 2147483647) : (∃ v h1 h2, m_FR_change (zI x) h v h1 ∧ m_M_change (zI x) h1 v h2 ∧ INV B h2) ∨ (∃ (m : Nat) (c : CK), m < nm ∧ x = m ∧ KF h 0 c ∧ KM h 56 c ∧ ckOk nm D B c ∧ ckL h D c ∧ gdm (D (k_mo c)) ∧ gdm (D m) ∧ k_to c < 0 ∧ m_FR_switchRefusal (zI x) h 0 h) := by
  by_cases hx : 0 ≤ x ∧ x < nm
  · obtain ⟨m, hm, rfl⟩ := mode_of hx
    obtain ⟨c, k1, k2, k3, k4⟩ := C.2.1 (by omega)
    have tb := to_b k3 P.1
    rcases s_swR P k1 k3 hm tb.1 tb.2.1 with ⟨G, Gm, ht, r⟩ | ⟨q, r⟩
    · exact Or.inr ⟨m, c, hm, rfl, k1, k2, k3, k4, G, Gm, ht, r⟩
    · obtain ⟨h2, a1, a2, a3⟩ := s_swW (c := c) (PLa P 5) (k2.chg (fun j => by rw [hAn56 _ (by omega), sI_ne (by omega)])) k3.2.1 hm tb.1 tb.2.1 tb.2.2
      exact Or.inl ⟨_, _, _, wp_FR_change ⟨5, h, r, fun hc => absurd hc (by decide), fun _ => ⟨_, _, wp_FR_refused rfl, rfl⟩⟩, wp_M_change ⟨_, s_an, 5, h2, a3.2 q, fun hc => absurd hc (by decide), fun _ => ⟨_, _, wp_M_no rfl, rfl⟩⟩, no_inv P C T Q (Ch.rf h) a1 (t := 5) (by decide)⟩
  · exact Or.inl ⟨_, _, _, wp_FR_change ⟨1, h, s_swR0 P x1 x2 hx, fun hc => absurd hc (by decide), fun _ => ⟨_, _, wp_FR_refused rfl, rfl⟩⟩, wp_M_change ⟨_, s_an, 1, _, s_swW0 (PLa P 1) x1 x2 hx, fun hc => absurd hc (by decide), fun _ => ⟨_, _, wp_M_no rfl, rfl⟩⟩, ref_inv P C T Q (t := 1) (by decide)⟩
theorem s_safeFor {h0 : jm_H} (P : PL h0 nm D) (S : swOk nm D c) (Z : tId nm D) (w : wOk c) (hm : m < nm) (Gm : gdm (D m)) {N : Nat} (hN : (N : Int) * md_fr (D (k_mo c)) ≤ 592) (p1 : sfP D c m N) (p2 : ∀ j, j < N → ¬ sfP D c m j) (b : CB h nm D c) (t : TL h m (D m)) (k : KM h 56 c) : ∃ h', m_M_safeFor (zI m) h (zI (k_now c + (N : Int) * md_fr (D (k_mo c)))) h' ∧ Ch c44 h h' := by
  obtain ⟨h', r1, r2⟩ := s_sfM_12 P S Z w hm Gm hN p1 p2 N 0 h (by omega) b t k
  rw [show k_fr c + 0 = k_fr c from rfl, Nat.mod_eq_of_lt S.2.2.2.2.1, show ((0 : Nat) : Int) = 0 from rfl, Int.zero_mul, Int.add_zero] at r1
  exact ⟨h', wp_M_safeFor (by rw [k.1, k.2.2.1]; exact r1), r2⟩
theorem c_safeEnd (hB : B ≤ 1000000000) (I : INV B h) (a : Int32) : ∃ v h1 h2, m_FR_safeEnd a h v h1 ∧ m_M_safeEnd a h1 v h2 ∧ INV B h2 := by
  obtain ⟨nm, D, P, C, T, Q⟩ := I
  obtain ⟨x, rfl, x1, x2⟩ := i32x a
  rcases safeEnd_no P C T Q x1 x2 with r | ⟨m, c, hm, rfl, k1, k2, k3, k4, G, Gm, ht, r⟩
  · exact r
  · obtain ⟨S, w, It⟩ := sw_of P k3 G hB
    have Z := P.tId
    have L := sw_L S
    have tb := to_b k3 P.1
    obtain ⟨N0, e1, e2⟩ := safe_ex S w It ht m
    obtain ⟨N, f1, p1, p2⟩ := least_ex N0 e2
    have hN : (N : Int) * md_fr (D (k_mo c)) ≤ 592 := Int.le_trans (mul_m f1 (by omega)) e1
    obtain ⟨h3, a1, a3⟩ := s_fse P S Z w k3.2.2.1 k1 hm Gm hN p1 p2
    have X1 := go_c P a3 0
    have P1 := P.k X1
    have Pa : PL (hAn (jm_sI h3 7 0 8 0)) nm D := P1.M (EM.an P1).1
    have cG : ∀ K i j, K ≠ 5 → K ≠ 30 → K ≠ 31 → K ≠ 7 → (jm_sI h3 7 0 8 0).1 K i j = h.1 K i j := fun K i j q1 q2 q3 q4 => by rw [sI_ne (by omega), a3.at (by omega)]
    have ka : KM (hAn (jm_sI h3 7 0 8 0)) 56 c := k2.chg (fun j => by rw [hAn56 _ (by omega), cG _ _ _ (by omega) (by omega) (by omega) (by omega)])
    obtain ⟨h4, b1, b2, b3⟩ := s_swW Pa ka k3.2.1 hm tb.1 tb.2.1 tb.2.2
    obtain ⟨s1, s2, s3⟩ := b3.1 ⟨G, Gm, ht⟩
    have mx : MX nm D (jm_sI h3 7 0 8 0) h4 := (EM.an P1).1.tr b1
    have P4 := P1.M mx
    have k5 : KM h4 56 c := ka.chg (fun j => b1.1.at (by unfold cMX cMs; omega))
    have L4 : ckL h4 D c := k4.M k3 (fun m hm t => (mx.2 m hm).2 ((X1.2 m hm).2 t))
    obtain ⟨h5, r1, r3⟩ := s_safeFor P S Z w hm Gm hN p1 p2 (CB.of P4 L4 s2) s3 k5
    have X3 : KX nm D h4 h5 := KX.of P (cKY_44 r3)
    exact ⟨_, _, h5, wp_FR_safeEnd ⟨0, h, r, fun _ => ⟨_, h3, a1, _, _, wp_FR_answered rfl, rfl⟩, fun hc => absurd rfl hc⟩, wp_M_safeEnd ⟨_, s_an, 0, h4, s1, fun _ => ⟨_, h5, r1, rfl⟩, fun hc => absurd rfl hc⟩, INV.mk2 P C T Q (Int.le_refl _) ((X1.tr (KX.m mx)).tr X3) (by omega) (k1.chg (fun K j hK => by rw [r3.at (by unfold c44; omega), mx_c mx (by omega), cG _ _ _ (by omega) (by omega) (by omega) (by omega)])) (k5.chg (fun j => r3.at (by unfold c44; omega))) k3 (L4.M k3 (fun m hm => (X3.2 m hm).2)) (t := 0) (by rw [r3.at (by unfold c44; omega), mx_c mx (by omega), sI_eq]) (by rw [r3.at (by unfold c44; omega), b2]; exact hAn_t _) (by decide)⟩
/-- the clock behind a change -/
def chg (D : Nat → MD) (c : CK) (m N : Nat) : CK := if N = 0 then ((k_now c, m, 0), c.2.1, c.2.2.1, (-2, -2)) else hyp D c m N
theorem chg_ok (S : swOk nm D c) (k3 : ckOk nm D B c) (hm : m < nm) (G : gdm (D (k_mo c))) (Gm : gdm (D m)) {N : Nat} (hN : (N : Int) * md_fr (D (k_mo c)) ≤ 592) (p : InT D (hyp D c m N) 0) : ckOk nm D B (chg D c m N) := by
  have L := sw_L S
  have hF := (mF_b (S.1 _ hm)).2 Gm
  obtain ⟨q1, q2, q3, q4, q5, q6, q7, q8, q9, q10⟩ := k3
  unfold chg
  by_cases hc : N = 0
  · rw [if_pos hc]
    subst hc
    have sn := hyp_n S m 0
    refine ⟨q1, hm, q3, by show (0 : Nat) < 24; omega, fun _ => by show 0 < mF (D m); omega, Or.inl ⟨rfl, rfl⟩, fun _ => Gm, q8, q9, fun i hi => ?_⟩
    obtain ⟨n, n1, n2, n3⟩ := p i hi
    have fr : ∀ n : Nat, n ≤ 1000 → aTi D ((k_now c, m, 0), c.2.1, c.2.2.1, (-2, -2)) n = aTi D (hyp D c m 0) n ∧ aSl D ((k_now c, m, 0), c.2.1, c.2.2.1, (-2, -2)) n = aSl D (hyp D c m 0) n := by
      intro n hn
      have s' : sN D ((k_now c, m, 0), c.2.1, c.2.2.1, (-2, -2)) = 1000000 := by
        unfold sN
        rw [if_neg (by show ¬ (0 : Int) ≤ -2; omega)]
      have m1 : aMo D ((k_now c, m, 0), c.2.1, c.2.2.1, (-2, -2)) n = m := by
        unfold aMo; rw [s', if_pos (by omega)]; rfl
      have m2 : aMo D (hyp D c m 0) n = m := by
        unfold aMo; rw [sn, if_neg (by omega)]; rfl
      have r1 : aFr D ((k_now c, m, 0), c.2.1, c.2.2.1, (-2, -2)) n = n % mF (D m) := by
        unfold aFr; rw [s', if_pos (by omega)]
        show (0 + n) % mF (D m) = _
        rw [Nat.zero_add]
      have r2 : aFr D (hyp D c m 0) n = n % mF (D m) := by
        unfold aFr; rw [sn, if_neg (by omega)]; rfl
      refine ⟨?_, ?_⟩
      · have t1 : aTi D ((k_now c, m, 0), c.2.1, c.2.2.1, (-2, -2)) n = k_now c + (n : Int) * md_fr (D m) := by
          unfold aTi; rw [s', if_pos (by omega)]; rfl
        have t2 : aTi D (hyp D c m 0) n = k_now c + ((0 : Nat) : Int) * md_fr (D (k_mo c)) + (n : Int) * md_fr (D m) := by
          unfold aTi; rw [sn, if_neg (by omega)]; rfl
        rw [t1, t2, show ((0 : Nat) : Int) = 0 from rfl, Int.zero_mul, Int.add_zero]
      · unfold aSl
        rw [m1, m2, r1, r2]
    refine ⟨n, n1, ?_, ?_⟩
    · rw [(fr n n1).1]; exact n2
    · rw [sm_congr (fun i hi => (fr i (by omega)).2)]
      have n3' : sm (i + 1) (k_ne c) + 0 ≤ sm n (aSl D (hyp D c m 0)) := n3
      show sm (i + 1) (k_ne c) ≤ _
      omega
  · rw [if_neg hc]
    have e2 := mul_m (show 1 ≤ N by omega) (show 0 ≤ md_fr (D (k_mo c)) by omega)
    rw [show ((1 : Nat) : Int) * md_fr (D (k_mo c)) = md_fr (D (k_mo c)) from Int.one_mul _] at e2
    refine ⟨q1, q2, q3, q4, q5, Or.inr ⟨?_, ?_, Gm, G, ?_, ?_, ?_⟩, q7, q8, q9, fun i hi => ?_⟩
    · show (0 : Int) ≤ (m : Int); omega
    · show (m : Int) < nm; omega
    · show k_now c < k_now c + (N : Int) * md_fr (D (k_mo c)); omega
    · show k_now c + (N : Int) * md_fr (D (k_mo c)) ≤ k_now c + 600; omega
    · show (k_now c + (N : Int) * md_fr (D (k_mo c)) - k_now c) % md_fr (D (k_mo c)) = 0
      rw [show k_now c + (N : Int) * md_fr (D (k_mo c)) - k_now c = (N : Int) * md_fr (D (k_mo c)) by omega]; exact Int.mul_emod_left _ _
    · obtain ⟨n, n1, n2, n3⟩ := p i hi
      exact ⟨n, n1, n2, by omega⟩
theorem c_change (hB : B ≤ 1000000000) (I : INV B h) (a : Int32) : ∃ v h1 h2, m_FR_change a h v h1 ∧ m_M_change a h1 v h2 ∧ INV B h2 := by
  obtain ⟨nm, D, P, C, T, Q⟩ := I
  obtain ⟨x, rfl, x1, x2⟩ := i32x a
  rcases change_no P C T Q x1 x2 with r | ⟨m, c, hm, rfl, k1, k2, k3, k4, G, Gm, ht, r⟩
  · exact r
  · obtain ⟨S, w, It⟩ := sw_of P k3 G hB
    have Z := P.tId
    have L := sw_L S
    have hnow := S.2.2.2.2.2.1
    have n3 := P.1
    have tb := to_b k3 P.1
    obtain ⟨N0, e1, e2⟩ := safe_ex S w It ht m
    obtain ⟨N, f1, p1, p2⟩ := least_ex N0 e2
    have hN : (N : Int) * md_fr (D (k_mo c)) ≤ 592 := Int.le_trans (mul_m f1 (by omega)) e1
    have hN0 : 0 ≤ (N : Int) * md_fr (D (k_mo c)) := Int.mul_nonneg (by omega) (by omega)
    have ok := chg_ok S k3 hm G Gm hN p1.2
    obtain ⟨h3, a1, a3⟩ := s_fse P S Z w k3.2.2.1 k1 hm Gm hN p1 p2
    have k1' := sv_k k1 a3
    obtain ⟨g, eg⟩ : ∃ g, g = jm_sI (jm_sI h3 0 0 7 (zI m)) 0 0 8 (zI (k_now c + (N : Int) * md_fr (D (k_mo c)))) := ⟨_, rfl⟩
    have cg : Ch cAv h3 g := by
      rw [eg]
      exact (Ch.sI (by unfold cAv; omega)).tr (Ch.sI (by unfold cAv; omega))
    have g0 : ∀ K j, ¬ (K = 0 ∧ (j = 7 ∨ j = 8)) → g.1 K 0 j = h3.1 K 0 j := fun K j q => by rw [eg, sI_ne (by omega), sI_ne (by omega)]
    obtain ⟨h4, s1, s2, s3⟩ := s_switchIf (h := g) (to := (m : Int)) (tm := k_now c + (N : Int) * md_fr (D (k_mo c))) (now := k_now c) (by rw [eg, sI_ne (by omega), sI_eq]) (by rw [eg, sI_eq]) (by rw [g0 _ _ (by omega)]; exact k1'.1) (by omega) (by omega) (by omega) (by omega) (by omega) (by omega)
    have e4 : ∀ K j, ¬ (K = 0 ∧ (j = 1 ∨ j = 2 ∨ j = 7 ∨ j = 8)) → h4.1 K 0 j = h3.1 K 0 j := fun K j q => by rw [s2.at (by omega), g0 _ _ (by omega)]
    have hz : N = 0 ↔ k_now c + (N : Int) * md_fr (D (k_mo c)) = k_now c := by
      constructor
      · intro e
        rw [e, show ((0 : Nat) : Int) = 0 from rfl, Int.zero_mul]; omega
      · intro e
        apply Decidable.byContradiction
        intro hx
        have e2 := mul_m (show 1 ≤ N by omega) (show 0 ≤ md_fr (D (k_mo c)) by omega)
        rw [show ((1 : Nat) : Int) * md_fr (D (k_mo c)) = md_fr (D (k_mo c)) from Int.one_mul _] at e2
        omega
    -- the class's clock
    have kF : KF h4 0 (chg D c m N) := by
      obtain ⟨q0, q1, q2, q3, q4, q5, q6, q7, q8, q9, q10⟩ := k1'
      unfold chg
      by_cases hc : N = 0
      · rw [if_pos hc]
        rcases s3 with ⟨y1, y2, y3, y4, y5, y6⟩ | ⟨y1, y2⟩
        · refine ⟨?_, y3, y4, ?_, ?_, ?_, ?_, y5, y6, ?_, fun i hi => ?_⟩
          · rw [e4 _ _ (by omega)]; exact q0
          · rw [e4 _ _ (by omega)]; exact q3
          · rw [e4 _ _ (by omega)]; exact q4
          · rw [e4 _ _ (by omega)]; exact q5
          · rw [e4 _ _ (by omega)]; exact q6
          · rw [e4 _ _ (by omega)]; exact q9
          · rw [e4 _ _ (by omega), e4 _ _ (by omega)]; exact q10 i hi
        · exact absurd ⟨by omega, hz.mp hc⟩ y1
      · rw [if_neg hc]
        rcases s3 with ⟨y1, y2, y3, y4, y5, y6⟩ | ⟨y1, y2⟩
        · exact absurd (hz.mpr y2) hc
        · rw [y2]
          refine ⟨?_, ?_, ?_, ?_, ?_, ?_, ?_, ?_, ?_, ?_, fun i hi => ?_⟩
          · rw [g0 _ _ (by omega)]; exact q0
          · rw [g0 _ _ (by omega)]; exact q1
          · rw [g0 _ _ (by omega)]; exact q2
          · rw [g0 _ _ (by omega)]; exact q3
          · rw [g0 _ _ (by omega)]; exact q4
          · rw [g0 _ _ (by omega)]; exact q5
          · rw [g0 _ _ (by omega)]; exact q6
          · rw [eg, sI_ne (by omega), sI_eq]; rfl
          · rw [eg, sI_eq]; rfl
          · rw [g0 _ _ (by omega)]; exact q9
          · rw [g0 _ _ (by omega), g0 _ _ (by omega)]; exact q10 i hi
    have X1 : KX nm D h (jm_sI h4 7 0 8 0) := KX.of P ((((cKY_F (svX a3)).tr (cKY_Av cg)).tr (s2.mono (fun K i j q => by unfold cKY; omega))).tr (Ch.sI (by unfold cKY cFX; omega)))
    have P1 := P.k X1
    have Pa : PL (hAn (jm_sI h4 7 0 8 0)) nm D := P1.M (EM.an P1).1
    have cG : ∀ K j, K ≠ 5 → K ≠ 30 → K ≠ 31 → K ≠ 7 → K ≠ 0 → (jm_sI h4 7 0 8 0).1 K 0 j = h.1 K 0 j := fun K j q1 q2 q3 q4 q5 => by rw [sI_ne (by omega), e4 _ _ (by omega), a3.at (by omega)]
    have ka : KM (hAn (jm_sI h4 7 0 8 0)) 56 c := k2.chg (fun j => by rw [hAn56 _ (by omega), cG _ _ (by omega) (by omega) (by omega) (by omega) (by omega)])
    obtain ⟨h5, b1, b2, b3⟩ := s_swW Pa ka k3.2.1 hm tb.1 tb.2.1 tb.2.2
    obtain ⟨t1, t2, t3⟩ := b3.1 ⟨G, Gm, ht⟩
    have mx : MX nm D (jm_sI h4 7 0 8 0) h5 := (EM.an P1).1.tr b1
    have P4 := P1.M mx
    have k5 : KM h5 56 c := ka.chg (fun j => b1.1.at (by unfold cMX cMs; omega))
    have L4 : ckL h5 D c := k4.M k3 (fun m hm t => (mx.2 m hm).2 ((X1.2 m hm).2 t))
    obtain ⟨h6, r1, r3⟩ := s_safeFor P S Z w hm Gm hN p1 p2 (CB.of P4 L4 t2) t3 k5
    have k6 : KM h6 56 c := k5.chg (fun j => r3.at (by unfold c44; omega))
    have fin : ∀ h7, Ch (fun K _ _ => K = 56) h6 h7 → KM h7 56 (chg D c m N) → INV B h7 := fun h7 c7 kM => by
      have X3 : KX nm D h5 h7 := KX.of P ((cKY_44 r3).tr (c7.mono (fun K i j q => by unfold cKY; omega)))
      have TLs : TL h7 (k_mo c) (D (k_mo c)) ∧ TL h7 m (D m) := ⟨(X3.2 _ k3.2.1).2 t2, (X3.2 _ hm).2 t3⟩
      refine INV.mk2 P C T Q (Int.le_refl _) ((X1.tr (KX.m mx)).tr X3) (by omega) (kF.chg (fun K j hK => by rw [c7.at (by omega), r3.at (by unfold c44; omega), mx_c mx (by omega), sI_ne (by omega)])) kM ok ?_ (t := 0) (by rw [c7.at (by omega), r3.at (by unfold c44; omega), mx_c mx (by omega), sI_eq]) (by rw [c7.at (by omega), r3.at (by unfold c44; omega), b2]; exact hAn_t _) (by decide)
      unfold chg
      by_cases hc : N = 0
      · rw [if_pos hc]
        exact ⟨fun _ => TLs.2, fun q => absurd q (by show ¬ (0 : Int) ≤ -2; omega)⟩
      · rw [if_neg hc]
        exact ⟨fun _ => TLs.1, fun _ => TLs⟩
    by_cases hc : N = 0
    · have c7 : Ch (fun K _ _ => K = 56) h6 (jm_sI (jm_sI h6 56 0 1 (zI m)) 56 0 2 0) := (Ch.sI rfl).tr (Ch.sI rfl)
      have kM : KM (jm_sI (jm_sI h6 56 0 1 (zI m)) 56 0 2 0) 56 (chg D c m N) := by
        obtain ⟨q0, q1, q2, q3, q4, q5, q6, q7, q8, q9, q10⟩ := k6
        have e2 : k_to c = -2 := tb.2.2 ht
        have e3 : k_at c = -2 := by rcases k3.2.2.2.2.2.1 with y | y <;> omega
        unfold chg
        rw [if_pos hc]
        refine ⟨?_, ?_, ?_, ?_, ?_, ?_, ?_, ?_, ?_, ?_, fun i hi => ?_⟩
        · rw [sI_ne (by omega), sI_ne (by omega)]; exact q0
        · rw [sI_ne (by omega), sI_eq]; rfl
        · rw [sI_eq]; rfl
        · rw [sI_ne (by omega), sI_ne (by omega)]; exact q3
        · rw [sI_ne (by omega), sI_ne (by omega)]; exact q4
        · rw [sI_ne (by omega), sI_ne (by omega)]; exact q5
        · rw [sI_ne (by omega), sI_ne (by omega)]; exact q6
        · rw [sI_ne (by omega), sI_ne (by omega), q7, e2]; rfl
        · rw [sI_ne (by omega), sI_ne (by omega), q8, e3]; rfl
        · rw [sI_ne (by omega), sI_ne (by omega)]; exact q9
        · rw [sI_ne (by omega), sI_ne (by omega), sI_ne (by omega), sI_ne (by omega)]; exact q10 i hi
      refine ⟨_, _, _, wp_FR_change ⟨0, h, r, fun _ => ⟨_, h3, a1, h4, by rw [← eg]; exact s1, _, _, wp_FR_answered rfl, rfl⟩, fun hc => absurd rfl hc⟩, wp_M_change ⟨_, s_an, 0, h5, t1, fun _ => ⟨_, h6, r1, fun _ => rfl, fun hd => ?_⟩, fun hc => absurd rfl hc⟩, fin _ c7 kM⟩
      rw [k6.1, hz.mp hc] at hd; exact absurd rfl hd
    · have c7 : Ch (fun K _ _ => K = 56) h6 (jm_sI (jm_sI h6 56 0 7 (zI m)) 56 0 8 (zI (k_now c + (N : Int) * md_fr (D (k_mo c))))) := (Ch.sI rfl).tr (Ch.sI rfl)
      have kM : KM (jm_sI (jm_sI h6 56 0 7 (zI m)) 56 0 8 (zI (k_now c + (N : Int) * md_fr (D (k_mo c))))) 56 (chg D c m N) := by
        obtain ⟨q0, q1, q2, q3, q4, q5, q6, q7, q8, q9, q10⟩ := k6
        unfold chg
        rw [if_neg hc]
        refine ⟨?_, ?_, ?_, ?_, ?_, ?_, ?_, ?_, ?_, ?_, fun i hi => ?_⟩
        · rw [sI_ne (by omega), sI_ne (by omega)]; exact q0
        · rw [sI_ne (by omega), sI_ne (by omega)]; exact q1
        · rw [sI_ne (by omega), sI_ne (by omega)]; exact q2
        · rw [sI_ne (by omega), sI_ne (by omega)]; exact q3
        · rw [sI_ne (by omega), sI_ne (by omega)]; exact q4
        · rw [sI_ne (by omega), sI_ne (by omega)]; exact q5
        · rw [sI_ne (by omega), sI_ne (by omega)]; exact q6
        · rw [sI_ne (by omega), sI_eq]; rfl
        · rw [sI_eq]; rfl
        · rw [sI_ne (by omega), sI_ne (by omega)]; exact q9
        · rw [sI_ne (by omega), sI_ne (by omega), sI_ne (by omega), sI_ne (by omega)]; exact q10 i hi
      refine ⟨_, _, _, wp_FR_change ⟨0, h, r, fun _ => ⟨_, h3, a1, h4, by rw [← eg]; exact s1, _, _, wp_FR_answered rfl, rfl⟩, fun hc => absurd rfl hc⟩, wp_M_change ⟨_, s_an, 0, h5, t1, fun _ => ⟨_, h6, r1, fun hd => ?_, fun _ => rfl⟩, fun hc => absurd rfl hc⟩, fin _ c7 kM⟩
      rw [k6.1, zI_eq (by omega) (by omega) (by omega) (by omega)] at hd
      exact absurd (hz.mpr hd) hc
end SAFE
