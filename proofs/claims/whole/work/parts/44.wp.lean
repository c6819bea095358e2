set_option maxRecDepth 100000 in
theorem wp_FR_switchRefusal {a0 : Int32} {h : jm_H} {r : jm_Rs} (H :
  ∃ (v1 : Int32) (h1 : jm_H), m_FR_isMode a0 h v1 h1 ∧
  (v1 = 0 →
    r = (some (jm_i 1), h1)) ∧
  (¬ (v1 = 0) →
    jm_in (h1.1 0 0 1) 3 ∧
    ((h1.1 6 (3 * 0 + (h1.1 0 0 1).toNatClampNeg) 1) = 0 →
      r = (some (jm_i 5), h1)) ∧
    (¬ ((h1.1 6 (3 * 0 + (h1.1 0 0 1).toNatClampNeg) 1) = 0) →
      jm_in a0 3 ∧
      ((h1.1 6 (3 * 0 + a0.toNatClampNeg) 1) = 0 →
        r = (some (jm_i 5), h1)) ∧
      (¬ ((h1.1 6 (3 * 0 + a0.toNatClampNeg) 1) = 0) →
        ∃ (v2 : Int32) (h2 : jm_H), m_Clock_hasSwitch 0 h1 v2 h2 ∧
        (v2 = 0 →
          r = (some (jm_i 0), h2)) ∧
        (¬ (v2 = 0) →
          r = (some (jm_i 5), h2)))))) : jm_R 60 [jm_r 7 0, jm_i a0] h r := by
  refine jm_R_of hz_60 (Nat.le_of_ble_eq_true rfl) ?_
  show jm_E cod_60 (0, [some (jm_r 7 0), some (jm_i a0), none], [], h) r
  refine jm_E_n 2 (x' := (2, [some (jm_r 7 0), some (jm_i a0), none], [jm_i a0, jm_r 7 0], h)) rfl ?_
  obtain ⟨v1, h1, hR, H⟩ := H
  refine jm_E_call rfl (Nat.le_of_ble_eq_true rfl) (Nat.le_of_ble_eq_true rfl) rfl hR trivial ?_
  refine jm_E_eq (x := (3, [some (jm_r 7 0), some (jm_i a0), none], [jm_i v1], h1)) rfl ?_
  refine jm_E_n 1 (x' := (if v1 = 0 then 4 else 6, [some (jm_r 7 0), some (jm_i a0), none], [], h1)) rfl ?_
  refine jm_E_ite (fun hc => ?_) (fun hc => ?_)
  · replace H := H.1 hc
    refine jm_E_n 1 (x' := (5, [some (jm_r 7 0), some (jm_i a0), none], [jm_i 1], h1)) rfl ?_
    exact jm_E_ret rfl (by rw [H]; rfl)
  · replace H := H.2 hc
    refine jm_E_n 5 (x' := (11, [some (jm_r 7 0), some (jm_i a0), none], [jm_i (h1.1 0 0 1), jm_r 32 0], h1)) rfl ?_
    refine jm_E_aald rfl rfl H.1 ?_
    replace H := H.2
    refine jm_E_eq (x := (12, [some (jm_r 7 0), some (jm_i a0), none], [jm_r 6 (3 * 0 + (h1.1 0 0 1).toNatClampNeg)], h1)) rfl ?_
    refine jm_E_n 2 (x' := (if (h1.1 6 (3 * 0 + (h1.1 0 0 1).toNatClampNeg) 1) = 0 then 22 else 14, [some (jm_r 7 0), some (jm_i a0), none], [], h1)) rfl ?_
    refine jm_E_ite (fun hc => ?_) (fun hc => ?_)
    · replace H := H.1 hc
      refine jm_E_n 5 (x' := (33, [some (jm_r 7 0), some (jm_i a0), some (jm_i 0)], [jm_i 5], h1)) rfl ?_
      exact jm_E_ret rfl (by rw [H]; rfl)
    · replace H := H.2 hc
      refine jm_E_n 3 (x' := (17, [some (jm_r 7 0), some (jm_i a0), none], [jm_i a0, jm_r 32 0], h1)) rfl ?_
      refine jm_E_aald rfl rfl H.1 ?_
      replace H := H.2
      refine jm_E_eq (x := (18, [some (jm_r 7 0), some (jm_i a0), none], [jm_r 6 (3 * 0 + a0.toNatClampNeg)], h1)) rfl ?_
      refine jm_E_n 2 (x' := (if (h1.1 6 (3 * 0 + a0.toNatClampNeg) 1) = 0 then 22 else 20, [some (jm_r 7 0), some (jm_i a0), none], [], h1)) rfl ?_
      refine jm_E_ite (fun hc => ?_) (fun hc => ?_)
      · replace H := H.1 hc
        refine jm_E_n 5 (x' := (33, [some (jm_r 7 0), some (jm_i a0), some (jm_i 0)], [jm_i 5], h1)) rfl ?_
        exact jm_E_ret rfl (by rw [H]; rfl)
      · replace H := H.2 hc
        refine jm_E_n 7 (x' := (28, [some (jm_r 7 0), some (jm_i a0), some (jm_i 1)], [jm_r 0 0], h1)) rfl ?_
        obtain ⟨v2, h2, hR, H⟩ := H
        refine jm_E_call rfl (Nat.le_of_ble_eq_true rfl) (Nat.le_of_ble_eq_true rfl) rfl hR trivial ?_
        refine jm_E_eq (x := (29, [some (jm_r 7 0), some (jm_i a0), some (jm_i 1)], [jm_i v2], h2)) rfl ?_
        refine jm_E_n 1 (x' := (if v2 = 0 then 30 else 32, [some (jm_r 7 0), some (jm_i a0), some (jm_i 1)], [], h2)) rfl ?_
        refine jm_E_ite (fun hc => ?_) (fun hc => ?_)
        · replace H := H.1 hc
          refine jm_E_n 2 (x' := (33, [some (jm_r 7 0), some (jm_i a0), some (jm_i 1)], [jm_i 0], h2)) rfl ?_
          exact jm_E_ret rfl (by rw [H]; rfl)
        · replace H := H.2 hc
          refine jm_E_n 1 (x' := (33, [some (jm_r 7 0), some (jm_i a0), some (jm_i 1)], [jm_i 5], h2)) rfl ?_
          exact jm_E_ret rfl (by rw [H]; rfl)
set_option maxRecDepth 100000 in
theorem wp_FR_firstSafeEnd_32 {x2 : Nat} {x3 : Int32} {x4 : Int32} {h : jm_H} {r : jm_Rs} (H :
  (592 < x4 →
    r = (some (jm_i (-1)), h)) ∧
  (¬ (592 < x4) →
    ∃ (v3 : Int32) (h3 : jm_H), m_Table_openJobs x2 x3 (jm_sI h 5 0 2 x4) v3 h3 ∧
    (v3 = 0 →
      ∃ (v4 : Int32) (h4 : jm_H), m_Supply_margin 0 h3 v4 h4 ∧
      (v4 < 0 →
        ((h4.1 1 x2 2) ≤ (x3 + 1) →
          l_FR_firstSafeEnd_32 x2 0 (x4 + (if (1 : Int32) < (h4.1 1 x2 0) then (h4.1 1 x2 0) else 1)) h4 r) ∧
        (¬ ((h4.1 1 x2 2) ≤ (x3 + 1)) →
          l_FR_firstSafeEnd_32 x2 (x3 + 1) (x4 + (if (1 : Int32) < (h4.1 1 x2 0) then (h4.1 1 x2 0) else 1)) h4 r)) ∧
      (¬ (v4 < 0) →
        r = (some (jm_i ((h4.1 0 0 0) + x4)), h4))) ∧
    (¬ (v3 = 0) →
      ((h3.1 1 x2 2) ≤ (x3 + 1) →
        l_FR_firstSafeEnd_32 x2 0 (x4 + (if (1 : Int32) < (h3.1 1 x2 0) then (h3.1 1 x2 0) else 1)) h3 r) ∧
      (¬ ((h3.1 1 x2 2) ≤ (x3 + 1)) →
        l_FR_firstSafeEnd_32 x2 (x3 + 1) (x4 + (if (1 : Int32) < (h3.1 1 x2 0) then (h3.1 1 x2 0) else 1)) h3 r)))) : l_FR_firstSafeEnd_32 x2 x3 x4 h r := by
  refine jm_E_n 3 (x' := (if 592 < x4 then 77 else 35, [some (jm_r 7 0), none, some (jm_r 6 x2), some (jm_i x3), some (jm_i x4)], [], h)) rfl ?_
  refine jm_E_ite (fun hc => ?_) (fun hc => ?_)
  · replace H := H.1 hc
    refine jm_E_n 1 (x' := (78, [some (jm_r 7 0), none, some (jm_r 6 x2), some (jm_i x3), some (jm_i x4)], [jm_i (-1)], h)) rfl ?_
    exact jm_E_ret rfl (by rw [H]; rfl)
  · replace H := H.2 hc
    refine jm_E_n 6 (x' := (41, [some (jm_r 7 0), none, some (jm_r 6 x2), some (jm_i x3), some (jm_i x4)], [jm_i x3, jm_r 6 x2], (jm_sI h 5 0 2 x4))) rfl ?_
    obtain ⟨v3, h3, hR, H⟩ := H
    refine jm_E_call rfl (Nat.le_of_ble_eq_true rfl) (Nat.le_of_ble_eq_true rfl) rfl hR trivial ?_
    refine jm_E_eq (x := (42, [some (jm_r 7 0), none, some (jm_r 6 x2), some (jm_i x3), some (jm_i x4)], [jm_i v3], h3)) rfl ?_
    refine jm_E_n 1 (x' := (if v3 = 0 then 43 else 55, [some (jm_r 7 0), none, some (jm_r 6 x2), some (jm_i x3), some (jm_i x4)], [], h3)) rfl ?_
    refine jm_E_ite (fun hc => ?_) (fun hc => ?_)
    · replace H := H.1 hc
      refine jm_E_n 4 (x' := (47, [some (jm_r 7 0), none, some (jm_r 6 x2), some (jm_i x3), some (jm_i x4)], [jm_r 0 0, jm_r 5 0], h3)) rfl ?_
      obtain ⟨v4, h4, hR, H⟩ := H
      refine jm_E_call rfl (Nat.le_of_ble_eq_true rfl) (Nat.le_of_ble_eq_true rfl) rfl hR trivial ?_
      refine jm_E_eq (x := (48, [some (jm_r 7 0), none, some (jm_r 6 x2), some (jm_i x3), some (jm_i x4)], [jm_i v4], h4)) rfl ?_
      refine jm_E_n 1 (x' := (if v4 < 0 then 55 else 49, [some (jm_r 7 0), none, some (jm_r 6 x2), some (jm_i x3), some (jm_i x4)], [], h4)) rfl ?_
      refine jm_E_ite (fun hc => ?_) (fun hc => ?_)
      · replace H := H.1 hc
        refine jm_E_n 7 (x' := (if (h4.1 1 x2 2) ≤ (x3 + 1) then 66 else 62, [some (jm_r 7 0), none, some (jm_r 6 x2), some (jm_i x3), some (jm_i x4)], [], h4)) rfl ?_
        refine jm_E_ite (fun hc => ?_) (fun hc => ?_)
        · replace H := H.1 hc
          refine jm_E_n 11 (x' := (32, [some (jm_r 7 0), none, some (jm_r 6 x2), some (jm_i 0), some (jm_i (x4 + (if (1 : Int32) < (h4.1 1 x2 0) then (h4.1 1 x2 0) else 1)))], [], h4)) rfl ?_
          exact H
        · replace H := H.2 hc
          refine jm_E_n 14 (x' := (32, [some (jm_r 7 0), none, some (jm_r 6 x2), some (jm_i (x3 + 1)), some (jm_i (x4 + (if (1 : Int32) < (h4.1 1 x2 0) then (h4.1 1 x2 0) else 1)))], [], h4)) rfl ?_
          exact H
      · replace H := H.2 hc
        refine jm_E_n 5 (x' := (54, [some (jm_r 7 0), none, some (jm_r 6 x2), some (jm_i x3), some (jm_i x4)], [jm_i ((h4.1 0 0 0) + x4)], h4)) rfl ?_
        exact jm_E_ret rfl (by rw [H]; rfl)
    · replace H := H.2 hc
      refine jm_E_n 7 (x' := (if (h3.1 1 x2 2) ≤ (x3 + 1) then 66 else 62, [some (jm_r 7 0), none, some (jm_r 6 x2), some (jm_i x3), some (jm_i x4)], [], h3)) rfl ?_
      refine jm_E_ite (fun hc => ?_) (fun hc => ?_)
      · replace H := H.1 hc
        refine jm_E_n 11 (x' := (32, [some (jm_r 7 0), none, some (jm_r 6 x2), some (jm_i 0), some (jm_i (x4 + (if (1 : Int32) < (h3.1 1 x2 0) then (h3.1 1 x2 0) else 1)))], [], h3)) rfl ?_
        exact H
      · replace H := H.2 hc
        refine jm_E_n 14 (x' := (32, [some (jm_r 7 0), none, some (jm_r 6 x2), some (jm_i (x3 + 1)), some (jm_i (x4 + (if (1 : Int32) < (h3.1 1 x2 0) then (h3.1 1 x2 0) else 1)))], [], h3)) rfl ?_
        exact H
set_option maxRecDepth 100000 in
theorem wp_FR_firstSafeEnd {a0 : Int32} {h : jm_H} {r : jm_Rs} (H :
  jm_in (h.1 0 0 1) 3 ∧
  ∃ h1 : jm_H, m_Supply_sumUp_30 0 (3 * 0 + (h.1 0 0 1).toNatClampNeg) (h.1 0 0 2) h h1 ∧
  jm_in a0 3 ∧
  ∃ h2 : jm_H, m_Supply_sumUp_31 0 (3 * 0 + a0.toNatClampNeg) 0 h1 h2 ∧
  l_FR_firstSafeEnd_32 (3 * 0 + (h.1 0 0 1).toNatClampNeg) (h2.1 0 0 2) 0 h2 r) : jm_R 72 [jm_r 7 0, jm_i a0] h r := by
  refine jm_R_of hz_72 (Nat.le_of_ble_eq_true rfl) ?_
  show jm_E cod_72 (0, [some (jm_r 7 0), some (jm_i a0), none, none, none], [], h) r
  refine jm_E_n 5 (x' := (5, [some (jm_r 7 0), some (jm_i a0), none, none, none], [jm_i (h.1 0 0 1), jm_r 32 0], h)) rfl ?_
  refine jm_E_aald rfl rfl H.1 ?_
  replace H := H.2
  refine jm_E_eq (x := (6, [some (jm_r 7 0), some (jm_i a0), none, none, none], [jm_r 6 (3 * 0 + (h.1 0 0 1).toNatClampNeg)], h)) rfl ?_
  refine jm_E_n 9 (x' := (15, [some (jm_r 7 0), some (jm_i a0), some (jm_r 6 (3 * 0 + (h.1 0 0 1).toNatClampNeg)), none, none], [jm_i (h.1 0 0 2), jm_r 1 (3 * 0 + (h.1 0 0 1).toNatClampNeg), jm_r 30 0], h)) rfl ?_
  obtain ⟨h1, hR, H⟩ := H
  refine jm_E_call rfl (Nat.le_of_ble_eq_true rfl) (Nat.le_of_ble_eq_true rfl) trivial hR trivial ?_
  refine jm_E_eq (x := (16, [some (jm_r 7 0), some (jm_i a0), some (jm_r 6 (3 * 0 + (h.1 0 0 1).toNatClampNeg)), none, none], [], h1)) rfl ?_
  refine jm_E_n 6 (x' := (22, [some (jm_r 7 0), some (jm_i a0), some (jm_r 6 (3 * 0 + (h.1 0 0 1).toNatClampNeg)), none, none], [jm_i a0, jm_r 32 0, jm_r 31 0], h1)) rfl ?_
  refine jm_E_aald rfl rfl H.1 ?_
  replace H := H.2
  refine jm_E_eq (x := (23, [some (jm_r 7 0), some (jm_i a0), some (jm_r 6 (3 * 0 + (h.1 0 0 1).toNatClampNeg)), none, none], [jm_r 6 (3 * 0 + a0.toNatClampNeg), jm_r 31 0], h1)) rfl ?_
  refine jm_E_n 2 (x' := (25, [some (jm_r 7 0), some (jm_i a0), some (jm_r 6 (3 * 0 + (h.1 0 0 1).toNatClampNeg)), none, none], [jm_i 0, jm_r 1 (3 * 0 + a0.toNatClampNeg), jm_r 31 0], h1)) rfl ?_
  obtain ⟨h2, hR, H⟩ := H
  refine jm_E_call rfl (Nat.le_of_ble_eq_true rfl) (Nat.le_of_ble_eq_true rfl) trivial hR trivial ?_
  refine jm_E_eq (x := (26, [some (jm_r 7 0), some (jm_i a0), some (jm_r 6 (3 * 0 + (h.1 0 0 1).toNatClampNeg)), none, none], [], h2)) rfl ?_
  refine jm_E_n 6 (x' := (32, [some (jm_r 7 0), some (jm_i a0), some (jm_r 6 (3 * 0 + (h.1 0 0 1).toNatClampNeg)), some (jm_i (h2.1 0 0 2)), some (jm_i 0)], [], h2)) rfl ?_
  exact jm_E_weak (jm_le_s (jm_le_n (jm_le_s (jm_le_s (jm_le_s jm_le_nil))))) H
set_option maxRecDepth 100000 in
theorem wp_FR_safeEnd {a0 : Int32} {h : jm_H} {r : jm_Rs} (H :
  ∃ (v1 : Int32) (h1 : jm_H), m_FR_switchRefusal a0 h v1 h1 ∧
  (v1 = 0 →
    ∃ (v2 : Int32) (h2 : jm_H), m_FR_firstSafeEnd a0 h1 v2 h2 ∧
    ∃ (v3 : Int32) (h3 : jm_H), m_FR_answered v2 h2 v3 h3 ∧
    r = (some (jm_i v3), h3)) ∧
  (¬ (v1 = 0) →
    ∃ (v4 : Int32) (h4 : jm_H), m_FR_refused v1 h1 v4 h4 ∧
    r = (some (jm_i v4), h4))) : jm_R 55 [jm_r 7 0, jm_i a0] h r := by
  refine jm_R_of hz_55 (Nat.le_of_ble_eq_true rfl) ?_
  show jm_E cod_55 (0, [some (jm_r 7 0), some (jm_i a0), none], [], h) r
  refine jm_E_n 2 (x' := (2, [some (jm_r 7 0), some (jm_i a0), none], [jm_i a0, jm_r 7 0], h)) rfl ?_
  obtain ⟨v1, h1, hR, H⟩ := H
  refine jm_E_call rfl (Nat.le_of_ble_eq_true rfl) (Nat.le_of_ble_eq_true rfl) rfl hR trivial ?_
  refine jm_E_eq (x := (3, [some (jm_r 7 0), some (jm_i a0), none], [jm_i v1], h1)) rfl ?_
  refine jm_E_n 3 (x' := (if v1 = 0 then 10 else 6, [some (jm_r 7 0), some (jm_i a0), some (jm_i v1)], [], h1)) rfl ?_
  refine jm_E_ite (fun hc => ?_) (fun hc => ?_)
  · replace H := H.1 hc
    refine jm_E_n 3 (x' := (13, [some (jm_r 7 0), some (jm_i a0), some (jm_i v1)], [jm_i a0, jm_r 7 0, jm_r 7 0], h1)) rfl ?_
    obtain ⟨v2, h2, hR, H⟩ := H
    refine jm_E_call rfl (Nat.le_of_ble_eq_true rfl) (Nat.le_of_ble_eq_true rfl) rfl hR trivial ?_
    refine jm_E_eq (x := (14, [some (jm_r 7 0), some (jm_i a0), some (jm_i v1)], [jm_i v2, jm_r 7 0], h2)) rfl ?_
    obtain ⟨v3, h3, hR, H⟩ := H
    refine jm_E_call rfl (Nat.le_of_ble_eq_true rfl) (Nat.le_of_ble_eq_true rfl) rfl hR trivial ?_
    refine jm_E_eq (x := (15, [some (jm_r 7 0), some (jm_i a0), some (jm_i v1)], [jm_i v3], h3)) rfl ?_
    exact jm_E_ret rfl (by rw [H]; rfl)
  · replace H := H.2 hc
    refine jm_E_n 2 (x' := (8, [some (jm_r 7 0), some (jm_i a0), some (jm_i v1)], [jm_i v1, jm_r 7 0], h1)) rfl ?_
    obtain ⟨v4, h4, hR, H⟩ := H
    refine jm_E_call rfl (Nat.le_of_ble_eq_true rfl) (Nat.le_of_ble_eq_true rfl) rfl hR trivial ?_
    refine jm_E_eq (x := (9, [some (jm_r 7 0), some (jm_i a0), some (jm_i v1)], [jm_i v4], h4)) rfl ?_
    refine jm_E_n 1 (x' := (15, [some (jm_r 7 0), some (jm_i a0), some (jm_i v1)], [jm_i v4], h4)) rfl ?_
    exact jm_E_ret rfl (by rw [H]; rfl)
set_option maxRecDepth 100000 in
theorem wp_FR_change {a0 : Int32} {h : jm_H} {r : jm_Rs} (H :
  ∃ (v1 : Int32) (h1 : jm_H), m_FR_switchRefusal a0 h v1 h1 ∧
  (v1 = 0 →
    ∃ (v2 : Int32) (h2 : jm_H), m_FR_firstSafeEnd a0 h1 v2 h2 ∧
    ∃ h3 : jm_H, m_Clock_switchIfTime 0 (jm_sI (jm_sI h2 0 0 7 a0) 0 0 8 v2) h3 ∧
    ∃ (v4 : Int32) (h4 : jm_H), m_FR_answered v2 h3 v4 h4 ∧
    r = (some (jm_i v4), h4)) ∧
  (¬ (v1 = 0) →
    ∃ (v5 : Int32) (h5 : jm_H), m_FR_refused v1 h1 v5 h5 ∧
    r = (some (jm_i v5), h5))) : jm_R 56 [jm_r 7 0, jm_i a0] h r := by
  refine jm_R_of hz_56 (Nat.le_of_ble_eq_true rfl) ?_
  show jm_E cod_56 (0, [some (jm_r 7 0), some (jm_i a0), none, none], [], h) r
  refine jm_E_n 2 (x' := (2, [some (jm_r 7 0), some (jm_i a0), none, none], [jm_i a0, jm_r 7 0], h)) rfl ?_
  obtain ⟨v1, h1, hR, H⟩ := H
  refine jm_E_call rfl (Nat.le_of_ble_eq_true rfl) (Nat.le_of_ble_eq_true rfl) rfl hR trivial ?_
  refine jm_E_eq (x := (3, [some (jm_r 7 0), some (jm_i a0), none, none], [jm_i v1], h1)) rfl ?_
  refine jm_E_n 3 (x' := (if v1 = 0 then 10 else 6, [some (jm_r 7 0), some (jm_i a0), some (jm_i v1), none], [], h1)) rfl ?_
  refine jm_E_ite (fun hc => ?_) (fun hc => ?_)
  · replace H := H.1 hc
    refine jm_E_n 2 (x' := (12, [some (jm_r 7 0), some (jm_i a0), some (jm_i v1), none], [jm_i a0, jm_r 7 0], h1)) rfl ?_
    obtain ⟨v2, h2, hR, H⟩ := H
    refine jm_E_call rfl (Nat.le_of_ble_eq_true rfl) (Nat.le_of_ble_eq_true rfl) rfl hR trivial ?_
    refine jm_E_eq (x := (13, [some (jm_r 7 0), some (jm_i a0), some (jm_i v1), none], [jm_i v2], h2)) rfl ?_
    refine jm_E_n 11 (x' := (24, [some (jm_r 7 0), some (jm_i a0), some (jm_i v1), some (jm_i v2)], [jm_r 0 0], (jm_sI (jm_sI h2 0 0 7 a0) 0 0 8 v2))) rfl ?_
    obtain ⟨h3, hR, H⟩ := H
    refine jm_E_call rfl (Nat.le_of_ble_eq_true rfl) (Nat.le_of_ble_eq_true rfl) rfl hR trivial ?_
    refine jm_E_eq (x := (25, [some (jm_r 7 0), some (jm_i a0), some (jm_i v1), some (jm_i v2)], [], h3)) rfl ?_
    refine jm_E_n 2 (x' := (27, [some (jm_r 7 0), some (jm_i a0), some (jm_i v1), some (jm_i v2)], [jm_i v2, jm_r 7 0], h3)) rfl ?_
    obtain ⟨v4, h4, hR, H⟩ := H
    refine jm_E_call rfl (Nat.le_of_ble_eq_true rfl) (Nat.le_of_ble_eq_true rfl) rfl hR trivial ?_
    refine jm_E_eq (x := (28, [some (jm_r 7 0), some (jm_i a0), some (jm_i v1), some (jm_i v2)], [jm_i v4], h4)) rfl ?_
    exact jm_E_ret rfl (by rw [H]; rfl)
  · replace H := H.2 hc
    refine jm_E_n 2 (x' := (8, [some (jm_r 7 0), some (jm_i a0), some (jm_i v1), none], [jm_i v1, jm_r 7 0], h1)) rfl ?_
    obtain ⟨v5, h5, hR, H⟩ := H
    refine jm_E_call rfl (Nat.le_of_ble_eq_true rfl) (Nat.le_of_ble_eq_true rfl) rfl hR trivial ?_
    refine jm_E_eq (x := (9, [some (jm_r 7 0), some (jm_i a0), some (jm_i v1), none], [jm_i v5], h5)) rfl ?_
    exact jm_E_ret rfl (by rw [H]; rfl)
set_option maxRecDepth 100000 in
theorem wp_Clock_become {o : Nat} {a0 : Nat} {h : jm_H} {r : jm_Rs} (H :
  r = (none, (jm_cp (jm_cp (jm_sI (jm_sI (jm_sI (jm_sI (jm_sI (jm_sI (jm_sI (jm_sI (jm_sI (jm_sI h 0 o 0 (h.1 0 a0 0)) 0 o 1 (h.1 0 a0 1)) 0 o 2 (h.1 0 a0 2)) 0 o 3 (h.1 0 a0 3)) 0 o 4 (h.1 0 a0 4)) 0 o 5 (h.1 0 a0 5)) 0 o 6 (h.1 0 a0 6)) 0 o 7 (h.1 0 a0 7)) 0 o 8 (h.1 0 a0 8)) 0 o 9 (h.1 0 a0 9)) 10 a0 10 o) 11 a0 11 o))) : jm_R 202 [jm_r 0 o, jm_r 0 a0] h r := by
  refine jm_R_of hz_202 (Nat.le_of_ble_eq_true rfl) ?_
  show jm_E cod_202 (0, [some (jm_r 0 o), some (jm_r 0 a0)], [], h) r
  refine jm_E_n 56 (x' := (56, [some (jm_r 0 o), some (jm_r 0 a0)], [], (jm_cp (jm_cp (jm_sI (jm_sI (jm_sI (jm_sI (jm_sI (jm_sI (jm_sI (jm_sI (jm_sI (jm_sI h 0 o 0 (h.1 0 a0 0)) 0 o 1 (h.1 0 a0 1)) 0 o 2 (h.1 0 a0 2)) 0 o 3 (h.1 0 a0 3)) 0 o 4 (h.1 0 a0 4)) 0 o 5 (h.1 0 a0 5)) 0 o 6 (h.1 0 a0 6)) 0 o 7 (h.1 0 a0 7)) 0 o 8 (h.1 0 a0 8)) 0 o 9 (h.1 0 a0 9)) 10 a0 10 o) 11 a0 11 o))) rfl ?_
  exact jm_E_ret rfl (by rw [H]; rfl)
set_option maxRecDepth 100000 in
theorem wp_FR_keep  {h : jm_H} {r : jm_Rs} (H :
  ((h.1 3 (h.2.1 7 0 1) 0) = 0 →
    r = (some (jm_i 0), (jm_sI h 7 0 8 1))) ∧
  (¬ ((h.1 3 (h.2.1 7 0 1) 0) = 0) →
    ∃ h1 : jm_H, m_Clock_become 1 0 (jm_sI h 7 0 8 0) h1 ∧
    r = (some (jm_i 1), (jm_sI h1 7 0 7 1)))) : jm_R 57 [jm_r 7 0] h r := by
  refine jm_R_of hz_57 (Nat.le_of_ble_eq_true rfl) ?_
  show jm_E cod_57 (0, [some (jm_r 7 0)], [], h) r
  refine jm_E_n 4 (x' := (if (h.1 3 (h.2.1 7 0 1) 0) = 0 then 4 else 9, [some (jm_r 7 0)], [], h)) rfl ?_
  refine jm_E_ite (fun hc => ?_) (fun hc => ?_)
  · replace H := H.1 hc
    refine jm_E_n 4 (x' := (8, [some (jm_r 7 0)], [jm_i 0], (jm_sI h 7 0 8 1))) rfl ?_
    exact jm_E_ret rfl (by rw [H]; rfl)
  · replace H := H.2 hc
    refine jm_E_n 7 (x' := (16, [some (jm_r 7 0)], [jm_r 0 0, jm_r 0 1], (jm_sI h 7 0 8 0))) rfl ?_
    obtain ⟨h1, hR, H⟩ := H
    refine jm_E_call rfl (Nat.le_of_ble_eq_true rfl) (Nat.le_of_ble_eq_true rfl) rfl hR trivial ?_
    refine jm_E_eq (x := (17, [some (jm_r 7 0)], [], h1)) rfl ?_
    refine jm_E_n 4 (x' := (21, [some (jm_r 7 0)], [jm_i 1], (jm_sI h1 7 0 7 1))) rfl ?_
    exact jm_E_ret rfl (by rw [H]; rfl)
set_option maxRecDepth 100000 in
theorem wp_FR_back  {h : jm_H} {r : jm_Rs} (H :
  ((h.1 7 0 7) = 0 →
    r = (some (jm_i 0), (jm_sI h 7 0 8 1))) ∧
  (¬ ((h.1 7 0 7) = 0) →
    ∃ h1 : jm_H, m_Clock_become 0 1 (jm_sI h 7 0 8 0) h1 ∧
    r = (some (jm_i 1), h1))) : jm_R 58 [jm_r 7 0] h r := by
  refine jm_R_of hz_58 (Nat.le_of_ble_eq_true rfl) ?_
  show jm_E cod_58 (0, [some (jm_r 7 0)], [], h) r
  refine jm_E_n 3 (x' := (if (h.1 7 0 7) = 0 then 3 else 8, [some (jm_r 7 0)], [], h)) rfl ?_
  refine jm_E_ite (fun hc => ?_) (fun hc => ?_)
  · replace H := H.1 hc
    refine jm_E_n 4 (x' := (7, [some (jm_r 7 0)], [jm_i 0], (jm_sI h 7 0 8 1))) rfl ?_
    exact jm_E_ret rfl (by rw [H]; rfl)
  · replace H := H.2 hc
    refine jm_E_n 7 (x' := (15, [some (jm_r 7 0)], [jm_r 0 1, jm_r 0 0], (jm_sI h 7 0 8 0))) rfl ?_
    obtain ⟨h1, hR, H⟩ := H
    refine jm_E_call rfl (Nat.le_of_ble_eq_true rfl) (Nat.le_of_ble_eq_true rfl) rfl hR trivial ?_
    refine jm_E_eq (x := (16, [some (jm_r 7 0)], [], h1)) rfl ?_
    refine jm_E_n 1 (x' := (17, [some (jm_r 7 0)], [jm_i 1], h1)) rfl ?_
    exact jm_E_ret rfl (by rw [H]; rfl)
set_option maxRecDepth 100000 in
theorem wp_FR_makeAnew {a0 : Int32} {h : jm_H} {r : jm_Rs} (H :
  jm_in a0 3 ∧
  jm_in a0 3 ∧
  jm_in a0 3 ∧
  ∃ h1 : jm_H, m_Table_make (3 * 0 + a0.toNatClampNeg) (3 * (h.2.1 7 0 1) + a0.toNatClampNeg) (h.1 2 (3 * (h.2.1 7 0 1) + a0.toNatClampNeg) 0) h h1 ∧
  ∃ h2 : jm_H, m_FR_beginClock h1 h2 ∧
  r = (none, h2)) : jm_R 76 [jm_r 7 0, jm_i a0] h r := by
  refine jm_R_of hz_76 (Nat.le_of_ble_eq_true rfl) ?_
  show jm_E cod_76 (0, [some (jm_r 7 0), some (jm_i a0)], [], h) r
  refine jm_E_n 3 (x' := (3, [some (jm_r 7 0), some (jm_i a0)], [jm_i a0, jm_r 32 0], h)) rfl ?_
  refine jm_E_aald rfl rfl H.1 ?_
  replace H := H.2
  refine jm_E_eq (x := (4, [some (jm_r 7 0), some (jm_i a0)], [jm_r 6 (3 * 0 + a0.toNatClampNeg)], h)) rfl ?_
  refine jm_E_n 4 (x' := (8, [some (jm_r 7 0), some (jm_i a0)], [jm_i a0, jm_r 28 (h.2.1 7 0 1), jm_r 6 (3 * 0 + a0.toNatClampNeg)], h)) rfl ?_
  refine jm_E_aald rfl rfl H.1 ?_
  replace H := H.2
  refine jm_E_eq (x := (9, [some (jm_r 7 0), some (jm_i a0)], [jm_r 2 (3 * (h.2.1 7 0 1) + a0.toNatClampNeg), jm_r 6 (3 * 0 + a0.toNatClampNeg)], h)) rfl ?_
  refine jm_E_n 4 (x' := (13, [some (jm_r 7 0), some (jm_i a0)], [jm_i a0, jm_r 28 (h.2.1 7 0 1), jm_r 2 (3 * (h.2.1 7 0 1) + a0.toNatClampNeg), jm_r 6 (3 * 0 + a0.toNatClampNeg)], h)) rfl ?_
  refine jm_E_aald rfl rfl H.1 ?_
  replace H := H.2
  refine jm_E_eq (x := (14, [some (jm_r 7 0), some (jm_i a0)], [jm_r 2 (3 * (h.2.1 7 0 1) + a0.toNatClampNeg), jm_r 2 (3 * (h.2.1 7 0 1) + a0.toNatClampNeg), jm_r 6 (3 * 0 + a0.toNatClampNeg)], h)) rfl ?_
  refine jm_E_n 1 (x' := (15, [some (jm_r 7 0), some (jm_i a0)], [jm_i (h.1 2 (3 * (h.2.1 7 0 1) + a0.toNatClampNeg) 0), jm_r 2 (3 * (h.2.1 7 0 1) + a0.toNatClampNeg), jm_r 6 (3 * 0 + a0.toNatClampNeg)], h)) rfl ?_
  obtain ⟨h1, hR, H⟩ := H
  refine jm_E_call rfl (Nat.le_of_ble_eq_true rfl) (Nat.le_of_ble_eq_true rfl) rfl hR trivial ?_
  refine jm_E_eq (x := (16, [some (jm_r 7 0), some (jm_i a0)], [], h1)) rfl ?_
  refine jm_E_n 1 (x' := (17, [some (jm_r 7 0), some (jm_i a0)], [jm_r 7 0], h1)) rfl ?_
  obtain ⟨h2, hR, H⟩ := H
  refine jm_E_call rfl (Nat.le_of_ble_eq_true rfl) (Nat.le_of_ble_eq_true rfl) rfl hR trivial ?_
  refine jm_E_eq (x := (18, [some (jm_r 7 0), some (jm_i a0)], [], h2)) rfl ?_
  exact jm_E_ret rfl (by rw [H]; rfl)
set_option maxRecDepth 100000 in
theorem wp_FR_recost {a0 : Int32} {a1 : Int32} {a2 : Int32} {h : jm_H} {r : jm_Rs} (H :
  ∃ (v1 : Int32) (h1 : jm_H), m_FR_isTask a0 a1 h v1 h1 ∧
  (v1 = 0 →
    ∃ (v2 : Int32) (h2 : jm_H), m_FR_refused 1 h1 v2 h2 ∧
    r = (some (jm_i v2), h2)) ∧
  (¬ (v1 = 0) →
    (a2 < 1 →
      ∃ (v3 : Int32) (h3 : jm_H), m_FR_refused 2 h1 v3 h3 ∧
      r = (some (jm_i v3), h3)) ∧
    (¬ (a2 < 1) →
      (a2 ≤ 60 →
        jm_in a0 3 ∧
        jm_in a1 6 ∧
        jm_in a0 3 ∧
        jm_in a1 6 ∧
        ∃ h4 : jm_H, m_FR_makeAnew a0 (jm_sI h1 24 (3 * (h1.2.1 7 0 1) + a0.toNatClampNeg) a1.toNatClampNeg a2) h4 ∧
        ∃ (v5 : Int32) (h5 : jm_H), m_FR_answered (h1.1 24 (3 * (h1.2.1 7 0 1) + a0.toNatClampNeg) a1.toNatClampNeg) h4 v5 h5 ∧
        r = (some (jm_i v5), h5)) ∧
      (¬ (a2 ≤ 60) →
        ∃ (v6 : Int32) (h6 : jm_H), m_FR_refused 2 h1 v6 h6 ∧
        r = (some (jm_i v6), h6))))) : jm_R 73 [jm_r 7 0, jm_i a0, jm_i a1, jm_i a2] h r := by
  refine jm_R_of hz_73 (Nat.le_of_ble_eq_true rfl) ?_
  show jm_E cod_73 (0, [some (jm_r 7 0), some (jm_i a0), some (jm_i a1), some (jm_i a2), none], [], h) r
  refine jm_E_n 3 (x' := (3, [some (jm_r 7 0), some (jm_i a0), some (jm_i a1), some (jm_i a2), none], [jm_i a1, jm_i a0, jm_r 7 0], h)) rfl ?_
  obtain ⟨v1, h1, hR, H⟩ := H
  refine jm_E_call rfl (Nat.le_of_ble_eq_true rfl) (Nat.le_of_ble_eq_true rfl) rfl hR trivial ?_
  refine jm_E_eq (x := (4, [some (jm_r 7 0), some (jm_i a0), some (jm_i a1), some (jm_i a2), none], [jm_i v1], h1)) rfl ?_
  refine jm_E_n 1 (x' := (if v1 = 0 then 5 else 9, [some (jm_r 7 0), some (jm_i a0), some (jm_i a1), some (jm_i a2), none], [], h1)) rfl ?_
  refine jm_E_ite (fun hc => ?_) (fun hc => ?_)
  · replace H := H.1 hc
    refine jm_E_n 2 (x' := (7, [some (jm_r 7 0), some (jm_i a0), some (jm_i a1), some (jm_i a2), none], [jm_i 1, jm_r 7 0], h1)) rfl ?_
    obtain ⟨v2, h2, hR, H⟩ := H
    refine jm_E_call rfl (Nat.le_of_ble_eq_true rfl) (Nat.le_of_ble_eq_true rfl) rfl hR trivial ?_
    refine jm_E_eq (x := (8, [some (jm_r 7 0), some (jm_i a0), some (jm_i a1), some (jm_i a2), none], [jm_i v2], h2)) rfl ?_
    exact jm_E_ret rfl (by rw [H]; rfl)
  · replace H := H.2 hc
    refine jm_E_n 3 (x' := (if a2 < 1 then 15 else 12, [some (jm_r 7 0), some (jm_i a0), some (jm_i a1), some (jm_i a2), none], [], h1)) rfl ?_
    refine jm_E_ite (fun hc => ?_) (fun hc => ?_)
    · replace H := H.1 hc
      refine jm_E_n 2 (x' := (17, [some (jm_r 7 0), some (jm_i a0), some (jm_i a1), some (jm_i a2), none], [jm_i 2, jm_r 7 0], h1)) rfl ?_
      obtain ⟨v3, h3, hR, H⟩ := H
      refine jm_E_call rfl (Nat.le_of_ble_eq_true rfl) (Nat.le_of_ble_eq_true rfl) rfl hR trivial ?_
      refine jm_E_eq (x := (18, [some (jm_r 7 0), some (jm_i a0), some (jm_i a1), some (jm_i a2), none], [jm_i v3], h3)) rfl ?_
      exact jm_E_ret rfl (by rw [H]; rfl)
    · replace H := H.2 hc
      refine jm_E_n 3 (x' := (if a2 ≤ 60 then 19 else 15, [some (jm_r 7 0), some (jm_i a0), some (jm_i a1), some (jm_i a2), none], [], h1)) rfl ?_
      refine jm_E_ite (fun hc => ?_) (fun hc => ?_)
      · replace H := H.1 hc
        refine jm_E_n 4 (x' := (23, [some (jm_r 7 0), some (jm_i a0), some (jm_i a1), some (jm_i a2), none], [jm_i a0, jm_r 28 (h1.2.1 7 0 1)], h1)) rfl ?_
        refine jm_E_aald rfl rfl H.1 ?_
        replace H := H.2
        refine jm_E_eq (x := (24, [some (jm_r 7 0), some (jm_i a0), some (jm_i a1), some (jm_i a2), none], [jm_r 2 (3 * (h1.2.1 7 0 1) + a0.toNatClampNeg)], h1)) rfl ?_
        refine jm_E_n 2 (x' := (26, [some (jm_r 7 0), some (jm_i a0), some (jm_i a1), some (jm_i a2), none], [jm_i a1, jm_r 24 (3 * (h1.2.1 7 0 1) + a0.toNatClampNeg)], h1)) rfl ?_
        refine jm_E_iald rfl rfl H.1 ?_
        replace H := H.2
        refine jm_E_eq (x := (27, [some (jm_r 7 0), some (jm_i a0), some (jm_i a1), some (jm_i a2), none], [jm_i (h1.1 24 (3 * (h1.2.1 7 0 1) + a0.toNatClampNeg) a1.toNatClampNeg)], h1)) rfl ?_
        refine jm_E_n 5 (x' := (32, [some (jm_r 7 0), some (jm_i a0), some (jm_i a1), some (jm_i a2), some (jm_i (h1.1 24 (3 * (h1.2.1 7 0 1) + a0.toNatClampNeg) a1.toNatClampNeg))], [jm_i a0, jm_r 28 (h1.2.1 7 0 1)], h1)) rfl ?_
        refine jm_E_aald rfl rfl H.1 ?_
        replace H := H.2
        refine jm_E_eq (x := (33, [some (jm_r 7 0), some (jm_i a0), some (jm_i a1), some (jm_i a2), some (jm_i (h1.1 24 (3 * (h1.2.1 7 0 1) + a0.toNatClampNeg) a1.toNatClampNeg))], [jm_r 2 (3 * (h1.2.1 7 0 1) + a0.toNatClampNeg)], h1)) rfl ?_
        refine jm_E_n 3 (x' := (36, [some (jm_r 7 0), some (jm_i a0), some (jm_i a1), some (jm_i a2), some (jm_i (h1.1 24 (3 * (h1.2.1 7 0 1) + a0.toNatClampNeg) a1.toNatClampNeg))], [jm_i a2, jm_i a1, jm_r 24 (3 * (h1.2.1 7 0 1) + a0.toNatClampNeg)], h1)) rfl ?_
        refine jm_E_iast rfl rfl H.1 ?_
        replace H := H.2
        refine jm_E_eq (x := (37, [some (jm_r 7 0), some (jm_i a0), some (jm_i a1), some (jm_i a2), some (jm_i (h1.1 24 (3 * (h1.2.1 7 0 1) + a0.toNatClampNeg) a1.toNatClampNeg))], [], (jm_sI h1 24 (3 * (h1.2.1 7 0 1) + a0.toNatClampNeg) a1.toNatClampNeg a2))) rfl ?_
        refine jm_E_n 2 (x' := (39, [some (jm_r 7 0), some (jm_i a0), some (jm_i a1), some (jm_i a2), some (jm_i (h1.1 24 (3 * (h1.2.1 7 0 1) + a0.toNatClampNeg) a1.toNatClampNeg))], [jm_i a0, jm_r 7 0], (jm_sI h1 24 (3 * (h1.2.1 7 0 1) + a0.toNatClampNeg) a1.toNatClampNeg a2))) rfl ?_
        obtain ⟨h4, hR, H⟩ := H
        refine jm_E_call rfl (Nat.le_of_ble_eq_true rfl) (Nat.le_of_ble_eq_true rfl) rfl hR trivial ?_
        refine jm_E_eq (x := (40, [some (jm_r 7 0), some (jm_i a0), some (jm_i a1), some (jm_i a2), some (jm_i (h1.1 24 (3 * (h1.2.1 7 0 1) + a0.toNatClampNeg) a1.toNatClampNeg))], [], h4)) rfl ?_
        refine jm_E_n 2 (x' := (42, [some (jm_r 7 0), some (jm_i a0), some (jm_i a1), some (jm_i a2), some (jm_i (h1.1 24 (3 * (h1.2.1 7 0 1) + a0.toNatClampNeg) a1.toNatClampNeg))], [jm_i (h1.1 24 (3 * (h1.2.1 7 0 1) + a0.toNatClampNeg) a1.toNatClampNeg), jm_r 7 0], h4)) rfl ?_
        obtain ⟨v5, h5, hR, H⟩ := H
        refine jm_E_call rfl (Nat.le_of_ble_eq_true rfl) (Nat.le_of_ble_eq_true rfl) rfl hR trivial ?_
        refine jm_E_eq (x := (43, [some (jm_r 7 0), some (jm_i a0), some (jm_i a1), some (jm_i a2), some (jm_i (h1.1 24 (3 * (h1.2.1 7 0 1) + a0.toNatClampNeg) a1.toNatClampNeg))], [jm_i v5], h5)) rfl ?_
        exact jm_E_ret rfl (by rw [H]; rfl)
      · replace H := H.2 hc
        refine jm_E_n 2 (x' := (17, [some (jm_r 7 0), some (jm_i a0), some (jm_i a1), some (jm_i a2), none], [jm_i 2, jm_r 7 0], h1)) rfl ?_
        obtain ⟨v6, h6, hR, H⟩ := H
        refine jm_E_call rfl (Nat.le_of_ble_eq_true rfl) (Nat.le_of_ble_eq_true rfl) rfl hR trivial ?_
        refine jm_E_eq (x := (18, [some (jm_r 7 0), some (jm_i a0), some (jm_i a1), some (jm_i a2), none], [jm_i v6], h6)) rfl ?_
        exact jm_E_ret rfl (by rw [H]; rfl)
set_option maxRecDepth 100000 in
theorem wp_FR_reframe {a0 : Int32} {a1 : Int32} {h : jm_H} {r : jm_Rs} (H :
  ∃ (v1 : Int32) (h1 : jm_H), m_FR_isMode a0 h v1 h1 ∧
  (v1 = 0 →
    ∃ (v2 : Int32) (h2 : jm_H), m_FR_refused 1 h1 v2 h2 ∧
    r = (some (jm_i v2), h2)) ∧
  (¬ (v1 = 0) →
    jm_in a0 3 ∧
    (a1 < 4 →
      ∃ (v3 : Int32) (h3 : jm_H), m_FR_refused 2 h1 v3 h3 ∧
      r = (some (jm_i v3), h3)) ∧
    (¬ (a1 < 4) →
      (60 < a1 →
        ∃ (v4 : Int32) (h4 : jm_H), m_FR_refused 2 h1 v4 h4 ∧
        r = (some (jm_i v4), h4)) ∧
      (¬ (60 < a1) →
        ((h1.1 2 (3 * (h1.2.1 7 0 1) + a0.toNatClampNeg) 1) < a1 →
          ∃ h5 : jm_H, m_FR_makeAnew a0 (jm_sI h1 2 (3 * (h1.2.1 7 0 1) + a0.toNatClampNeg) 0 a1) h5 ∧
          ∃ (v6 : Int32) (h6 : jm_H), m_FR_answered (h1.1 2 (3 * (h1.2.1 7 0 1) + a0.toNatClampNeg) 0) h5 v6 h6 ∧
          r = (some (jm_i v6), h6)) ∧
        (¬ ((h1.1 2 (3 * (h1.2.1 7 0 1) + a0.toNatClampNeg) 1) < a1) →
          ∃ (v7 : Int32) (h7 : jm_H), m_FR_refused 2 h1 v7 h7 ∧
          r = (some (jm_i v7), h7)))))) : jm_R 74 [jm_r 7 0, jm_i a0, jm_i a1] h r := by
  refine jm_R_of hz_74 (Nat.le_of_ble_eq_true rfl) ?_
  show jm_E cod_74 (0, [some (jm_r 7 0), some (jm_i a0), some (jm_i a1), none, none], [], h) r
  refine jm_E_n 2 (x' := (2, [some (jm_r 7 0), some (jm_i a0), some (jm_i a1), none, none], [jm_i a0, jm_r 7 0], h)) rfl ?_
  obtain ⟨v1, h1, hR, H⟩ := H
  refine jm_E_call rfl (Nat.le_of_ble_eq_true rfl) (Nat.le_of_ble_eq_true rfl) rfl hR trivial ?_
  refine jm_E_eq (x := (3, [some (jm_r 7 0), some (jm_i a0), some (jm_i a1), none, none], [jm_i v1], h1)) rfl ?_
  refine jm_E_n 1 (x' := (if v1 = 0 then 4 else 8, [some (jm_r 7 0), some (jm_i a0), some (jm_i a1), none, none], [], h1)) rfl ?_
  refine jm_E_ite (fun hc => ?_) (fun hc => ?_)
  · replace H := H.1 hc
    refine jm_E_n 2 (x' := (6, [some (jm_r 7 0), some (jm_i a0), some (jm_i a1), none, none], [jm_i 1, jm_r 7 0], h1)) rfl ?_
    obtain ⟨v2, h2, hR, H⟩ := H
    refine jm_E_call rfl (Nat.le_of_ble_eq_true rfl) (Nat.le_of_ble_eq_true rfl) rfl hR trivial ?_
    refine jm_E_eq (x := (7, [some (jm_r 7 0), some (jm_i a0), some (jm_i a1), none, none], [jm_i v2], h2)) rfl ?_
    exact jm_E_ret rfl (by rw [H]; rfl)
  · replace H := H.2 hc
    refine jm_E_n 4 (x' := (12, [some (jm_r 7 0), some (jm_i a0), some (jm_i a1), none, none], [jm_i a0, jm_r 28 (h1.2.1 7 0 1)], h1)) rfl ?_
    refine jm_E_aald rfl rfl H.1 ?_
    replace H := H.2
    refine jm_E_eq (x := (13, [some (jm_r 7 0), some (jm_i a0), some (jm_i a1), none, none], [jm_r 2 (3 * (h1.2.1 7 0 1) + a0.toNatClampNeg)], h1)) rfl ?_
    refine jm_E_n 4 (x' := (if a1 < 4 then 24 else 17, [some (jm_r 7 0), some (jm_i a0), some (jm_i a1), some (jm_r 2 (3 * (h1.2.1 7 0 1) + a0.toNatClampNeg)), none], [], h1)) rfl ?_
    refine jm_E_ite (fun hc => ?_) (fun hc => ?_)
    · replace H := H.1 hc
      refine jm_E_n 2 (x' := (26, [some (jm_r 7 0), some (jm_i a0), some (jm_i a1), some (jm_r 2 (3 * (h1.2.1 7 0 1) + a0.toNatClampNeg)), none], [jm_i 2, jm_r 7 0], h1)) rfl ?_
      obtain ⟨v3, h3, hR, H⟩ := H
      refine jm_E_call rfl (Nat.le_of_ble_eq_true rfl) (Nat.le_of_ble_eq_true rfl) rfl hR trivial ?_
      refine jm_E_eq (x := (27, [some (jm_r 7 0), some (jm_i a0), some (jm_i a1), some (jm_r 2 (3 * (h1.2.1 7 0 1) + a0.toNatClampNeg)), none], [jm_i v3], h3)) rfl ?_
      exact jm_E_ret rfl (by rw [H]; rfl)
    · replace H := H.2 hc
      refine jm_E_n 3 (x' := (if 60 < a1 then 24 else 20, [some (jm_r 7 0), some (jm_i a0), some (jm_i a1), some (jm_r 2 (3 * (h1.2.1 7 0 1) + a0.toNatClampNeg)), none], [], h1)) rfl ?_
      refine jm_E_ite (fun hc => ?_) (fun hc => ?_)
      · replace H := H.1 hc
        refine jm_E_n 2 (x' := (26, [some (jm_r 7 0), some (jm_i a0), some (jm_i a1), some (jm_r 2 (3 * (h1.2.1 7 0 1) + a0.toNatClampNeg)), none], [jm_i 2, jm_r 7 0], h1)) rfl ?_
        obtain ⟨v4, h4, hR, H⟩ := H
        refine jm_E_call rfl (Nat.le_of_ble_eq_true rfl) (Nat.le_of_ble_eq_true rfl) rfl hR trivial ?_
        refine jm_E_eq (x := (27, [some (jm_r 7 0), some (jm_i a0), some (jm_i a1), some (jm_r 2 (3 * (h1.2.1 7 0 1) + a0.toNatClampNeg)), none], [jm_i v4], h4)) rfl ?_
        exact jm_E_ret rfl (by rw [H]; rfl)
      · replace H := H.2 hc
        refine jm_E_n 4 (x' := (if (h1.1 2 (3 * (h1.2.1 7 0 1) + a0.toNatClampNeg) 1) < a1 then 28 else 24, [some (jm_r 7 0), some (jm_i a0), some (jm_i a1), some (jm_r 2 (3 * (h1.2.1 7 0 1) + a0.toNatClampNeg)), none], [], h1)) rfl ?_
        refine jm_E_ite (fun hc => ?_) (fun hc => ?_)
        · replace H := H.1 hc
          refine jm_E_n 8 (x' := (36, [some (jm_r 7 0), some (jm_i a0), some (jm_i a1), some (jm_r 2 (3 * (h1.2.1 7 0 1) + a0.toNatClampNeg)), some (jm_i (h1.1 2 (3 * (h1.2.1 7 0 1) + a0.toNatClampNeg) 0))], [jm_i a0, jm_r 7 0], (jm_sI h1 2 (3 * (h1.2.1 7 0 1) + a0.toNatClampNeg) 0 a1))) rfl ?_
          obtain ⟨h5, hR, H⟩ := H
          refine jm_E_call rfl (Nat.le_of_ble_eq_true rfl) (Nat.le_of_ble_eq_true rfl) rfl hR trivial ?_
          refine jm_E_eq (x := (37, [some (jm_r 7 0), some (jm_i a0), some (jm_i a1), some (jm_r 2 (3 * (h1.2.1 7 0 1) + a0.toNatClampNeg)), some (jm_i (h1.1 2 (3 * (h1.2.1 7 0 1) + a0.toNatClampNeg) 0))], [], h5)) rfl ?_
          refine jm_E_n 2 (x' := (39, [some (jm_r 7 0), some (jm_i a0), some (jm_i a1), some (jm_r 2 (3 * (h1.2.1 7 0 1) + a0.toNatClampNeg)), some (jm_i (h1.1 2 (3 * (h1.2.1 7 0 1) + a0.toNatClampNeg) 0))], [jm_i (h1.1 2 (3 * (h1.2.1 7 0 1) + a0.toNatClampNeg) 0), jm_r 7 0], h5)) rfl ?_
          obtain ⟨v6, h6, hR, H⟩ := H
          refine jm_E_call rfl (Nat.le_of_ble_eq_true rfl) (Nat.le_of_ble_eq_true rfl) rfl hR trivial ?_
          refine jm_E_eq (x := (40, [some (jm_r 7 0), some (jm_i a0), some (jm_i a1), some (jm_r 2 (3 * (h1.2.1 7 0 1) + a0.toNatClampNeg)), some (jm_i (h1.1 2 (3 * (h1.2.1 7 0 1) + a0.toNatClampNeg) 0))], [jm_i v6], h6)) rfl ?_
          exact jm_E_ret rfl (by rw [H]; rfl)
        · replace H := H.2 hc
          refine jm_E_n 2 (x' := (26, [some (jm_r 7 0), some (jm_i a0), some (jm_i a1), some (jm_r 2 (3 * (h1.2.1 7 0 1) + a0.toNatClampNeg)), none], [jm_i 2, jm_r 7 0], h1)) rfl ?_
          obtain ⟨v7, h7, hR, H⟩ := H
          refine jm_E_call rfl (Nat.le_of_ble_eq_true rfl) (Nat.le_of_ble_eq_true rfl) rfl hR trivial ?_
          refine jm_E_eq (x := (27, [some (jm_r 7 0), some (jm_i a0), some (jm_i a1), some (jm_r 2 (3 * (h1.2.1 7 0 1) + a0.toNatClampNeg)), none], [jm_i v7], h7)) rfl ?_
          exact jm_E_ret rfl (by rw [H]; rfl)
set_option maxRecDepth 100000 in
theorem wp_FR_reserve {a0 : Int32} {a1 : Int32} {h : jm_H} {r : jm_Rs} (H :
  ∃ (v1 : Int32) (h1 : jm_H), m_FR_isMode a0 h v1 h1 ∧
  (v1 = 0 →
    ∃ (v2 : Int32) (h2 : jm_H), m_FR_refused 1 h1 v2 h2 ∧
    r = (some (jm_i v2), h2)) ∧
  (¬ (v1 = 0) →
    jm_in a0 3 ∧
    (a1 < 0 →
      ∃ (v3 : Int32) (h3 : jm_H), m_FR_refused 2 h1 v3 h3 ∧
      r = (some (jm_i v3), h3)) ∧
    (¬ (a1 < 0) →
      (59 < a1 →
        ∃ (v4 : Int32) (h4 : jm_H), m_FR_refused 2 h1 v4 h4 ∧
        r = (some (jm_i v4), h4)) ∧
      (¬ (59 < a1) →
        (a1 < (h1.1 2 (3 * (h1.2.1 7 0 1) + a0.toNatClampNeg) 0) →
          ∃ h5 : jm_H, m_FR_makeAnew a0 (jm_sI h1 2 (3 * (h1.2.1 7 0 1) + a0.toNatClampNeg) 1 a1) h5 ∧
          ∃ (v6 : Int32) (h6 : jm_H), m_FR_answered (h1.1 2 (3 * (h1.2.1 7 0 1) + a0.toNatClampNeg) 1) h5 v6 h6 ∧
          r = (some (jm_i v6), h6)) ∧
        (¬ (a1 < (h1.1 2 (3 * (h1.2.1 7 0 1) + a0.toNatClampNeg) 0)) →
          ∃ (v7 : Int32) (h7 : jm_H), m_FR_refused 2 h1 v7 h7 ∧
          r = (some (jm_i v7), h7)))))) : jm_R 75 [jm_r 7 0, jm_i a0, jm_i a1] h r := by
  refine jm_R_of hz_75 (Nat.le_of_ble_eq_true rfl) ?_
  show jm_E cod_75 (0, [some (jm_r 7 0), some (jm_i a0), some (jm_i a1), none, none], [], h) r
  refine jm_E_n 2 (x' := (2, [some (jm_r 7 0), some (jm_i a0), some (jm_i a1), none, none], [jm_i a0, jm_r 7 0], h)) rfl ?_
  obtain ⟨v1, h1, hR, H⟩ := H
  refine jm_E_call rfl (Nat.le_of_ble_eq_true rfl) (Nat.le_of_ble_eq_true rfl) rfl hR trivial ?_
  refine jm_E_eq (x := (3, [some (jm_r 7 0), some (jm_i a0), some (jm_i a1), none, none], [jm_i v1], h1)) rfl ?_
  refine jm_E_n 1 (x' := (if v1 = 0 then 4 else 8, [some (jm_r 7 0), some (jm_i a0), some (jm_i a1), none, none], [], h1)) rfl ?_
  refine jm_E_ite (fun hc => ?_) (fun hc => ?_)
  · replace H := H.1 hc
    refine jm_E_n 2 (x' := (6, [some (jm_r 7 0), some (jm_i a0), some (jm_i a1), none, none], [jm_i 1, jm_r 7 0], h1)) rfl ?_
    obtain ⟨v2, h2, hR, H⟩ := H
    refine jm_E_call rfl (Nat.le_of_ble_eq_true rfl) (Nat.le_of_ble_eq_true rfl) rfl hR trivial ?_
    refine jm_E_eq (x := (7, [some (jm_r 7 0), some (jm_i a0), some (jm_i a1), none, none], [jm_i v2], h2)) rfl ?_
    exact jm_E_ret rfl (by rw [H]; rfl)
  · replace H := H.2 hc
    refine jm_E_n 4 (x' := (12, [some (jm_r 7 0), some (jm_i a0), some (jm_i a1), none, none], [jm_i a0, jm_r 28 (h1.2.1 7 0 1)], h1)) rfl ?_
    refine jm_E_aald rfl rfl H.1 ?_
    replace H := H.2
    refine jm_E_eq (x := (13, [some (jm_r 7 0), some (jm_i a0), some (jm_i a1), none, none], [jm_r 2 (3 * (h1.2.1 7 0 1) + a0.toNatClampNeg)], h1)) rfl ?_
    refine jm_E_n 3 (x' := (if a1 < 0 then 23 else 16, [some (jm_r 7 0), some (jm_i a0), some (jm_i a1), some (jm_r 2 (3 * (h1.2.1 7 0 1) + a0.toNatClampNeg)), none], [], h1)) rfl ?_
    refine jm_E_ite (fun hc => ?_) (fun hc => ?_)
    · replace H := H.1 hc
      refine jm_E_n 2 (x' := (25, [some (jm_r 7 0), some (jm_i a0), some (jm_i a1), some (jm_r 2 (3 * (h1.2.1 7 0 1) + a0.toNatClampNeg)), none], [jm_i 2, jm_r 7 0], h1)) rfl ?_
      obtain ⟨v3, h3, hR, H⟩ := H
      refine jm_E_call rfl (Nat.le_of_ble_eq_true rfl) (Nat.le_of_ble_eq_true rfl) rfl hR trivial ?_
      refine jm_E_eq (x := (26, [some (jm_r 7 0), some (jm_i a0), some (jm_i a1), some (jm_r 2 (3 * (h1.2.1 7 0 1) + a0.toNatClampNeg)), none], [jm_i v3], h3)) rfl ?_
      exact jm_E_ret rfl (by rw [H]; rfl)
    · replace H := H.2 hc
      refine jm_E_n 3 (x' := (if 59 < a1 then 23 else 19, [some (jm_r 7 0), some (jm_i a0), some (jm_i a1), some (jm_r 2 (3 * (h1.2.1 7 0 1) + a0.toNatClampNeg)), none], [], h1)) rfl ?_
      refine jm_E_ite (fun hc => ?_) (fun hc => ?_)
      · replace H := H.1 hc
        refine jm_E_n 2 (x' := (25, [some (jm_r 7 0), some (jm_i a0), some (jm_i a1), some (jm_r 2 (3 * (h1.2.1 7 0 1) + a0.toNatClampNeg)), none], [jm_i 2, jm_r 7 0], h1)) rfl ?_
        obtain ⟨v4, h4, hR, H⟩ := H
        refine jm_E_call rfl (Nat.le_of_ble_eq_true rfl) (Nat.le_of_ble_eq_true rfl) rfl hR trivial ?_
        refine jm_E_eq (x := (26, [some (jm_r 7 0), some (jm_i a0), some (jm_i a1), some (jm_r 2 (3 * (h1.2.1 7 0 1) + a0.toNatClampNeg)), none], [jm_i v4], h4)) rfl ?_
        exact jm_E_ret rfl (by rw [H]; rfl)
      · replace H := H.2 hc
        refine jm_E_n 4 (x' := (if a1 < (h1.1 2 (3 * (h1.2.1 7 0 1) + a0.toNatClampNeg) 0) then 27 else 23, [some (jm_r 7 0), some (jm_i a0), some (jm_i a1), some (jm_r 2 (3 * (h1.2.1 7 0 1) + a0.toNatClampNeg)), none], [], h1)) rfl ?_
        refine jm_E_ite (fun hc => ?_) (fun hc => ?_)
        · replace H := H.1 hc
          refine jm_E_n 8 (x' := (35, [some (jm_r 7 0), some (jm_i a0), some (jm_i a1), some (jm_r 2 (3 * (h1.2.1 7 0 1) + a0.toNatClampNeg)), some (jm_i (h1.1 2 (3 * (h1.2.1 7 0 1) + a0.toNatClampNeg) 1))], [jm_i a0, jm_r 7 0], (jm_sI h1 2 (3 * (h1.2.1 7 0 1) + a0.toNatClampNeg) 1 a1))) rfl ?_
          obtain ⟨h5, hR, H⟩ := H
          refine jm_E_call rfl (Nat.le_of_ble_eq_true rfl) (Nat.le_of_ble_eq_true rfl) rfl hR trivial ?_
          refine jm_E_eq (x := (36, [some (jm_r 7 0), some (jm_i a0), some (jm_i a1), some (jm_r 2 (3 * (h1.2.1 7 0 1) + a0.toNatClampNeg)), some (jm_i (h1.1 2 (3 * (h1.2.1 7 0 1) + a0.toNatClampNeg) 1))], [], h5)) rfl ?_
          refine jm_E_n 2 (x' := (38, [some (jm_r 7 0), some (jm_i a0), some (jm_i a1), some (jm_r 2 (3 * (h1.2.1 7 0 1) + a0.toNatClampNeg)), some (jm_i (h1.1 2 (3 * (h1.2.1 7 0 1) + a0.toNatClampNeg) 1))], [jm_i (h1.1 2 (3 * (h1.2.1 7 0 1) + a0.toNatClampNeg) 1), jm_r 7 0], h5)) rfl ?_
          obtain ⟨v6, h6, hR, H⟩ := H
          refine jm_E_call rfl (Nat.le_of_ble_eq_true rfl) (Nat.le_of_ble_eq_true rfl) rfl hR trivial ?_
          refine jm_E_eq (x := (39, [some (jm_r 7 0), some (jm_i a0), some (jm_i a1), some (jm_r 2 (3 * (h1.2.1 7 0 1) + a0.toNatClampNeg)), some (jm_i (h1.1 2 (3 * (h1.2.1 7 0 1) + a0.toNatClampNeg) 1))], [jm_i v6], h6)) rfl ?_
          exact jm_E_ret rfl (by rw [H]; rfl)
        · replace H := H.2 hc
          refine jm_E_n 2 (x' := (25, [some (jm_r 7 0), some (jm_i a0), some (jm_i a1), some (jm_r 2 (3 * (h1.2.1 7 0 1) + a0.toNatClampNeg)), none], [jm_i 2, jm_r 7 0], h1)) rfl ?_
          obtain ⟨v7, h7, hR, H⟩ := H
          refine jm_E_call rfl (Nat.le_of_ble_eq_true rfl) (Nat.le_of_ble_eq_true rfl) rfl hR trivial ?_
          refine jm_E_eq (x := (26, [some (jm_r 7 0), some (jm_i a0), some (jm_i a1), some (jm_r 2 (3 * (h1.2.1 7 0 1) + a0.toNatClampNeg)), none], [jm_i v7], h7)) rfl ?_
          exact jm_E_ret rfl (by rw [H]; rfl)
set_option maxRecDepth 100000 in
theorem wp_FR_timerRefusal {a0 : Int32} {a1 : Int32} {a2 : Int32} {h : jm_H} {r : jm_Rs} (H :
  ∃ (v1 : Int32) (h1 : jm_H), m_FR_isMode a0 h v1 h1 ∧
  (v1 = 0 →
    r = (some (jm_i 1), h1)) ∧
  (¬ (v1 = 0) →
    (a1 < 0 →
      r = (some (jm_i 2), h1)) ∧
    (¬ (a1 < 0) →
      (100000 < a1 →
        r = (some (jm_i 2), h1)) ∧
      (¬ (100000 < a1) →
        (a2 < 1 →
          r = (some (jm_i 2), h1)) ∧
        (¬ (a2 < 1) →
          (100000 < a2 →
            r = (some (jm_i 2), h1)) ∧
          (¬ (100000 < a2) →
            r = (some (jm_i 0), h1))))))) : jm_R 79 [jm_r 7 0, jm_i a0, jm_i a1, jm_i a2] h r := by
  refine jm_R_of hz_79 (Nat.le_of_ble_eq_true rfl) ?_
  show jm_E cod_79 (0, [some (jm_r 7 0), some (jm_i a0), some (jm_i a1), some (jm_i a2), none], [], h) r
  refine jm_E_n 2 (x' := (2, [some (jm_r 7 0), some (jm_i a0), some (jm_i a1), some (jm_i a2), none], [jm_i a0, jm_r 7 0], h)) rfl ?_
  obtain ⟨v1, h1, hR, H⟩ := H
  refine jm_E_call rfl (Nat.le_of_ble_eq_true rfl) (Nat.le_of_ble_eq_true rfl) rfl hR trivial ?_
  refine jm_E_eq (x := (3, [some (jm_r 7 0), some (jm_i a0), some (jm_i a1), some (jm_i a2), none], [jm_i v1], h1)) rfl ?_
  refine jm_E_n 1 (x' := (if v1 = 0 then 4 else 6, [some (jm_r 7 0), some (jm_i a0), some (jm_i a1), some (jm_i a2), none], [], h1)) rfl ?_
  refine jm_E_ite (fun hc => ?_) (fun hc => ?_)
  · replace H := H.1 hc
    refine jm_E_n 1 (x' := (5, [some (jm_r 7 0), some (jm_i a0), some (jm_i a1), some (jm_i a2), none], [jm_i 1], h1)) rfl ?_
    exact jm_E_ret rfl (by rw [H]; rfl)
  · replace H := H.2 hc
    refine jm_E_n 2 (x' := (if a1 < 0 then 19 else 8, [some (jm_r 7 0), some (jm_i a0), some (jm_i a1), some (jm_i a2), none], [], h1)) rfl ?_
    refine jm_E_ite (fun hc => ?_) (fun hc => ?_)
    · replace H := H.1 hc
      refine jm_E_n 5 (x' := (26, [some (jm_r 7 0), some (jm_i a0), some (jm_i a1), some (jm_i a2), some (jm_i 0)], [jm_i 2], h1)) rfl ?_
      exact jm_E_ret rfl (by rw [H]; rfl)
    · replace H := H.2 hc
      refine jm_E_n 3 (x' := (if 100000 < a1 then 19 else 11, [some (jm_r 7 0), some (jm_i a0), some (jm_i a1), some (jm_i a2), none], [], h1)) rfl ?_
      refine jm_E_ite (fun hc => ?_) (fun hc => ?_)
      · replace H := H.1 hc
        refine jm_E_n 5 (x' := (26, [some (jm_r 7 0), some (jm_i a0), some (jm_i a1), some (jm_i a2), some (jm_i 0)], [jm_i 2], h1)) rfl ?_
        exact jm_E_ret rfl (by rw [H]; rfl)
      · replace H := H.2 hc
        refine jm_E_n 3 (x' := (if a2 < 1 then 19 else 14, [some (jm_r 7 0), some (jm_i a0), some (jm_i a1), some (jm_i a2), none], [], h1)) rfl ?_
        refine jm_E_ite (fun hc => ?_) (fun hc => ?_)
        · replace H := H.1 hc
          refine jm_E_n 5 (x' := (26, [some (jm_r 7 0), some (jm_i a0), some (jm_i a1), some (jm_i a2), some (jm_i 0)], [jm_i 2], h1)) rfl ?_
          exact jm_E_ret rfl (by rw [H]; rfl)
        · replace H := H.2 hc
          refine jm_E_n 3 (x' := (if 100000 < a2 then 19 else 17, [some (jm_r 7 0), some (jm_i a0), some (jm_i a1), some (jm_i a2), none], [], h1)) rfl ?_
          refine jm_E_ite (fun hc => ?_) (fun hc => ?_)
          · replace H := H.1 hc
            refine jm_E_n 5 (x' := (26, [some (jm_r 7 0), some (jm_i a0), some (jm_i a1), some (jm_i a2), some (jm_i 0)], [jm_i 2], h1)) rfl ?_
            exact jm_E_ret rfl (by rw [H]; rfl)
          · replace H := H.2 hc
            refine jm_E_n 7 (x' := (26, [some (jm_r 7 0), some (jm_i a0), some (jm_i a1), some (jm_i a2), some (jm_i 1)], [jm_i 0], h1)) rfl ?_
            exact jm_E_ret rfl (by rw [H]; rfl)
set_option maxRecDepth 100000 in
theorem wp_Timer_tick {a0 : Int32} {h : jm_H} {r : jm_Rs} (H :
  (FP.ddiv 4652007308841189376 (FP.i2d (if (1 : Int32) < a0 then a0 else 1)) &&& 0x7fffffffffffffff ≤ 0x7ff0000000000000) ∧
  r = (some (.inl (.double (FP.ddiv 4652007308841189376 (FP.i2d (if (1 : Int32) < a0 then a0 else 1))))), h)) : jm_R 272 [jm_i a0] h r := by
  refine jm_R_of hz_272 (Nat.le_of_ble_eq_true rfl) ?_
  show jm_E cod_272 (0, [some (jm_i a0)], [], h) r
  refine jm_E_n 5 (x' := (5, [some (jm_i a0)], [.inl (.double (FP.i2d (if (1 : Int32) < a0 then a0 else 1))), .inl (.double 4652007308841189376)], h)) rfl ?_
  refine jm_E_dbin rfl H.1 ?_
  replace H := H.2
  refine jm_E_eq (x := (6, [some (jm_i a0)], [.inl (.double (FP.ddiv 4652007308841189376 (FP.i2d (if (1 : Int32) < a0 then a0 else 1))))], h)) rfl ?_
  exact jm_E_ret rfl (by rw [H]; rfl)
set_option maxRecDepth 100000 in
theorem wp_FR_ticks {a0 : Int32} {a1 : Int32} {a2 : Int32} {h : jm_H} {r : jm_Rs} (H :
  ∃ (v1 : Int32) (h1 : jm_H), m_FR_timerRefusal a0 a1 a2 h v1 h1 ∧
  (v1 = 0 →
    jm_in a0 3 ∧
    ∃ (v2 : UInt64) (h2 : jm_H), m_Timer_tick a2 (jm_sI h1 7 0 8 0) v2 h2 ∧
    (FP.ddiv (FP.i2d (a1 * (h1.1 2 (3 * (h1.2.1 7 0 1) + a0.toNatClampNeg) 0))) v2 &&& 0x7fffffffffffffff ≤ 0x7ff0000000000000) ∧
    r = (some (.inl (.long (FP.d2l (FP.ddiv (FP.i2d (a1 * (h1.1 2 (3 * (h1.2.1 7 0 1) + a0.toNatClampNeg) 0))) v2)))), h2)) ∧
  (¬ (v1 = 0) →
    ∃ (v3 : Int32) (h3 : jm_H), m_FR_refused v1 h1 v3 h3 ∧
    r = (some (.inl (.long v3.toInt64)), h3))) : jm_R 77 [jm_r 7 0, jm_i a0, jm_i a1, jm_i a2] h r := by
  refine jm_R_of hz_77 (Nat.le_of_ble_eq_true rfl) ?_
  show jm_E cod_77 (0, [some (jm_r 7 0), some (jm_i a0), some (jm_i a1), some (jm_i a2), none], [], h) r
  refine jm_E_n 4 (x' := (4, [some (jm_r 7 0), some (jm_i a0), some (jm_i a1), some (jm_i a2), none], [jm_i a2, jm_i a1, jm_i a0, jm_r 7 0], h)) rfl ?_
  obtain ⟨v1, h1, hR, H⟩ := H
  refine jm_E_call rfl (Nat.le_of_ble_eq_true rfl) (Nat.le_of_ble_eq_true rfl) rfl hR trivial ?_
  refine jm_E_eq (x := (5, [some (jm_r 7 0), some (jm_i a0), some (jm_i a1), some (jm_i a2), none], [jm_i v1], h1)) rfl ?_
  refine jm_E_n 3 (x' := (if v1 = 0 then 13 else 8, [some (jm_r 7 0), some (jm_i a0), some (jm_i a1), some (jm_i a2), some (jm_i v1)], [], h1)) rfl ?_
  refine jm_E_ite (fun hc => ?_) (fun hc => ?_)
  · replace H := H.1 hc
    refine jm_E_n 8 (x' := (21, [some (jm_r 7 0), some (jm_i a0), some (jm_i a1), some (jm_i a2), some (jm_i v1)], [jm_i a0, jm_r 28 (h1.2.1 7 0 1), jm_i a1], (jm_sI h1 7 0 8 0))) rfl ?_
    refine jm_E_aald rfl rfl H.1 ?_
    replace H := H.2
    refine jm_E_eq (x := (22, [some (jm_r 7 0), some (jm_i a0), some (jm_i a1), some (jm_i a2), some (jm_i v1)], [jm_r 2 (3 * (h1.2.1 7 0 1) + a0.toNatClampNeg), jm_i a1], (jm_sI h1 7 0 8 0))) rfl ?_
    refine jm_E_n 4 (x' := (26, [some (jm_r 7 0), some (jm_i a0), some (jm_i a1), some (jm_i a2), some (jm_i v1)], [jm_i a2, .inl (.double (FP.i2d (a1 * (h1.1 2 (3 * (h1.2.1 7 0 1) + a0.toNatClampNeg) 0))))], (jm_sI h1 7 0 8 0))) rfl ?_
    obtain ⟨v2, h2, hR, H⟩ := H
    refine jm_E_call rfl (Nat.le_of_ble_eq_true rfl) (Nat.le_of_ble_eq_true rfl) trivial hR trivial ?_
    refine jm_E_eq (x := (27, [some (jm_r 7 0), some (jm_i a0), some (jm_i a1), some (jm_i a2), some (jm_i v1)], [.inl (.double v2), .inl (.double (FP.i2d (a1 * (h1.1 2 (3 * (h1.2.1 7 0 1) + a0.toNatClampNeg) 0))))], h2)) rfl ?_
    refine jm_E_dbin rfl H.1 ?_
    replace H := H.2
    refine jm_E_eq (x := (28, [some (jm_r 7 0), some (jm_i a0), some (jm_i a1), some (jm_i a2), some (jm_i v1)], [.inl (.double (FP.ddiv (FP.i2d (a1 * (h1.1 2 (3 * (h1.2.1 7 0 1) + a0.toNatClampNeg) 0))) v2))], h2)) rfl ?_
    refine jm_E_n 1 (x' := (29, [some (jm_r 7 0), some (jm_i a0), some (jm_i a1), some (jm_i a2), some (jm_i v1)], [.inl (.long (FP.d2l (FP.ddiv (FP.i2d (a1 * (h1.1 2 (3 * (h1.2.1 7 0 1) + a0.toNatClampNeg) 0))) v2)))], h2)) rfl ?_
    exact jm_E_ret rfl (by rw [H]; rfl)
  · replace H := H.2 hc
    refine jm_E_n 2 (x' := (10, [some (jm_r 7 0), some (jm_i a0), some (jm_i a1), some (jm_i a2), some (jm_i v1)], [jm_i v1, jm_r 7 0], h1)) rfl ?_
    obtain ⟨v3, h3, hR, H⟩ := H
    refine jm_E_call rfl (Nat.le_of_ble_eq_true rfl) (Nat.le_of_ble_eq_true rfl) rfl hR trivial ?_
    refine jm_E_eq (x := (11, [some (jm_r 7 0), some (jm_i a0), some (jm_i a1), some (jm_i a2), some (jm_i v1)], [jm_i v3], h3)) rfl ?_
    refine jm_E_n 1 (x' := (12, [some (jm_r 7 0), some (jm_i a0), some (jm_i a1), some (jm_i a2), some (jm_i v1)], [.inl (.long v3.toInt64)], h3)) rfl ?_
    exact jm_E_ret rfl (by rw [H]; rfl)
set_option maxRecDepth 100000 in
theorem wp_Timer_leftOver_4 {x0 : UInt64} {x4 : UInt64} {x6 : Int32} {h : jm_H} {r : jm_Rs} (H :
  (64 ≤ x6 →
    l_Timer_leftOver_23 x4 x6 x0 0 h r) ∧
  (¬ (64 ≤ x6) →
    (FP.dadd x4 x4 &&& 0x7fffffffffffffff ≤ 0x7ff0000000000000) ∧
    (0 < (Op.cmpValue (FP.dcmp (FP.dadd x4 x4) x0) .g) →
      l_Timer_leftOver_23 x4 x6 x0 0 h r) ∧
    (¬ (0 < (Op.cmpValue (FP.dcmp (FP.dadd x4 x4) x0) .g)) →
      (FP.dadd x4 x4 &&& 0x7fffffffffffffff ≤ 0x7ff0000000000000) ∧
      l_Timer_leftOver_4 x0 (FP.dadd x4 x4) (x6 + 1) h r))) : l_Timer_leftOver_4 x0 x4 x6 h r := by
  refine jm_E_n 3 (x' := (if 64 ≤ x6 then 19 else 7, [some (.inl (.double x0)), none, none, none, some (.inl (.double x4)), none, some (jm_i x6), none, none, none], [], h)) rfl ?_
  refine jm_E_ite (fun hc => ?_) (fun hc => ?_)
  · replace H := H.1 hc
    refine jm_E_n 4 (x' := (23, [some (.inl (.double x0)), none, none, none, some (.inl (.double x4)), none, some (jm_i x6), some (.inl (.double x0)), none, some (jm_i 0)], [], h)) rfl ?_
    exact jm_E_weak (jm_le_n (jm_le_n (jm_le_n (jm_le_n (jm_le_s (jm_le_n (jm_le_s (jm_le_s (jm_le_n (jm_le_s jm_le_nil)))))))))) H
  · replace H := H.2 hc
    refine jm_E_n 2 (x' := (9, [some (.inl (.double x0)), none, none, none, some (.inl (.double x4)), none, some (jm_i x6), none, none, none], [.inl (.double x4), .inl (.double x4)], h)) rfl ?_
    refine jm_E_dbin rfl H.1 ?_
    replace H := H.2
    refine jm_E_eq (x := (10, [some (.inl (.double x0)), none, none, none, some (.inl (.double x4)), none, some (jm_i x6), none, none, none], [.inl (.double (FP.dadd x4 x4))], h)) rfl ?_
    refine jm_E_n 3 (x' := (if 0 < (Op.cmpValue (FP.dcmp (FP.dadd x4 x4) x0) .g) then 19 else 13, [some (.inl (.double x0)), none, none, none, some (.inl (.double x4)), none, some (jm_i x6), none, none, none], [], h)) rfl ?_
    refine jm_E_ite (fun hc => ?_) (fun hc => ?_)
    · replace H := H.1 hc
      refine jm_E_n 4 (x' := (23, [some (.inl (.double x0)), none, none, none, some (.inl (.double x4)), none, some (jm_i x6), some (.inl (.double x0)), none, some (jm_i 0)], [], h)) rfl ?_
      exact jm_E_weak (jm_le_n (jm_le_n (jm_le_n (jm_le_n (jm_le_s (jm_le_n (jm_le_s (jm_le_s (jm_le_n (jm_le_s jm_le_nil)))))))))) H
    · replace H := H.2 hc
      refine jm_E_n 2 (x' := (15, [some (.inl (.double x0)), none, none, none, some (.inl (.double x4)), none, some (jm_i x6), none, none, none], [.inl (.double x4), .inl (.double x4)], h)) rfl ?_
      refine jm_E_dbin rfl H.1 ?_
      replace H := H.2
      refine jm_E_eq (x := (16, [some (.inl (.double x0)), none, none, none, some (.inl (.double x4)), none, some (jm_i x6), none, none, none], [.inl (.double (FP.dadd x4 x4))], h)) rfl ?_
      refine jm_E_n 3 (x' := (4, [some (.inl (.double x0)), none, none, none, some (.inl (.double (FP.dadd x4 x4))), none, some (jm_i (x6 + 1)), none, none, none], [], h)) rfl ?_
      exact H
set_option maxRecDepth 100000 in
theorem wp_Timer_leftOver_23 {x4 : UInt64} {x6 : Int32} {x7 : UInt64} {x9 : Int32} {h : jm_H} {r : jm_Rs} (H :
  (x6 < x9 →
    r = (some (.inl (.double x7)), h)) ∧
  (¬ (x6 < x9) →
    ((Op.cmpValue (FP.dcmp x7 x4) .l) < 0 →
      (FP.ddiv x4 4611686018427387904 &&& 0x7fffffffffffffff ≤ 0x7ff0000000000000) ∧
      l_Timer_leftOver_23 (FP.ddiv x4 4611686018427387904) x6 x7 (x9 + 1) h r) ∧
    (¬ ((Op.cmpValue (FP.dcmp x7 x4) .l) < 0) →
      (FP.dsub x7 x4 &&& 0x7fffffffffffffff ≤ 0x7ff0000000000000) ∧
      (FP.ddiv x4 4611686018427387904 &&& 0x7fffffffffffffff ≤ 0x7ff0000000000000) ∧
      l_Timer_leftOver_23 (FP.ddiv x4 4611686018427387904) x6 (FP.dsub x7 x4) (x9 + 1) h r))) : l_Timer_leftOver_23 x4 x6 x7 x9 h r := by
  refine jm_E_n 3 (x' := (if x6 < x9 then 40 else 26, [none, none, none, none, some (.inl (.double x4)), none, some (jm_i x6), some (.inl (.double x7)), none, some (jm_i x9)], [], h)) rfl ?_
  refine jm_E_ite (fun hc => ?_) (fun hc => ?_)
  · replace H := H.1 hc
    refine jm_E_n 1 (x' := (41, [none, none, none, none, some (.inl (.double x4)), none, some (jm_i x6), some (.inl (.double x7)), none, some (jm_i x9)], [.inl (.double x7)], h)) rfl ?_
    exact jm_E_ret rfl (by rw [H]; rfl)
  · replace H := H.2 hc
    refine jm_E_n 4 (x' := (if (Op.cmpValue (FP.dcmp x7 x4) .l) < 0 then 34 else 30, [none, none, none, none, some (.inl (.double x4)), none, some (jm_i x6), some (.inl (.double x7)), none, some (jm_i x9)], [], h)) rfl ?_
    refine jm_E_ite (fun hc => ?_) (fun hc => ?_)
    · replace H := H.1 hc
      refine jm_E_n 2 (x' := (36, [none, none, none, none, some (.inl (.double x4)), none, some (jm_i x6), some (.inl (.double x7)), none, some (jm_i x9)], [.inl (.double 4611686018427387904), .inl (.double x4)], h)) rfl ?_
      refine jm_E_dbin rfl H.1 ?_
      replace H := H.2
      refine jm_E_eq (x := (37, [none, none, none, none, some (.inl (.double x4)), none, some (jm_i x6), some (.inl (.double x7)), none, some (jm_i x9)], [.inl (.double (FP.ddiv x4 4611686018427387904))], h)) rfl ?_
      refine jm_E_n 3 (x' := (23, [none, none, none, none, some (.inl (.double (FP.ddiv x4 4611686018427387904))), none, some (jm_i x6), some (.inl (.double x7)), none, some (jm_i (x9 + 1))], [], h)) rfl ?_
      exact H
    · replace H := H.2 hc
      refine jm_E_n 2 (x' := (32, [none, none, none, none, some (.inl (.double x4)), none, some (jm_i x6), some (.inl (.double x7)), none, some (jm_i x9)], [.inl (.double x4), .inl (.double x7)], h)) rfl ?_
      refine jm_E_dbin rfl H.1 ?_
      replace H := H.2
      refine jm_E_eq (x := (33, [none, none, none, none, some (.inl (.double x4)), none, some (jm_i x6), some (.inl (.double x7)), none, some (jm_i x9)], [.inl (.double (FP.dsub x7 x4))], h)) rfl ?_
      refine jm_E_n 3 (x' := (36, [none, none, none, none, some (.inl (.double x4)), none, some (jm_i x6), some (.inl (.double (FP.dsub x7 x4))), none, some (jm_i x9)], [.inl (.double 4611686018427387904), .inl (.double x4)], h)) rfl ?_
      refine jm_E_dbin rfl H.1 ?_
      replace H := H.2
      refine jm_E_eq (x := (37, [none, none, none, none, some (.inl (.double x4)), none, some (jm_i x6), some (.inl (.double (FP.dsub x7 x4))), none, some (jm_i x9)], [.inl (.double (FP.ddiv x4 4611686018427387904))], h)) rfl ?_
      refine jm_E_n 3 (x' := (23, [none, none, none, none, some (.inl (.double (FP.ddiv x4 4611686018427387904))), none, some (jm_i x6), some (.inl (.double (FP.dsub x7 x4))), none, some (jm_i (x9 + 1))], [], h)) rfl ?_
      exact H
set_option maxRecDepth 100000 in
theorem wp_Timer_leftOver {a0 : UInt64} {a1 : UInt64} {h : jm_H} {r : jm_Rs} (H :
  l_Timer_leftOver_4 a0 a1 0 h r) : jm_R 273 [.inl (.double a0), .inl (.double a1)] h r := by
  refine jm_R_of hz_273 (Nat.le_of_ble_eq_true rfl) ?_
  show jm_E cod_273 (0, [some (.inl (.double a0)), none, some (.inl (.double a1)), none, none, none, none, none, none, none], [], h) r
  refine jm_E_n 4 (x' := (4, [some (.inl (.double a0)), none, some (.inl (.double a1)), none, some (.inl (.double a1)), none, some (jm_i 0), none, none, none], [], h)) rfl ?_
  exact jm_E_weak (jm_le_s (jm_le_n (jm_le_n (jm_le_n (jm_le_s (jm_le_n (jm_le_s (jm_le_n (jm_le_n (jm_le_n jm_le_nil)))))))))) H
set_option maxRecDepth 100000 in
theorem wp_FR_astray {a0 : Int32} {a1 : Int32} {a2 : Int32} {h : jm_H} {r : jm_Rs} (H :
  ∃ (v1 : Int32) (h1 : jm_H), m_FR_timerRefusal a0 a1 a2 h v1 h1 ∧
  (v1 = 0 →
    jm_in a0 3 ∧
    ∃ (v2 : UInt64) (h2 : jm_H), m_Timer_tick a2 h1 v2 h2 ∧
    ∃ (v3 : UInt64) (h3 : jm_H), m_Timer_leftOver (FP.i2d (a1 * (h1.1 2 (3 * (h1.2.1 7 0 1) + a0.toNatClampNeg) 0))) v2 h2 v3 h3 ∧
    (FP.d2f v3 &&& 0x7fffffff ≤ 0x7f800000) ∧
    (FP.f2d (FP.d2f v3) &&& 0x7fffffffffffffff ≤ 0x7ff0000000000000) ∧
    ∃ (v4 : Int64) (h4 : jm_H), m_Timer_bits (FP.f2d (FP.d2f v3)) 23 127 h3 v4 h4 ∧
    ∃ (v5 : Int32) (h5 : jm_H), m_FR_answered v4.toInt32 h4 v5 h5 ∧
    r = (some (jm_i v5), h5)) ∧
  (¬ (v1 = 0) →
    ∃ (v6 : Int32) (h6 : jm_H), m_FR_refused v1 h1 v6 h6 ∧
    r = (some (jm_i v6), h6))) : jm_R 78 [jm_r 7 0, jm_i a0, jm_i a1, jm_i a2] h r := by
  refine jm_R_of hz_78 (Nat.le_of_ble_eq_true rfl) ?_
  show jm_E cod_78 (0, [some (jm_r 7 0), some (jm_i a0), some (jm_i a1), some (jm_i a2), none, none, none, none], [], h) r
  refine jm_E_n 4 (x' := (4, [some (jm_r 7 0), some (jm_i a0), some (jm_i a1), some (jm_i a2), none, none, none, none], [jm_i a2, jm_i a1, jm_i a0, jm_r 7 0], h)) rfl ?_
  obtain ⟨v1, h1, hR, H⟩ := H
  refine jm_E_call rfl (Nat.le_of_ble_eq_true rfl) (Nat.le_of_ble_eq_true rfl) rfl hR trivial ?_
  refine jm_E_eq (x := (5, [some (jm_r 7 0), some (jm_i a0), some (jm_i a1), some (jm_i a2), none, none, none, none], [jm_i v1], h1)) rfl ?_
  refine jm_E_n 3 (x' := (if v1 = 0 then 12 else 8, [some (jm_r 7 0), some (jm_i a0), some (jm_i a1), some (jm_i a2), some (jm_i v1), none, none, none], [], h1)) rfl ?_
  refine jm_E_ite (fun hc => ?_) (fun hc => ?_)
  · replace H := H.1 hc
    refine jm_E_n 5 (x' := (17, [some (jm_r 7 0), some (jm_i a0), some (jm_i a1), some (jm_i a2), some (jm_i v1), none, none, none], [jm_i a0, jm_r 28 (h1.2.1 7 0 1), jm_i a1], h1)) rfl ?_
    refine jm_E_aald rfl rfl H.1 ?_
    replace H := H.2
    refine jm_E_eq (x := (18, [some (jm_r 7 0), some (jm_i a0), some (jm_i a1), some (jm_i a2), some (jm_i v1), none, none, none], [jm_r 2 (3 * (h1.2.1 7 0 1) + a0.toNatClampNeg), jm_i a1], h1)) rfl ?_
    refine jm_E_n 4 (x' := (22, [some (jm_r 7 0), some (jm_i a0), some (jm_i a1), some (jm_i a2), some (jm_i v1), none, none, none], [jm_i a2, .inl (.double (FP.i2d (a1 * (h1.1 2 (3 * (h1.2.1 7 0 1) + a0.toNatClampNeg) 0))))], h1)) rfl ?_
    obtain ⟨v2, h2, hR, H⟩ := H
    refine jm_E_call rfl (Nat.le_of_ble_eq_true rfl) (Nat.le_of_ble_eq_true rfl) trivial hR trivial ?_
    refine jm_E_eq (x := (23, [some (jm_r 7 0), some (jm_i a0), some (jm_i a1), some (jm_i a2), some (jm_i v1), none, none, none], [.inl (.double v2), .inl (.double (FP.i2d (a1 * (h1.1 2 (3 * (h1.2.1 7 0 1) + a0.toNatClampNeg) 0))))], h2)) rfl ?_
    obtain ⟨v3, h3, hR, H⟩ := H
    refine jm_E_call rfl (Nat.le_of_ble_eq_true rfl) (Nat.le_of_ble_eq_true rfl) trivial hR trivial ?_
    refine jm_E_eq (x := (24, [some (jm_r 7 0), some (jm_i a0), some (jm_i a1), some (jm_i a2), some (jm_i v1), none, none, none], [.inl (.double v3)], h3)) rfl ?_
    refine jm_E_n 2 (x' := (26, [some (jm_r 7 0), some (jm_i a0), some (jm_i a1), some (jm_i a2), some (jm_i v1), some (.inl (.double v3)), none, none], [.inl (.double v3)], h3)) rfl ?_
    refine jm_E_d2f rfl H.1 ?_
    replace H := H.2
    refine jm_E_eq (x := (27, [some (jm_r 7 0), some (jm_i a0), some (jm_i a1), some (jm_i a2), some (jm_i v1), some (.inl (.double v3)), none, none], [.inl (.float (FP.d2f v3))], h3)) rfl ?_
    refine jm_E_n 3 (x' := (30, [some (jm_r 7 0), some (jm_i a0), some (jm_i a1), some (jm_i a2), some (jm_i v1), some (.inl (.double v3)), none, some (.inl (.float (FP.d2f v3)))], [.inl (.float (FP.d2f v3)), jm_r 7 0], h3)) rfl ?_
    refine jm_E_f2d rfl H.1 ?_
    replace H := H.2
    refine jm_E_eq (x := (31, [some (jm_r 7 0), some (jm_i a0), some (jm_i a1), some (jm_i a2), some (jm_i v1), some (.inl (.double v3)), none, some (.inl (.float (FP.d2f v3)))], [.inl (.double (FP.f2d (FP.d2f v3))), jm_r 7 0], h3)) rfl ?_
    refine jm_E_n 2 (x' := (33, [some (jm_r 7 0), some (jm_i a0), some (jm_i a1), some (jm_i a2), some (jm_i v1), some (.inl (.double v3)), none, some (.inl (.float (FP.d2f v3)))], [jm_i 127, jm_i 23, .inl (.double (FP.f2d (FP.d2f v3))), jm_r 7 0], h3)) rfl ?_
    obtain ⟨v4, h4, hR, H⟩ := H
    refine jm_E_call rfl (Nat.le_of_ble_eq_true rfl) (Nat.le_of_ble_eq_true rfl) trivial hR trivial ?_
    refine jm_E_eq (x := (34, [some (jm_r 7 0), some (jm_i a0), some (jm_i a1), some (jm_i a2), some (jm_i v1), some (.inl (.double v3)), none, some (.inl (.float (FP.d2f v3)))], [.inl (.long v4), jm_r 7 0], h4)) rfl ?_
    refine jm_E_n 1 (x' := (35, [some (jm_r 7 0), some (jm_i a0), some (jm_i a1), some (jm_i a2), some (jm_i v1), some (.inl (.double v3)), none, some (.inl (.float (FP.d2f v3)))], [jm_i v4.toInt32, jm_r 7 0], h4)) rfl ?_
    obtain ⟨v5, h5, hR, H⟩ := H
    refine jm_E_call rfl (Nat.le_of_ble_eq_true rfl) (Nat.le_of_ble_eq_true rfl) rfl hR trivial ?_
    refine jm_E_eq (x := (36, [some (jm_r 7 0), some (jm_i a0), some (jm_i a1), some (jm_i a2), some (jm_i v1), some (.inl (.double v3)), none, some (.inl (.float (FP.d2f v3)))], [jm_i v5], h5)) rfl ?_
    exact jm_E_ret rfl (by rw [H]; rfl)
  · replace H := H.2 hc
    refine jm_E_n 2 (x' := (10, [some (jm_r 7 0), some (jm_i a0), some (jm_i a1), some (jm_i a2), some (jm_i v1), none, none, none], [jm_i v1, jm_r 7 0], h1)) rfl ?_
    obtain ⟨v6, h6, hR, H⟩ := H
    refine jm_E_call rfl (Nat.le_of_ble_eq_true rfl) (Nat.le_of_ble_eq_true rfl) rfl hR trivial ?_
    refine jm_E_eq (x := (11, [some (jm_r 7 0), some (jm_i a0), some (jm_i a1), some (jm_i a2), some (jm_i v1), none, none, none], [jm_i v6], h6)) rfl ?_
    exact jm_E_ret rfl (by rw [H]; rfl)
set_option maxRecDepth 100000 in
theorem wp_Table_emptyFrame_4 {x0 : Nat} {x2 : Int32} {x3 : Int32} {h : jm_H} {r : jm_Rs} (H :
  ((h.1 6 x0 1) = 0 →
    r = (some (jm_i (-1)), h)) ∧
  (¬ ((h.1 6 x0 1) = 0) →
    ((h.1 1 x0 2) ≤ x3 →
      r = (some (jm_i (-1)), h)) ∧
    (¬ ((h.1 1 x0 2) ≤ x3) →
      jm_in x3 24 ∧
      ((h.1 19 x0 x3.toNatClampNeg) = (h.1 1 x0 1) →
        (x2 = 0 →
          r = (some (jm_i x3), h)) ∧
        (¬ (x2 = 0) →
          l_Table_emptyFrame_4 x0 (x2 + (-1)) (x3 + 1) h r)) ∧
      (¬ ((h.1 19 x0 x3.toNatClampNeg) = (h.1 1 x0 1)) →
        l_Table_emptyFrame_4 x0 x2 (x3 + 1) h r)))) : l_Table_emptyFrame_4 x0 x2 x3 h r := by
  refine jm_E_n 3 (x' := (if (h.1 6 x0 1) = 0 then 28 else 7, [some (jm_r 6 x0), none, some (jm_i x2), some (jm_i x3)], [], h)) rfl ?_
  refine jm_E_ite (fun hc => ?_) (fun hc => ?_)
  · replace H := H.1 hc
    refine jm_E_n 1 (x' := (29, [some (jm_r 6 x0), none, some (jm_i x2), some (jm_i x3)], [jm_i (-1)], h)) rfl ?_
    exact jm_E_ret rfl (by rw [H]; rfl)
  · replace H := H.2 hc
    refine jm_E_n 5 (x' := (if (h.1 1 x0 2) ≤ x3 then 28 else 12, [some (jm_r 6 x0), none, some (jm_i x2), some (jm_i x3)], [], h)) rfl ?_
    refine jm_E_ite (fun hc => ?_) (fun hc => ?_)
    · replace H := H.1 hc
      refine jm_E_n 1 (x' := (29, [some (jm_r 6 x0), none, some (jm_i x2), some (jm_i x3)], [jm_i (-1)], h)) rfl ?_
      exact jm_E_ret rfl (by rw [H]; rfl)
    · replace H := H.2 hc
      refine jm_E_n 4 (x' := (16, [some (jm_r 6 x0), none, some (jm_i x2), some (jm_i x3)], [jm_i x3, jm_r 19 x0], h)) rfl ?_
      refine jm_E_iald rfl rfl H.1 ?_
      replace H := H.2
      refine jm_E_eq (x := (17, [some (jm_r 6 x0), none, some (jm_i x2), some (jm_i x3)], [jm_i (h.1 19 x0 x3.toNatClampNeg)], h)) rfl ?_
      refine jm_E_n 4 (x' := (if (h.1 19 x0 x3.toNatClampNeg) = (h.1 1 x0 1) then 21 else 26, [some (jm_r 6 x0), none, some (jm_i x2), some (jm_i x3)], [], h)) rfl ?_
      refine jm_E_ite (fun hc => ?_) (fun hc => ?_)
      · replace H := H.1 hc
        refine jm_E_n 2 (x' := (if x2 = 0 then 23 else 25, [some (jm_r 6 x0), none, some (jm_i x2), some (jm_i x3)], [], h)) rfl ?_
        refine jm_E_ite (fun hc => ?_) (fun hc => ?_)
        · replace H := H.1 hc
          refine jm_E_n 1 (x' := (24, [some (jm_r 6 x0), none, some (jm_i x2), some (jm_i x3)], [jm_i x3], h)) rfl ?_
          exact jm_E_ret rfl (by rw [H]; rfl)
        · replace H := H.2 hc
          refine jm_E_n 3 (x' := (4, [some (jm_r 6 x0), none, some (jm_i (x2 + (-1))), some (jm_i (x3 + 1))], [], h)) rfl ?_
          exact H
      · replace H := H.2 hc
        refine jm_E_n 2 (x' := (4, [some (jm_r 6 x0), none, some (jm_i x2), some (jm_i (x3 + 1))], [], h)) rfl ?_
        exact H
set_option maxRecDepth 100000 in
theorem wp_Table_emptyFrame {o : Nat} {a0 : Int32} {h : jm_H} {r : jm_Rs} (H :
  l_Table_emptyFrame_4 o a0 0 h r) : jm_R 271 [jm_r 6 o, jm_i a0] h r := by
  refine jm_R_of hz_271 (Nat.le_of_ble_eq_true rfl) ?_
  show jm_E cod_271 (0, [some (jm_r 6 o), some (jm_i a0), none, none], [], h) r
  refine jm_E_n 4 (x' := (4, [some (jm_r 6 o), some (jm_i a0), some (jm_i a0), some (jm_i 0)], [], h)) rfl ?_
  exact jm_E_weak (jm_le_s (jm_le_n (jm_le_s (jm_le_s jm_le_nil)))) H
set_option maxRecDepth 100000 in
theorem wp_FR_idle {a0 : Int32} {h : jm_H} {r : jm_Rs} (H :
  ((h.1 3 (h.2.1 7 0 1) 0) = 0 →
    False) ∧
  (¬ ((h.1 3 (h.2.1 7 0 1) 0) = 0) →
    (0 ≤ a0 →
      jm_in (h.1 0 0 1) 3 ∧
      ∃ (v1 : Int32) (h1 : jm_H), m_Table_emptyFrame (3 * 0 + (h.1 0 0 1).toNatClampNeg) a0 h v1 h1 ∧
      (0 ≤ v1 →
        r = (some (jm_i v1), h1)) ∧
      (¬ (0 ≤ v1) →
        False)) ∧
    (¬ (0 ≤ a0) →
      False))) : jm_R 80 [jm_r 7 0, jm_i a0] h r := by
  refine jm_R_of hz_80 (Nat.le_of_ble_eq_true rfl) ?_
  show jm_E cod_80 (0, [some (jm_r 7 0), some (jm_i a0), none], [], h) r
  refine jm_E_n 4 (x' := (if (h.1 3 (h.2.1 7 0 1) 0) = 0 then 6 else 4, [some (jm_r 7 0), some (jm_i a0), none], [], h)) rfl ?_
  refine jm_E_ite (fun hc => ?_) (fun hc => ?_)
  · replace H := H.1 hc
    exact H.elim
  · replace H := H.2 hc
    refine jm_E_n 2 (x' := (if 0 ≤ a0 then 10 else 6, [some (jm_r 7 0), some (jm_i a0), none], [], h)) rfl ?_
    refine jm_E_ite (fun hc => ?_) (fun hc => ?_)
    · replace H := H.1 hc
      refine jm_E_n 5 (x' := (15, [some (jm_r 7 0), some (jm_i a0), none], [jm_i (h.1 0 0 1), jm_r 32 0], h)) rfl ?_
      refine jm_E_aald rfl rfl H.1 ?_
      replace H := H.2
      refine jm_E_eq (x := (16, [some (jm_r 7 0), some (jm_i a0), none], [jm_r 6 (3 * 0 + (h.1 0 0 1).toNatClampNeg)], h)) rfl ?_
      refine jm_E_n 1 (x' := (17, [some (jm_r 7 0), some (jm_i a0), none], [jm_i a0, jm_r 6 (3 * 0 + (h.1 0 0 1).toNatClampNeg)], h)) rfl ?_
      obtain ⟨v1, h1, hR, H⟩ := H
      refine jm_E_call rfl (Nat.le_of_ble_eq_true rfl) (Nat.le_of_ble_eq_true rfl) rfl hR trivial ?_
      refine jm_E_eq (x := (18, [some (jm_r 7 0), some (jm_i a0), none], [jm_i v1], h1)) rfl ?_
      refine jm_E_n 3 (x' := (if 0 ≤ v1 then 25 else 21, [some (jm_r 7 0), some (jm_i a0), some (jm_i v1)], [], h1)) rfl ?_
      refine jm_E_ite (fun hc => ?_) (fun hc => ?_)
      · replace H := H.1 hc
        refine jm_E_n 1 (x' := (26, [some (jm_r 7 0), some (jm_i a0), some (jm_i v1)], [jm_i v1], h1)) rfl ?_
        exact jm_E_ret rfl (by rw [H]; rfl)
      · replace H := H.2 hc
        exact H.elim
    · replace H := H.2 hc
      exact H.elim
set_option maxRecDepth 100000 in
theorem wp_Plan_allTasks_4 {x0 : Nat} {x1 : Int32} {x2 : Int32} {h : jm_H} {r : jm_Rs} (H :
  ((h.1 3 x0 0) ≤ x2 →
    r = (some (jm_i x1), h)) ∧
  (¬ ((h.1 3 x0 0) ≤ x2) →
    jm_in x2 3 ∧
    l_Plan_allTasks_4 x0 (x1 + (h.1 2 (3 * x0 + x2.toNatClampNeg) 2)) (x2 + 1) h r)) : l_Plan_allTasks_4 x0 x1 x2 h r := by
  refine jm_E_n 4 (x' := (if (h.1 3 x0 0) ≤ x2 then 18 else 8, [some (jm_r 3 x0), some (jm_i x1), some (jm_i x2)], [], h)) rfl ?_
  refine jm_E_ite (fun hc => ?_) (fun hc => ?_)
  · replace H := H.1 hc
    refine jm_E_n 1 (x' := (19, [some (jm_r 3 x0), some (jm_i x1), some (jm_i x2)], [jm_i x1], h)) rfl ?_
    exact jm_E_ret rfl (by rw [H]; rfl)
  · replace H := H.2 hc
    refine jm_E_n 4 (x' := (12, [some (jm_r 3 x0), some (jm_i x1), some (jm_i x2)], [jm_i x2, jm_r 28 x0, jm_i x1], h)) rfl ?_
    refine jm_E_aald rfl rfl H.1 ?_
    replace H := H.2
    refine jm_E_eq (x := (13, [some (jm_r 3 x0), some (jm_i x1), some (jm_i x2)], [jm_r 2 (3 * x0 + x2.toNatClampNeg), jm_i x1], h)) rfl ?_
    refine jm_E_n 5 (x' := (4, [some (jm_r 3 x0), some (jm_i (x1 + (h.1 2 (3 * x0 + x2.toNatClampNeg) 2))), some (jm_i (x2 + 1))], [], h)) rfl ?_
    exact H
set_option maxRecDepth 100000 in
theorem wp_Plan_allTasks {o : Nat} {h : jm_H} {r : jm_Rs} (H :
  l_Plan_allTasks_4 o 0 0 h r) : jm_R 238 [jm_r 3 o] h r := by
  refine jm_R_of hz_238 (Nat.le_of_ble_eq_true rfl) ?_
  show jm_E cod_238 (0, [some (jm_r 3 o), none, none], [], h) r
  refine jm_E_n 4 (x' := (4, [some (jm_r 3 o), some (jm_i 0), some (jm_i 0)], [], h)) rfl ?_
  exact H
set_option maxRecDepth 100000 in
theorem wp_Plan_allJobs_4 {x0 : Nat} {x1 : Int32} {x2 : Int32} {h : jm_H} {r : jm_Rs} (H :
  ((h.1 3 x0 0) ≤ x2 →
    r = (some (jm_i x1), h)) ∧
  (¬ ((h.1 3 x0 0) ≤ x2) →
    jm_in x2 3 ∧
    l_Plan_allJobs_4 x0 (x1 + (h.1 2 (3 * x0 + x2.toNatClampNeg) 3)) (x2 + 1) h r)) : l_Plan_allJobs_4 x0 x1 x2 h r := by
  refine jm_E_n 4 (x' := (if (h.1 3 x0 0) ≤ x2 then 18 else 8, [some (jm_r 3 x0), some (jm_i x1), some (jm_i x2)], [], h)) rfl ?_
  refine jm_E_ite (fun hc => ?_) (fun hc => ?_)
  · replace H := H.1 hc
    refine jm_E_n 1 (x' := (19, [some (jm_r 3 x0), some (jm_i x1), some (jm_i x2)], [jm_i x1], h)) rfl ?_
    exact jm_E_ret rfl (by rw [H]; rfl)
  · replace H := H.2 hc
    refine jm_E_n 4 (x' := (12, [some (jm_r 3 x0), some (jm_i x1), some (jm_i x2)], [jm_i x2, jm_r 28 x0, jm_i x1], h)) rfl ?_
    refine jm_E_aald rfl rfl H.1 ?_
    replace H := H.2
    refine jm_E_eq (x := (13, [some (jm_r 3 x0), some (jm_i x1), some (jm_i x2)], [jm_r 2 (3 * x0 + x2.toNatClampNeg), jm_i x1], h)) rfl ?_
    refine jm_E_n 5 (x' := (4, [some (jm_r 3 x0), some (jm_i (x1 + (h.1 2 (3 * x0 + x2.toNatClampNeg) 3))), some (jm_i (x2 + 1))], [], h)) rfl ?_
    exact H
set_option maxRecDepth 100000 in
theorem wp_Plan_allJobs {o : Nat} {h : jm_H} {r : jm_Rs} (H :
  l_Plan_allJobs_4 o 0 0 h r) : jm_R 239 [jm_r 3 o] h r := by
  refine jm_R_of hz_239 (Nat.le_of_ble_eq_true rfl) ?_
  show jm_E cod_239 (0, [some (jm_r 3 o), none, none], [], h) r
  refine jm_E_n 4 (x' := (4, [some (jm_r 3 o), some (jm_i 0), some (jm_i 0)], [], h)) rfl ?_
  exact H
set_option maxRecDepth 100000 in
theorem wp_FR_size {a0 : Int32} {h : jm_H} {r : jm_Rs} (H :
  (a0 = 0 →
    r = (some (jm_i (h.1 3 (h.2.1 7 0 1) 0)), h)) ∧
  (a0 = 1 →
    ∃ (v1 : Int32) (h1 : jm_H), m_Plan_allTasks (h.2.1 7 0 1) h v1 h1 ∧
    r = (some (jm_i v1), h1)) ∧
  (a0 = 2 →
    ∃ (v2 : Int32) (h2 : jm_H), m_Plan_allJobs (h.2.1 7 0 1) h v2 h2 ∧
    r = (some (jm_i v2), h2)) ∧
  (a0 = 3 →
    r = (some (jm_i (h.1 4 0 1)), h)) ∧
  (a0 = 4 →
    ((h.1 7 0 7) = 0 →
      r = (some (jm_i 0), h)) ∧
    (¬ ((h.1 7 0 7) = 0) →
      r = (some (jm_i 1), h))) ∧
  (a0.toInt < 0 ∨ 5 ≤ a0.toInt →
    r = (some (jm_i (-1)), h))) : jm_R 81 [jm_r 7 0, jm_i a0] h r := by
  refine jm_R_of hz_81 (Nat.le_of_ble_eq_true rfl) ?_
  show jm_E cod_81 (0, [some (jm_r 7 0), some (jm_i a0)], [], h) r
  refine jm_E_n 2 (x' := (if a0.toInt < 0 ∨ 0 + (5 : Nat) ≤ a0.toInt then 25 else ([2, 6, 10, 14, 18] : List Nat).getD (a0.toInt - 0).toNat 0, [some (jm_r 7 0), some (jm_i a0)], [], h)) rfl ?_
  obtain ⟨H0, H1, H2, H3, H4, HD⟩ := H
  refine jm_E_tsw5 (fun hc => ?_) (fun hc => ?_) (fun hc => ?_) (fun hc => ?_) (fun hc => ?_) (fun hc => ?_)
  · replace H := HD hc
    refine jm_E_n 1 (x' := (26, [some (jm_r 7 0), some (jm_i a0)], [jm_i (-1)], h)) rfl ?_
    exact jm_E_ret rfl (by rw [H]; rfl)
  · replace H := H0 hc
    refine jm_E_n 3 (x' := (5, [some (jm_r 7 0), some (jm_i a0)], [jm_i (h.1 3 (h.2.1 7 0 1) 0)], h)) rfl ?_
    exact jm_E_ret rfl (by rw [H]; rfl)
  · replace H := H1 hc
    refine jm_E_n 2 (x' := (8, [some (jm_r 7 0), some (jm_i a0)], [jm_r 3 (h.2.1 7 0 1)], h)) rfl ?_
    obtain ⟨v1, h1, hR, H⟩ := H
    refine jm_E_call rfl (Nat.le_of_ble_eq_true rfl) (Nat.le_of_ble_eq_true rfl) rfl hR trivial ?_
    refine jm_E_eq (x := (9, [some (jm_r 7 0), some (jm_i a0)], [jm_i v1], h1)) rfl ?_
    exact jm_E_ret rfl (by rw [H]; rfl)
  · replace H := H2 hc
    refine jm_E_n 2 (x' := (12, [some (jm_r 7 0), some (jm_i a0)], [jm_r 3 (h.2.1 7 0 1)], h)) rfl ?_
    obtain ⟨v2, h2, hR, H⟩ := H
    refine jm_E_call rfl (Nat.le_of_ble_eq_true rfl) (Nat.le_of_ble_eq_true rfl) rfl hR trivial ?_
    refine jm_E_eq (x := (13, [some (jm_r 7 0), some (jm_i a0)], [jm_i v2], h2)) rfl ?_
    exact jm_E_ret rfl (by rw [H]; rfl)
  · replace H := H3 hc
    refine jm_E_n 3 (x' := (17, [some (jm_r 7 0), some (jm_i a0)], [jm_i (h.1 4 0 1)], h)) rfl ?_
    exact jm_E_ret rfl (by rw [H]; rfl)
  · replace H := H4 hc
    refine jm_E_n 3 (x' := (if (h.1 7 0 7) = 0 then 23 else 21, [some (jm_r 7 0), some (jm_i a0)], [], h)) rfl ?_
    refine jm_E_ite (fun hc => ?_) (fun hc => ?_)
    · replace H := H.1 hc
      refine jm_E_n 1 (x' := (24, [some (jm_r 7 0), some (jm_i a0)], [jm_i 0], h)) rfl ?_
      exact jm_E_ret rfl (by rw [H]; rfl)
    · replace H := H.2 hc
      refine jm_E_n 2 (x' := (24, [some (jm_r 7 0), some (jm_i a0)], [jm_i 1], h)) rfl ?_
      exact jm_E_ret rfl (by rw [H]; rfl)
set_option maxRecDepth 100000 in
theorem wp_FR_trouble  {h : jm_H} {r : jm_Rs} (H :
  r = (some (jm_i (h.1 7 0 8)), h)) : jm_R 82 [jm_r 7 0] h r := by
  refine jm_R_of hz_82 (Nat.le_of_ble_eq_true rfl) ?_
  show jm_E cod_82 (0, [some (jm_r 7 0)], [], h) r
  refine jm_E_n 2 (x' := (2, [some (jm_r 7 0)], [jm_i (h.1 7 0 8)], h)) rfl ?_
  exact jm_E_ret rfl (by rw [H]; rfl)
set_option maxRecDepth 100000 in
theorem wp_M_thrown  {h : jm_H} {r : jm_Rs} (H :
  r = (some (jm_i (h.1 8 0 0)), h)) : jm_R 84 [jm_r 8 0] h r := by
  refine jm_R_of hz_84 (Nat.le_of_ble_eq_true rfl) ?_
  show jm_E cod_84 (0, [some (jm_r 8 0)], [], h) r
  refine jm_E_n 2 (x' := (2, [some (jm_r 8 0)], [jm_i (h.1 8 0 0)], h)) rfl ?_
  exact jm_E_ret rfl (by rw [H]; rfl)
set_option maxRecDepth 100000 in
theorem wp_M_in {a0 : Int32} {a1 : Int32} {a2 : Int32} {h : jm_H} {r : jm_Rs} (H :
  (a0 < a1 →
    r = (some (jm_i 0), h)) ∧
  (¬ (a0 < a1) →
    (a2 < a0 →
      r = (some (jm_i 0), h)) ∧
    (¬ (a2 < a0) →
      r = (some (jm_i 1), h)))) : jm_R 85 [jm_i a0, jm_i a1, jm_i a2] h r := by
  refine jm_R_of hz_85 (Nat.le_of_ble_eq_true rfl) ?_
  show jm_E cod_85 (0, [some (jm_i a0), some (jm_i a1), some (jm_i a2)], [], h) r
  refine jm_E_n 3 (x' := (if a0 < a1 then 8 else 3, [some (jm_i a0), some (jm_i a1), some (jm_i a2)], [], h)) rfl ?_
  refine jm_E_ite (fun hc => ?_) (fun hc => ?_)
  · replace H := H.1 hc
    refine jm_E_n 1 (x' := (9, [some (jm_i a0), some (jm_i a1), some (jm_i a2)], [jm_i 0], h)) rfl ?_
    exact jm_E_ret rfl (by rw [H]; rfl)
  · replace H := H.2 hc
    refine jm_E_n 3 (x' := (if a2 < a0 then 8 else 6, [some (jm_i a0), some (jm_i a1), some (jm_i a2)], [], h)) rfl ?_
    refine jm_E_ite (fun hc => ?_) (fun hc => ?_)
    · replace H := H.1 hc
      refine jm_E_n 1 (x' := (9, [some (jm_i a0), some (jm_i a1), some (jm_i a2)], [jm_i 0], h)) rfl ?_
      exact jm_E_ret rfl (by rw [H]; rfl)
    · replace H := H.2 hc
      refine jm_E_n 2 (x' := (9, [some (jm_i a0), some (jm_i a1), some (jm_i a2)], [jm_i 1], h)) rfl ?_
      exact jm_E_ret rfl (by rw [H]; rfl)
set_option maxRecDepth 100000 in
theorem wp_M_anew  {h : jm_H} {r : jm_Rs} (H :
  r = (none, (jm_sI (jm_sI (jm_sI h 8 0 0 0) 8 0 1 0) 8 0 3 (-1)))) : jm_R 86 [jm_r 8 0] h r := by
  refine jm_R_of hz_86 (Nat.le_of_ble_eq_true rfl) ?_
  show jm_E cod_86 (0, [some (jm_r 8 0)], [], h) r
  refine jm_E_n 9 (x' := (9, [some (jm_r 8 0)], [], (jm_sI (jm_sI (jm_sI h 8 0 0 0) 8 0 1 0) 8 0 3 (-1)))) rfl ?_
  exact jm_E_ret rfl (by rw [H]; rfl)
set_option maxRecDepth 100000 in
theorem wp_M_no {a0 : Int32} {h : jm_H} {r : jm_Rs} (H :
  r = (some (jm_i (-1)), (jm_sI h 8 0 1 a0))) : jm_R 87 [jm_r 8 0, jm_i a0] h r := by
  refine jm_R_of hz_87 (Nat.le_of_ble_eq_true rfl) ?_
  show jm_E cod_87 (0, [some (jm_r 8 0), some (jm_i a0)], [], h) r
  refine jm_E_n 4 (x' := (4, [some (jm_r 8 0), some (jm_i a0)], [jm_i (-1)], (jm_sI h 8 0 1 a0))) rfl ?_
  exact jm_E_ret rfl (by rw [H]; rfl)
set_option maxRecDepth 100000 in
theorem wp_M_laysWord_2 {x1 : Int32} {x2 : Int32} {h : jm_H} {r : jm_Rs} (H :
  (4 ≤ x2 →
    r = (none, (jm_sI h 8 0 5 ((h.1 8 0 5) + 4)))) ∧
  (¬ (4 ≤ x2) →
    jm_in ((h.1 8 0 5) + x2) 700 ∧
    l_M_laysWord_2 x1 (x2 + 1) (jm_sI h 33 0 (((h.1 8 0 5) + x2).toNatClampNeg) ((x1 >>> ((24 - (8 * x2)) &&& 31)) &&& 255)) r)) : l_M_laysWord_2 x1 x2 h r := by
  refine jm_E_n 3 (x' := (if 4 ≤ x2 then 23 else 5, [some (jm_r 8 0), some (jm_i x1), some (jm_i x2)], [], h)) rfl ?_
  refine jm_E_ite (fun hc => ?_) (fun hc => ?_)
  · replace H := H.1 hc
    refine jm_E_n 6 (x' := (29, [some (jm_r 8 0), some (jm_i x1), some (jm_i x2)], [], (jm_sI h 8 0 5 ((h.1 8 0 5) + 4)))) rfl ?_
    exact jm_E_ret rfl (by rw [H]; rfl)
  · replace H := H.2 hc
    refine jm_E_n 15 (x' := (20, [some (jm_r 8 0), some (jm_i x1), some (jm_i x2)], [jm_i ((x1 >>> ((24 - (8 * x2)) &&& 31)) &&& 255), jm_i ((h.1 8 0 5) + x2), jm_r 33 0], h)) rfl ?_
    refine jm_E_iast rfl rfl H.1 ?_
    replace H := H.2
    refine jm_E_eq (x := (21, [some (jm_r 8 0), some (jm_i x1), some (jm_i x2)], [], (jm_sI h 33 0 (((h.1 8 0 5) + x2).toNatClampNeg) ((x1 >>> ((24 - (8 * x2)) &&& 31)) &&& 255)))) rfl ?_
    refine jm_E_n 2 (x' := (2, [some (jm_r 8 0), some (jm_i x1), some (jm_i (x2 + 1))], [], (jm_sI h 33 0 (((h.1 8 0 5) + x2).toNatClampNeg) ((x1 >>> ((24 - (8 * x2)) &&& 31)) &&& 255)))) rfl ?_
    exact H
set_option maxRecDepth 100000 in
theorem wp_M_laysWord {a0 : Int32} {h : jm_H} {r : jm_Rs} (H :
  l_M_laysWord_2 a0 0 h r) : jm_R 89 [jm_r 8 0, jm_i a0] h r := by
  refine jm_R_of hz_89 (Nat.le_of_ble_eq_true rfl) ?_
  show jm_E cod_89 (0, [some (jm_r 8 0), some (jm_i a0), none], [], h) r
  refine jm_E_n 2 (x' := (2, [some (jm_r 8 0), some (jm_i a0), some (jm_i 0)], [], h)) rfl ?_
  exact H
set_option maxRecDepth 100000 in
theorem wp_M_feed {a0 : Int32} {a1 : Int32} {a2 : Int32} {a3 : Int32} {a4 : Int32} {h : jm_H} {r : jm_Rs} (H :
  ((h.1 8 0 5) ≤ 680 →
    ∃ h1 : jm_H, m_M_laysWord a0 (jm_sI h 8 0 0 0) h1 ∧
    ∃ h2 : jm_H, m_M_laysWord a1 h1 h2 ∧
    ∃ h3 : jm_H, m_M_laysWord a2 h2 h3 ∧
    ∃ h4 : jm_H, m_M_laysWord a3 h3 h4 ∧
    ∃ h5 : jm_H, m_M_laysWord a4 h4 h5 ∧
    r = (some (jm_i (h5.1 8 0 5)), h5)) ∧
  (¬ ((h.1 8 0 5) ≤ 680) →
    r = (some (jm_i (-1)), (jm_sI h 8 0 0 0)))) : jm_R 88 [jm_r 8 0, jm_i a0, jm_i a1, jm_i a2, jm_i a3, jm_i a4] h r := by
  refine jm_R_of hz_88 (Nat.le_of_ble_eq_true rfl) ?_
  show jm_E cod_88 (0, [some (jm_r 8 0), some (jm_i a0), some (jm_i a1), some (jm_i a2), some (jm_i a3), some (jm_i a4)], [], h) r
  refine jm_E_n 7 (x' := (if (h.1 8 0 5) ≤ 680 then 9 else 7, [some (jm_r 8 0), some (jm_i a0), some (jm_i a1), some (jm_i a2), some (jm_i a3), some (jm_i a4)], [], (jm_sI h 8 0 0 0))) rfl ?_
  refine jm_E_ite (fun hc => ?_) (fun hc => ?_)
  · replace H := H.1 hc
    refine jm_E_n 2 (x' := (11, [some (jm_r 8 0), some (jm_i a0), some (jm_i a1), some (jm_i a2), some (jm_i a3), some (jm_i a4)], [jm_i a0, jm_r 8 0], (jm_sI h 8 0 0 0))) rfl ?_
    obtain ⟨h1, hR, H⟩ := H
    refine jm_E_call rfl (Nat.le_of_ble_eq_true rfl) (Nat.le_of_ble_eq_true rfl) rfl hR trivial ?_
    refine jm_E_eq (x := (12, [some (jm_r 8 0), some (jm_i a0), some (jm_i a1), some (jm_i a2), some (jm_i a3), some (jm_i a4)], [], h1)) rfl ?_
    refine jm_E_n 2 (x' := (14, [some (jm_r 8 0), some (jm_i a0), some (jm_i a1), some (jm_i a2), some (jm_i a3), some (jm_i a4)], [jm_i a1, jm_r 8 0], h1)) rfl ?_
    obtain ⟨h2, hR, H⟩ := H
    refine jm_E_call rfl (Nat.le_of_ble_eq_true rfl) (Nat.le_of_ble_eq_true rfl) rfl hR trivial ?_
    refine jm_E_eq (x := (15, [some (jm_r 8 0), some (jm_i a0), some (jm_i a1), some (jm_i a2), some (jm_i a3), some (jm_i a4)], [], h2)) rfl ?_
    refine jm_E_n 2 (x' := (17, [some (jm_r 8 0), some (jm_i a0), some (jm_i a1), some (jm_i a2), some (jm_i a3), some (jm_i a4)], [jm_i a2, jm_r 8 0], h2)) rfl ?_
    obtain ⟨h3, hR, H⟩ := H
    refine jm_E_call rfl (Nat.le_of_ble_eq_true rfl) (Nat.le_of_ble_eq_true rfl) rfl hR trivial ?_
    refine jm_E_eq (x := (18, [some (jm_r 8 0), some (jm_i a0), some (jm_i a1), some (jm_i a2), some (jm_i a3), some (jm_i a4)], [], h3)) rfl ?_
    refine jm_E_n 2 (x' := (20, [some (jm_r 8 0), some (jm_i a0), some (jm_i a1), some (jm_i a2), some (jm_i a3), some (jm_i a4)], [jm_i a3, jm_r 8 0], h3)) rfl ?_
    obtain ⟨h4, hR, H⟩ := H
    refine jm_E_call rfl (Nat.le_of_ble_eq_true rfl) (Nat.le_of_ble_eq_true rfl) rfl hR trivial ?_
    refine jm_E_eq (x := (21, [some (jm_r 8 0), some (jm_i a0), some (jm_i a1), some (jm_i a2), some (jm_i a3), some (jm_i a4)], [], h4)) rfl ?_
    refine jm_E_n 2 (x' := (23, [some (jm_r 8 0), some (jm_i a0), some (jm_i a1), some (jm_i a2), some (jm_i a3), some (jm_i a4)], [jm_i a4, jm_r 8 0], h4)) rfl ?_
    obtain ⟨h5, hR, H⟩ := H
    refine jm_E_call rfl (Nat.le_of_ble_eq_true rfl) (Nat.le_of_ble_eq_true rfl) rfl hR trivial ?_
    refine jm_E_eq (x := (24, [some (jm_r 8 0), some (jm_i a0), some (jm_i a1), some (jm_i a2), some (jm_i a3), some (jm_i a4)], [], h5)) rfl ?_
    refine jm_E_n 2 (x' := (26, [some (jm_r 8 0), some (jm_i a0), some (jm_i a1), some (jm_i a2), some (jm_i a3), some (jm_i a4)], [jm_i (h5.1 8 0 5)], h5)) rfl ?_
    exact jm_E_ret rfl (by rw [H]; rfl)
  · replace H := H.2 hc
    refine jm_E_n 1 (x' := (8, [some (jm_r 8 0), some (jm_i a0), some (jm_i a1), some (jm_i a2), some (jm_i a3), some (jm_i a4)], [jm_i (-1)], (jm_sI h 8 0 0 0))) rfl ?_
    exact jm_E_ret rfl (by rw [H]; rfl)
set_option maxRecDepth 100000 in
theorem wp_M_common_4 {x2 : Int32} {x3 : Int32} {h : jm_H} {r : jm_Rs} (H :
  (x3 = 0 →
    r = (some (jm_i x2), h)) ∧
  (¬ (x3 = 0) →
    ¬ x3 = 0 ∧
    l_M_common_4 x3 (x2 - x2 / x3 * x3) h r)) : l_M_common_4 x2 x3 h r := by
  refine jm_E_n 2 (x' := (if x3 = 0 then 15 else 6, [none, none, some (jm_i x2), some (jm_i x3), none], [], h)) rfl ?_
  refine jm_E_ite (fun hc => ?_) (fun hc => ?_)
  · replace H := H.1 hc
    refine jm_E_n 1 (x' := (16, [none, none, some (jm_i x2), some (jm_i x3), none], [jm_i x2], h)) rfl ?_
    exact jm_E_ret rfl (by rw [H]; rfl)
  · replace H := H.2 hc
    refine jm_E_n 2 (x' := (8, [none, none, some (jm_i x2), some (jm_i x3), none], [jm_i x3, jm_i x2], h)) rfl ?_
    refine jm_E_irem rfl H.1 ?_
    replace H := H.2
    refine jm_E_eq (x := (9, [none, none, some (jm_i x2), some (jm_i x3), none], [jm_i (x2 - x2 / x3 * x3)], h)) rfl ?_
    refine jm_E_n 6 (x' := (4, [none, none, some (jm_i x3), some (jm_i (x2 - x2 / x3 * x3)), some (jm_i (x2 - x2 / x3 * x3))], [], h)) rfl ?_
    exact jm_E_weak (jm_le_n (jm_le_n (jm_le_s (jm_le_s (jm_le_n jm_le_nil))))) H
set_option maxRecDepth 100000 in
theorem wp_M_common {a0 : Int32} {a1 : Int32} {h : jm_H} {r : jm_Rs} (H :
  l_M_common_4 a0 a1 h r) : jm_R 90 [jm_i a0, jm_i a1] h r := by
  refine jm_R_of hz_90 (Nat.le_of_ble_eq_true rfl) ?_
  show jm_E cod_90 (0, [some (jm_i a0), some (jm_i a1), none, none, none], [], h) r
  refine jm_E_n 4 (x' := (4, [some (jm_i a0), some (jm_i a1), some (jm_i a0), some (jm_i a1), none], [], h)) rfl ?_
  exact jm_E_weak (jm_le_n (jm_le_n (jm_le_s (jm_le_s (jm_le_n jm_le_nil))))) H
set_option maxRecDepth 100000 in
theorem wp_M_roundWith_4 {x1 : Int32} {x3 : Int32} {x4 : Int32} {h : jm_H} {r : jm_Rs} (H :
  jm_in x1 6 ∧
  ((h.1 36 0 x1.toNatClampNeg) ≤ x4 →
    r = (some (jm_i x3), h)) ∧
  (¬ ((h.1 36 0 x1.toNatClampNeg) ≤ x4) →
    jm_in ((6 * x1) + x4) 36 ∧
    ∃ (v1 : Int32) (h1 : jm_H), m_M_common x3 (h.1 39 0 (((6 * x1) + x4).toNatClampNeg)) h v1 h1 ∧
    ¬ v1 = 0 ∧
    jm_in ((6 * x1) + x4) 36 ∧
    l_M_roundWith_4 x1 ((x3 / v1) * (h1.1 39 0 (((6 * x1) + x4).toNatClampNeg))) (x4 + 1) h1 r)) : l_M_roundWith_4 x1 x3 x4 h r := by
  refine jm_E_n 4 (x' := (8, [some (jm_r 8 0), some (jm_i x1), none, some (jm_i x3), some (jm_i x4)], [jm_i x1, jm_r 36 0, jm_i x4], h)) rfl ?_
  refine jm_E_iald rfl rfl H.1 ?_
  replace H := H.2
  refine jm_E_eq (x := (9, [some (jm_r 8 0), some (jm_i x1), none, some (jm_i x3), some (jm_i x4)], [jm_i (h.1 36 0 x1.toNatClampNeg), jm_i x4], h)) rfl ?_
  refine jm_E_n 1 (x' := (if (h.1 36 0 x1.toNatClampNeg) ≤ x4 then 34 else 10, [some (jm_r 8 0), some (jm_i x1), none, some (jm_i x3), some (jm_i x4)], [], h)) rfl ?_
  refine jm_E_ite (fun hc => ?_) (fun hc => ?_)
  · replace H := H.1 hc
    refine jm_E_n 1 (x' := (35, [some (jm_r 8 0), some (jm_i x1), none, some (jm_i x3), some (jm_i x4)], [jm_i x3], h)) rfl ?_
    exact jm_E_ret rfl (by rw [H]; rfl)
  · replace H := H.2 hc
    refine jm_E_n 9 (x' := (19, [some (jm_r 8 0), some (jm_i x1), none, some (jm_i x3), some (jm_i x4)], [jm_i ((6 * x1) + x4), jm_r 39 0, jm_i x3, jm_i x3], h)) rfl ?_
    refine jm_E_iald rfl rfl H.1 ?_
    replace H := H.2
    refine jm_E_eq (x := (20, [some (jm_r 8 0), some (jm_i x1), none, some (jm_i x3), some (jm_i x4)], [jm_i (h.1 39 0 (((6 * x1) + x4).toNatClampNeg)), jm_i x3, jm_i x3], h)) rfl ?_
    obtain ⟨v1, h1, hR, H⟩ := H
    refine jm_E_call rfl (Nat.le_of_ble_eq_true rfl) (Nat.le_of_ble_eq_true rfl) trivial hR trivial ?_
    refine jm_E_eq (x := (21, [some (jm_r 8 0), some (jm_i x1), none, some (jm_i x3), some (jm_i x4)], [jm_i v1, jm_i x3], h1)) rfl ?_
    refine jm_E_idiv rfl H.1 ?_
    replace H := H.2
    refine jm_E_eq (x := (22, [some (jm_r 8 0), some (jm_i x1), none, some (jm_i x3), some (jm_i x4)], [jm_i (x3 / v1)], h1)) rfl ?_
    refine jm_E_n 7 (x' := (29, [some (jm_r 8 0), some (jm_i x1), none, some (jm_i x3), some (jm_i x4)], [jm_i ((6 * x1) + x4), jm_r 39 0, jm_i (x3 / v1)], h1)) rfl ?_
    refine jm_E_iald rfl rfl H.1 ?_
    replace H := H.2
    refine jm_E_eq (x := (30, [some (jm_r 8 0), some (jm_i x1), none, some (jm_i x3), some (jm_i x4)], [jm_i (h1.1 39 0 (((6 * x1) + x4).toNatClampNeg)), jm_i (x3 / v1)], h1)) rfl ?_
    refine jm_E_n 4 (x' := (4, [some (jm_r 8 0), some (jm_i x1), none, some (jm_i ((x3 / v1) * (h1.1 39 0 (((6 * x1) + x4).toNatClampNeg)))), some (jm_i (x4 + 1))], [], h1)) rfl ?_
    exact H
set_option maxRecDepth 100000 in
theorem wp_M_roundWith {a0 : Int32} {a1 : Int32} {h : jm_H} {r : jm_Rs} (H :
  l_M_roundWith_4 a0 a1 0 h r) : jm_R 91 [jm_r 8 0, jm_i a0, jm_i a1] h r := by
  refine jm_R_of hz_91 (Nat.le_of_ble_eq_true rfl) ?_
  show jm_E cod_91 (0, [some (jm_r 8 0), some (jm_i a0), some (jm_i a1), none, none], [], h) r
  refine jm_E_n 4 (x' := (4, [some (jm_r 8 0), some (jm_i a0), some (jm_i a1), some (jm_i a1), some (jm_i 0)], [], h)) rfl ?_
  exact jm_E_weak (jm_le_s (jm_le_s (jm_le_n (jm_le_s (jm_le_s jm_le_nil))))) H
set_option maxRecDepth 100000 in
theorem wp_M_see {a0 : Int32} {h : jm_H} {r : jm_Rs} (H :
  ((h.1 8 0 16) ≤ a0 →
    r = (some (jm_i (-1)), h)) ∧
  (¬ ((h.1 8 0 16) ≤ a0) →
    jm_in a0 700 ∧
    r = (some (jm_i (h.1 33 0 a0.toNatClampNeg)), h))) : jm_R 92 [jm_r 8 0, jm_i a0] h r := by
  refine jm_R_of hz_92 (Nat.le_of_ble_eq_true rfl) ?_
  show jm_E cod_92 (0, [some (jm_r 8 0), some (jm_i a0)], [], h) r
  refine jm_E_n 4 (x' := (if (h.1 8 0 16) ≤ a0 then 9 else 4, [some (jm_r 8 0), some (jm_i a0)], [], h)) rfl ?_
  refine jm_E_ite (fun hc => ?_) (fun hc => ?_)
  · replace H := H.1 hc
    refine jm_E_n 1 (x' := (10, [some (jm_r 8 0), some (jm_i a0)], [jm_i (-1)], h)) rfl ?_
    exact jm_E_ret rfl (by rw [H]; rfl)
  · replace H := H.2 hc
    refine jm_E_n 3 (x' := (7, [some (jm_r 8 0), some (jm_i a0)], [jm_i a0, jm_r 33 0], h)) rfl ?_
    refine jm_E_iald rfl rfl H.1 ?_
    replace H := H.2
    refine jm_E_eq (x := (8, [some (jm_r 8 0), some (jm_i a0)], [jm_i (h.1 33 0 a0.toNatClampNeg)], h)) rfl ?_
    refine jm_E_n 1 (x' := (10, [some (jm_r 8 0), some (jm_i a0)], [jm_i (h.1 33 0 a0.toNatClampNeg)], h)) rfl ?_
    exact jm_E_ret rfl (by rw [H]; rfl)
set_option maxRecDepth 100000 in
theorem wp_M_reads_0  {h : jm_H} {r : jm_Rs} (H :
  ∃ (v1 : Int32) (h1 : jm_H), m_M_see (h.1 8 0 18) h v1 h1 ∧
  (v1 = 32 →
    l_M_reads_0 (jm_sI h1 8 0 18 ((h1.1 8 0 18) + 1)) r) ∧
  (¬ (v1 = 32) →
    ∃ (v2 : Int32) (h2 : jm_H), m_M_see (h1.1 8 0 18) (jm_sI h1 8 0 17 (h1.1 8 0 18)) v2 h2 ∧
    (v2 = (-1) →
      r = (none, (jm_sI h2 8 0 19 0))) ∧
    (¬ (v2 = (-1)) →
      ∃ (v3 : Int32) (h3 : jm_H), m_M_in v2 97 122 h2 v3 h3 ∧
      (v3 = 0 →
        ∃ (v4 : Int32) (h4 : jm_H), m_M_in v2 48 57 h3 v4 h4 ∧
        (v4 = 0 →
          (v2 = 59 →
            r = (none, (jm_sI (jm_sI h4 8 0 18 ((h4.1 8 0 18) + 1)) 8 0 19 v2))) ∧
          (¬ (v2 = 59) →
            r = (none, (jm_sI (jm_sI h4 8 0 18 ((h4.1 8 0 18) + 1)) 8 0 19 1)))) ∧
        (¬ (v4 = 0) →
          l_M_reads_70 (jm_sI h4 8 0 20 0) r)) ∧
      (¬ (v3 = 0) →
        l_M_reads_34 h3 r)))) : l_M_reads_0  h r := by
  refine jm_E_n 3 (x' := (3, [some (jm_r 8 0), none], [jm_i (h.1 8 0 18), jm_r 8 0], h)) rfl ?_
  obtain ⟨v1, h1, hR, H⟩ := H
  refine jm_E_call rfl (Nat.le_of_ble_eq_true rfl) (Nat.le_of_ble_eq_true rfl) rfl hR trivial ?_
  refine jm_E_eq (x := (4, [some (jm_r 8 0), none], [jm_i v1], h1)) rfl ?_
  refine jm_E_n 2 (x' := (if v1 = 32 then 6 else 13, [some (jm_r 8 0), none], [], h1)) rfl ?_
  refine jm_E_ite (fun hc => ?_) (fun hc => ?_)
  · replace H := H.1 hc
    refine jm_E_n 7 (x' := (0, [some (jm_r 8 0), none], [], (jm_sI h1 8 0 18 ((h1.1 8 0 18) + 1)))) rfl ?_
    exact H
  · replace H := H.2 hc
    refine jm_E_n 7 (x' := (20, [some (jm_r 8 0), none], [jm_i (h1.1 8 0 18), jm_r 8 0], (jm_sI h1 8 0 17 (h1.1 8 0 18)))) rfl ?_
    obtain ⟨v2, h2, hR, H⟩ := H
    refine jm_E_call rfl (Nat.le_of_ble_eq_true rfl) (Nat.le_of_ble_eq_true rfl) rfl hR trivial ?_
    refine jm_E_eq (x := (21, [some (jm_r 8 0), none], [jm_i v2], h2)) rfl ?_
    refine jm_E_n 4 (x' := (if v2 = (-1) then 25 else 29, [some (jm_r 8 0), some (jm_i v2)], [], h2)) rfl ?_
    refine jm_E_ite (fun hc => ?_) (fun hc => ?_)
    · replace H := H.1 hc
      refine jm_E_n 3 (x' := (28, [some (jm_r 8 0), some (jm_i v2)], [], (jm_sI h2 8 0 19 0))) rfl ?_
      exact jm_E_ret rfl (by rw [H]; rfl)
    · replace H := H.2 hc
      refine jm_E_n 3 (x' := (32, [some (jm_r 8 0), some (jm_i v2)], [jm_i 122, jm_i 97, jm_i v2], h2)) rfl ?_
      obtain ⟨v3, h3, hR, H⟩ := H
      refine jm_E_call rfl (Nat.le_of_ble_eq_true rfl) (Nat.le_of_ble_eq_true rfl) trivial hR trivial ?_
      refine jm_E_eq (x := (33, [some (jm_r 8 0), some (jm_i v2)], [jm_i v3], h3)) rfl ?_
      refine jm_E_n 1 (x' := (if v3 = 0 then 62 else 34, [some (jm_r 8 0), some (jm_i v2)], [], h3)) rfl ?_
      refine jm_E_ite (fun hc => ?_) (fun hc => ?_)
      · replace H := H.1 hc
        refine jm_E_n 3 (x' := (65, [some (jm_r 8 0), some (jm_i v2)], [jm_i 57, jm_i 48, jm_i v2], h3)) rfl ?_
        obtain ⟨v4, h4, hR, H⟩ := H
        refine jm_E_call rfl (Nat.le_of_ble_eq_true rfl) (Nat.le_of_ble_eq_true rfl) trivial hR trivial ?_
        refine jm_E_eq (x := (66, [some (jm_r 8 0), some (jm_i v2)], [jm_i v4], h4)) rfl ?_
        refine jm_E_n 1 (x' := (if v4 = 0 then 121 else 67, [some (jm_r 8 0), some (jm_i v2)], [], h4)) rfl ?_
        refine jm_E_ite (fun hc => ?_) (fun hc => ?_)
        · replace H := H.1 hc
          refine jm_E_n 10 (x' := (if v2 = 59 then 131 else 133, [some (jm_r 8 0), some (jm_i v2)], [jm_r 8 0], (jm_sI h4 8 0 18 ((h4.1 8 0 18) + 1)))) rfl ?_
          refine jm_E_ite (fun hc => ?_) (fun hc => ?_)
          · replace H := H.1 hc
            refine jm_E_n 3 (x' := (135, [some (jm_r 8 0), some (jm_i v2)], [], (jm_sI (jm_sI h4 8 0 18 ((h4.1 8 0 18) + 1)) 8 0 19 v2))) rfl ?_
            exact jm_E_ret rfl (by rw [H]; rfl)
          · replace H := H.2 hc
            refine jm_E_n 2 (x' := (135, [some (jm_r 8 0), some (jm_i v2)], [], (jm_sI (jm_sI h4 8 0 18 ((h4.1 8 0 18) + 1)) 8 0 19 1))) rfl ?_
            exact jm_E_ret rfl (by rw [H]; rfl)
        · replace H := H.2 hc
          refine jm_E_n 3 (x' := (70, [some (jm_r 8 0), some (jm_i v2)], [], (jm_sI h4 8 0 20 0))) rfl ?_
          exact jm_E_weak (jm_le_s (jm_le_n jm_le_nil)) H
      · replace H := H.2 hc
        exact jm_E_weak (jm_le_s (jm_le_n jm_le_nil)) H
set_option maxRecDepth 100000 in
theorem wp_M_reads_70  {h : jm_H} {r : jm_Rs} (H :
  ∃ (v5 : Int32) (h5 : jm_H), m_M_see (h.1 8 0 18) h v5 h5 ∧
  ∃ (v6 : Int32) (h6 : jm_H), m_M_in v5 48 57 h5 v6 h6 ∧
  (v6 = 0 →
    (((h6.1 8 0 18) - (h6.1 8 0 17)) ≤ 3 →
      r = (none, (jm_sI h6 8 0 19 3))) ∧
    (¬ (((h6.1 8 0 18) - (h6.1 8 0 17)) ≤ 3) →
      r = (none, (jm_sI h6 8 0 19 1)))) ∧
  (¬ (v6 = 0) →
    (3 ≤ ((h6.1 8 0 18) - (h6.1 8 0 17)) →
      l_M_reads_70 (jm_sI (jm_sI h6 8 0 20 (h6.1 8 0 20)) 8 0 18 ((h6.1 8 0 18) + 1)) r) ∧
    (¬ (3 ≤ ((h6.1 8 0 18) - (h6.1 8 0 17))) →
      ∃ (v7 : Int32) (h7 : jm_H), m_M_see (h6.1 8 0 18) h6 v7 h7 ∧
      l_M_reads_70 (jm_sI (jm_sI h7 8 0 20 (((10 * (h6.1 8 0 20)) + v7) - 48)) 8 0 18 ((h7.1 8 0 18) + 1)) r))) : l_M_reads_70  h r := by
  refine jm_E_n 3 (x' := (73, [some (jm_r 8 0), none], [jm_i (h.1 8 0 18), jm_r 8 0], h)) rfl ?_
  obtain ⟨v5, h5, hR, H⟩ := H
  refine jm_E_call rfl (Nat.le_of_ble_eq_true rfl) (Nat.le_of_ble_eq_true rfl) rfl hR trivial ?_
  refine jm_E_eq (x := (74, [some (jm_r 8 0), none], [jm_i v5], h5)) rfl ?_
  refine jm_E_n 2 (x' := (76, [some (jm_r 8 0), none], [jm_i 57, jm_i 48, jm_i v5], h5)) rfl ?_
  obtain ⟨v6, h6, hR, H⟩ := H
  refine jm_E_call rfl (Nat.le_of_ble_eq_true rfl) (Nat.le_of_ble_eq_true rfl) trivial hR trivial ?_
  refine jm_E_eq (x := (77, [some (jm_r 8 0), none], [jm_i v6], h6)) rfl ?_
  refine jm_E_n 1 (x' := (if v6 = 0 then 108 else 78, [some (jm_r 8 0), none], [], h6)) rfl ?_
  refine jm_E_ite (fun hc => ?_) (fun hc => ?_)
  · replace H := H.1 hc
    refine jm_E_n 8 (x' := (if ((h6.1 8 0 18) - (h6.1 8 0 17)) ≤ 3 then 118 else 116, [some (jm_r 8 0), none], [jm_r 8 0], h6)) rfl ?_
    refine jm_E_ite (fun hc => ?_) (fun hc => ?_)
    · replace H := H.1 hc
      refine jm_E_n 2 (x' := (120, [some (jm_r 8 0), none], [], (jm_sI h6 8 0 19 3))) rfl ?_
      exact jm_E_ret rfl (by rw [H]; rfl)
    · replace H := H.2 hc
      refine jm_E_n 3 (x' := (120, [some (jm_r 8 0), none], [], (jm_sI h6 8 0 19 1))) rfl ?_
      exact jm_E_ret rfl (by rw [H]; rfl)
  · replace H := H.2 hc
    refine jm_E_n 8 (x' := (if 3 ≤ ((h6.1 8 0 18) - (h6.1 8 0 17)) then 98 else 86, [some (jm_r 8 0), none], [jm_r 8 0], h6)) rfl ?_
    refine jm_E_ite (fun hc => ?_) (fun hc => ?_)
    · replace H := H.1 hc
      refine jm_E_n 10 (x' := (70, [some (jm_r 8 0), none], [], (jm_sI (jm_sI h6 8 0 20 (h6.1 8 0 20)) 8 0 18 ((h6.1 8 0 18) + 1)))) rfl ?_
      exact H
    · replace H := H.2 hc
      refine jm_E_n 7 (x' := (93, [some (jm_r 8 0), none], [jm_i (h6.1 8 0 18), jm_r 8 0, jm_i (10 * (h6.1 8 0 20)), jm_r 8 0], h6)) rfl ?_
      obtain ⟨v7, h7, hR, H⟩ := H
      refine jm_E_call rfl (Nat.le_of_ble_eq_true rfl) (Nat.le_of_ble_eq_true rfl) rfl hR trivial ?_
      refine jm_E_eq (x := (94, [some (jm_r 8 0), none], [jm_i v7, jm_i (10 * (h6.1 8 0 20)), jm_r 8 0], h7)) rfl ?_
      refine jm_E_n 12 (x' := (70, [some (jm_r 8 0), none], [], (jm_sI (jm_sI h7 8 0 20 (((10 * (h6.1 8 0 20)) + v7) - 48)) 8 0 18 ((h7.1 8 0 18) + 1)))) rfl ?_
      exact H
set_option maxRecDepth 100000 in
theorem wp_M_reads_34  {h : jm_H} {r : jm_Rs} (H :
  ∃ (v8 : Int32) (h8 : jm_H), m_M_see (h.1 8 0 18) h v8 h8 ∧
  ∃ (v9 : Int32) (h9 : jm_H), m_M_in v8 97 122 h8 v9 h9 ∧
  (v9 = 0 →
    (((h9.1 8 0 18) - (h9.1 8 0 17)) ≤ 7 →
      r = (none, (jm_sI h9 8 0 19 2))) ∧
    (¬ (((h9.1 8 0 18) - (h9.1 8 0 17)) ≤ 7) →
      r = (none, (jm_sI h9 8 0 19 1)))) ∧
  (¬ (v9 = 0) →
    l_M_reads_34 (jm_sI h9 8 0 18 ((h9.1 8 0 18) + 1)) r)) : l_M_reads_34  h r := by
  refine jm_E_n 3 (x' := (37, [some (jm_r 8 0), none], [jm_i (h.1 8 0 18), jm_r 8 0], h)) rfl ?_
  obtain ⟨v8, h8, hR, H⟩ := H
  refine jm_E_call rfl (Nat.le_of_ble_eq_true rfl) (Nat.le_of_ble_eq_true rfl) rfl hR trivial ?_
  refine jm_E_eq (x := (38, [some (jm_r 8 0), none], [jm_i v8], h8)) rfl ?_
  refine jm_E_n 2 (x' := (40, [some (jm_r 8 0), none], [jm_i 122, jm_i 97, jm_i v8], h8)) rfl ?_
  obtain ⟨v9, h9, hR, H⟩ := H
  refine jm_E_call rfl (Nat.le_of_ble_eq_true rfl) (Nat.le_of_ble_eq_true rfl) trivial hR trivial ?_
  refine jm_E_eq (x := (41, [some (jm_r 8 0), none], [jm_i v9], h9)) rfl ?_
  refine jm_E_n 1 (x' := (if v9 = 0 then 49 else 42, [some (jm_r 8 0), none], [], h9)) rfl ?_
  refine jm_E_ite (fun hc => ?_) (fun hc => ?_)
  · replace H := H.1 hc
    refine jm_E_n 8 (x' := (if ((h9.1 8 0 18) - (h9.1 8 0 17)) ≤ 7 then 59 else 57, [some (jm_r 8 0), none], [jm_r 8 0], h9)) rfl ?_
    refine jm_E_ite (fun hc => ?_) (fun hc => ?_)
    · replace H := H.1 hc
      refine jm_E_n 2 (x' := (61, [some (jm_r 8 0), none], [], (jm_sI h9 8 0 19 2))) rfl ?_
      exact jm_E_ret rfl (by rw [H]; rfl)
    · replace H := H.2 hc
      refine jm_E_n 3 (x' := (61, [some (jm_r 8 0), none], [], (jm_sI h9 8 0 19 1))) rfl ?_
      exact jm_E_ret rfl (by rw [H]; rfl)
  · replace H := H.2 hc
    refine jm_E_n 7 (x' := (34, [some (jm_r 8 0), none], [], (jm_sI h9 8 0 18 ((h9.1 8 0 18) + 1)))) rfl ?_
    exact H
set_option maxRecDepth 100000 in
theorem wp_M_reads  {h : jm_H} {r : jm_Rs} (H :
  l_M_reads_0 h r) : jm_R 93 [jm_r 8 0] h r := by
  refine jm_R_of hz_93 (Nat.le_of_ble_eq_true rfl) ?_
  show jm_E cod_93 (0, [some (jm_r 8 0), none], [], h) r
  exact H
set_option maxRecDepth 100000 in
theorem wp_M_isWord_16 {x1 : Nat} {x2 : Int32} {h : jm_H} {r : jm_Rs} (H :
  (((jm_strl x1).toInt32) ≤ x2 →
    r = (some (jm_i 1), h)) ∧
  (¬ (((jm_strl x1).toInt32) ≤ x2) →
    jm_in ((h.1 8 0 17) + x2) 700 ∧
    jm_in x2 (jm_strl x1) ∧
    ((h.1 33 0 (((h.1 8 0 17) + x2).toNatClampNeg)) = (((jm_str x1).getD x2.toNatClampNeg 0).toInt32) →
      l_M_isWord_16 x1 (x2 + 1) h r) ∧
    (¬ ((h.1 33 0 (((h.1 8 0 17) + x2).toNatClampNeg)) = (((jm_str x1).getD x2.toNatClampNeg 0).toInt32)) →
      r = (some (jm_i 0), h)))) : l_M_isWord_16 x1 x2 h r := by
  refine jm_E_n 4 (x' := (if ((jm_strl x1).toInt32) ≤ x2 then 35 else 20, [some (jm_r 8 0), some (jm_r 60 x1), some (jm_i x2)], [], h)) rfl ?_
  refine jm_E_ite (fun hc => ?_) (fun hc => ?_)
  · replace H := H.1 hc
    refine jm_E_n 1 (x' := (36, [some (jm_r 8 0), some (jm_r 60 x1), some (jm_i x2)], [jm_i 1], h)) rfl ?_
    exact jm_E_ret rfl (by rw [H]; rfl)
  · replace H := H.2 hc
    refine jm_E_n 6 (x' := (26, [some (jm_r 8 0), some (jm_r 60 x1), some (jm_i x2)], [jm_i ((h.1 8 0 17) + x2), jm_r 33 0], h)) rfl ?_
    refine jm_E_iald rfl rfl H.1 ?_
    replace H := H.2
    refine jm_E_eq (x := (27, [some (jm_r 8 0), some (jm_r 60 x1), some (jm_i x2)], [jm_i (h.1 33 0 (((h.1 8 0 17) + x2).toNatClampNeg))], h)) rfl ?_
    refine jm_E_n 2 (x' := (29, [some (jm_r 8 0), some (jm_r 60 x1), some (jm_i x2)], [jm_i x2, jm_r 60 x1, jm_i (h.1 33 0 (((h.1 8 0 17) + x2).toNatClampNeg))], h)) rfl ?_
    refine jm_E_schr rfl H.1 (Nat.le_of_ble_eq_true rfl) ?_
    replace H := H.2
    refine jm_E_eq (x := (30, [some (jm_r 8 0), some (jm_r 60 x1), some (jm_i x2)], [jm_i (((jm_str x1).getD x2.toNatClampNeg 0).toInt32), jm_i (h.1 33 0 (((h.1 8 0 17) + x2).toNatClampNeg))], h)) rfl ?_
    refine jm_E_n 1 (x' := (if (h.1 33 0 (((h.1 8 0 17) + x2).toNatClampNeg)) = (((jm_str x1).getD x2.toNatClampNeg 0).toInt32) then 33 else 31, [some (jm_r 8 0), some (jm_r 60 x1), some (jm_i x2)], [], h)) rfl ?_
    refine jm_E_ite (fun hc => ?_) (fun hc => ?_)
    · replace H := H.1 hc
      refine jm_E_n 2 (x' := (16, [some (jm_r 8 0), some (jm_r 60 x1), some (jm_i (x2 + 1))], [], h)) rfl ?_
      exact H
    · replace H := H.2 hc
      refine jm_E_n 1 (x' := (32, [some (jm_r 8 0), some (jm_r 60 x1), some (jm_i x2)], [jm_i 0], h)) rfl ?_
      exact jm_E_ret rfl (by rw [H]; rfl)
set_option maxRecDepth 100000 in
theorem wp_M_isWord {a0 : Nat} {h : jm_H} {r : jm_Rs} (H :
  ((h.1 8 0 19) = 2 →
    (((h.1 8 0 18) - (h.1 8 0 17)) = ((jm_strl a0).toInt32) →
      l_M_isWord_16 a0 0 h r) ∧
    (¬ (((h.1 8 0 18) - (h.1 8 0 17)) = ((jm_strl a0).toInt32)) →
      r = (some (jm_i 0), h))) ∧
  (¬ ((h.1 8 0 19) = 2) →
    r = (some (jm_i 0), h))) : jm_R 94 [jm_r 8 0, jm_r 60 a0] h r := by
  refine jm_R_of hz_94 (Nat.le_of_ble_eq_true rfl) ?_
  show jm_E cod_94 (0, [some (jm_r 8 0), some (jm_r 60 a0), none], [], h) r
  refine jm_E_n 4 (x' := (if (h.1 8 0 19) = 2 then 4 else 12, [some (jm_r 8 0), some (jm_r 60 a0), none], [], h)) rfl ?_
  refine jm_E_ite (fun hc => ?_) (fun hc => ?_)
  · replace H := H.1 hc
    refine jm_E_n 8 (x' := (if ((h.1 8 0 18) - (h.1 8 0 17)) = ((jm_strl a0).toInt32) then 14 else 12, [some (jm_r 8 0), some (jm_r 60 a0), none], [], h)) rfl ?_
    refine jm_E_ite (fun hc => ?_) (fun hc => ?_)
    · replace H := H.1 hc
      refine jm_E_n 2 (x' := (16, [some (jm_r 8 0), some (jm_r 60 a0), some (jm_i 0)], [], h)) rfl ?_
      exact H
    · replace H := H.2 hc
      refine jm_E_n 1 (x' := (13, [some (jm_r 8 0), some (jm_r 60 a0), none], [jm_i 0], h)) rfl ?_
      exact jm_E_ret rfl (by rw [H]; rfl)
  · replace H := H.2 hc
    refine jm_E_n 1 (x' := (13, [some (jm_r 8 0), some (jm_r 60 a0), none], [jm_i 0], h)) rfl ?_
    exact jm_E_ret rfl (by rw [H]; rfl)
set_option maxRecDepth 100000 in
theorem wp_M_errs {a0 : Int32} {h : jm_H} {r : jm_Rs} (H :
  r = (some (jm_i (-1)), (jm_sI (jm_sI h 8 0 21 a0) 8 0 22 (h.1 8 0 17)))) : jm_R 95 [jm_r 8 0, jm_i a0] h r := by
  refine jm_R_of hz_95 (Nat.le_of_ble_eq_true rfl) ?_
  show jm_E cod_95 (0, [some (jm_r 8 0), some (jm_i a0)], [], h) r
  refine jm_E_n 8 (x' := (8, [some (jm_r 8 0), some (jm_i a0)], [jm_i (-1)], (jm_sI (jm_sI h 8 0 21 a0) 8 0 22 (h.1 8 0 17)))) rfl ?_
  exact jm_E_ret rfl (by rw [H]; rfl)
set_option maxRecDepth 100000 in
theorem wp_M_told {a0 : Nat} {a1 : Int32} {a2 : Int32} {h : jm_H} {r : jm_Rs} (H :
  ∃ (v1 : Int32) (h1 : jm_H), m_M_isWord a0 h v1 h1 ∧
  (v1 = 0 →
    ∃ (v2 : Int32) (h2 : jm_H), m_M_errs 1 h1 v2 h2 ∧
    r = (some (jm_i v2), h2)) ∧
  (¬ (v1 = 0) →
    ∃ h3 : jm_H, m_M_reads h1 h3 ∧
    ((h3.1 8 0 19) = 3 →
      ∃ (v4 : Int32) (h4 : jm_H), m_M_in (h3.1 8 0 20) a1 a2 h3 v4 h4 ∧
      (v4 = 0 →
        ∃ (v5 : Int32) (h5 : jm_H), m_M_errs 2 h4 v5 h5 ∧
        r = (some (jm_i v5), h5)) ∧
      (¬ (v4 = 0) →
        r = (some (jm_i (h4.1 8 0 20)), h4))) ∧
    (¬ ((h3.1 8 0 19) = 3) →
      ∃ (v6 : Int32) (h6 : jm_H), m_M_errs 1 h3 v6 h6 ∧
      r = (some (jm_i v6), h6)))) : jm_R 96 [jm_r 8 0, jm_r 60 a0, jm_i a1, jm_i a2] h r := by
  refine jm_R_of hz_96 (Nat.le_of_ble_eq_true rfl) ?_
  show jm_E cod_96 (0, [some (jm_r 8 0), some (jm_r 60 a0), some (jm_i a1), some (jm_i a2)], [], h) r
  refine jm_E_n 2 (x' := (2, [some (jm_r 8 0), some (jm_r 60 a0), some (jm_i a1), some (jm_i a2)], [jm_r 60 a0, jm_r 8 0], h)) rfl ?_
  obtain ⟨v1, h1, hR, H⟩ := H
  refine jm_E_call rfl (Nat.le_of_ble_eq_true rfl) (Nat.le_of_ble_eq_true rfl) rfl hR trivial ?_
  refine jm_E_eq (x := (3, [some (jm_r 8 0), some (jm_r 60 a0), some (jm_i a1), some (jm_i a2)], [jm_i v1], h1)) rfl ?_
  refine jm_E_n 1 (x' := (if v1 = 0 then 4 else 8, [some (jm_r 8 0), some (jm_r 60 a0), some (jm_i a1), some (jm_i a2)], [], h1)) rfl ?_
  refine jm_E_ite (fun hc => ?_) (fun hc => ?_)
  · replace H := H.1 hc
    refine jm_E_n 2 (x' := (6, [some (jm_r 8 0), some (jm_r 60 a0), some (jm_i a1), some (jm_i a2)], [jm_i 1, jm_r 8 0], h1)) rfl ?_
    obtain ⟨v2, h2, hR, H⟩ := H
    refine jm_E_call rfl (Nat.le_of_ble_eq_true rfl) (Nat.le_of_ble_eq_true rfl) rfl hR trivial ?_
    refine jm_E_eq (x := (7, [some (jm_r 8 0), some (jm_r 60 a0), some (jm_i a1), some (jm_i a2)], [jm_i v2], h2)) rfl ?_
    exact jm_E_ret rfl (by rw [H]; rfl)
  · replace H := H.2 hc
    refine jm_E_n 1 (x' := (9, [some (jm_r 8 0), some (jm_r 60 a0), some (jm_i a1), some (jm_i a2)], [jm_r 8 0], h1)) rfl ?_
    obtain ⟨h3, hR, H⟩ := H
    refine jm_E_call rfl (Nat.le_of_ble_eq_true rfl) (Nat.le_of_ble_eq_true rfl) rfl hR trivial ?_
    refine jm_E_eq (x := (10, [some (jm_r 8 0), some (jm_r 60 a0), some (jm_i a1), some (jm_i a2)], [], h3)) rfl ?_
    refine jm_E_n 4 (x' := (if (h3.1 8 0 19) = 3 then 18 else 14, [some (jm_r 8 0), some (jm_r 60 a0), some (jm_i a1), some (jm_i a2)], [], h3)) rfl ?_
    refine jm_E_ite (fun hc => ?_) (fun hc => ?_)
    · replace H := H.1 hc
      refine jm_E_n 4 (x' := (22, [some (jm_r 8 0), some (jm_r 60 a0), some (jm_i a1), some (jm_i a2)], [jm_i a2, jm_i a1, jm_i (h3.1 8 0 20)], h3)) rfl ?_
      obtain ⟨v4, h4, hR, H⟩ := H
      refine jm_E_call rfl (Nat.le_of_ble_eq_true rfl) (Nat.le_of_ble_eq_true rfl) trivial hR trivial ?_
      refine jm_E_eq (x := (23, [some (jm_r 8 0), some (jm_r 60 a0), some (jm_i a1), some (jm_i a2)], [jm_i v4], h4)) rfl ?_
      refine jm_E_n 1 (x' := (if v4 = 0 then 27 else 24, [some (jm_r 8 0), some (jm_r 60 a0), some (jm_i a1), some (jm_i a2)], [], h4)) rfl ?_
      refine jm_E_ite (fun hc => ?_) (fun hc => ?_)
      · replace H := H.1 hc
        refine jm_E_n 2 (x' := (29, [some (jm_r 8 0), some (jm_r 60 a0), some (jm_i a1), some (jm_i a2)], [jm_i 2, jm_r 8 0], h4)) rfl ?_
        obtain ⟨v5, h5, hR, H⟩ := H
        refine jm_E_call rfl (Nat.le_of_ble_eq_true rfl) (Nat.le_of_ble_eq_true rfl) rfl hR trivial ?_
        refine jm_E_eq (x := (30, [some (jm_r 8 0), some (jm_r 60 a0), some (jm_i a1), some (jm_i a2)], [jm_i v5], h5)) rfl ?_
        exact jm_E_ret rfl (by rw [H]; rfl)
      · replace H := H.2 hc
        refine jm_E_n 3 (x' := (30, [some (jm_r 8 0), some (jm_r 60 a0), some (jm_i a1), some (jm_i a2)], [jm_i (h4.1 8 0 20)], h4)) rfl ?_
        exact jm_E_ret rfl (by rw [H]; rfl)
    · replace H := H.2 hc
      refine jm_E_n 2 (x' := (16, [some (jm_r 8 0), some (jm_r 60 a0), some (jm_i a1), some (jm_i a2)], [jm_i 1, jm_r 8 0], h3)) rfl ?_
      obtain ⟨v6, h6, hR, H⟩ := H
      refine jm_E_call rfl (Nat.le_of_ble_eq_true rfl) (Nat.le_of_ble_eq_true rfl) rfl hR trivial ?_
      refine jm_E_eq (x := (17, [some (jm_r 8 0), some (jm_r 60 a0), some (jm_i a1), some (jm_i a2)], [jm_i v6], h6)) rfl ?_
      exact jm_E_ret rfl (by rw [H]; rfl)
set_option maxRecDepth 100000 in
theorem wp_M_readMode  {h : jm_H} {r : jm_Rs} (H :
  ((h.1 8 0 7) = 3 →
    ∃ (v1 : Int32) (h1 : jm_H), m_M_errs 3 h v1 h1 ∧
    r = (some (jm_i v1), h1)) ∧
  (¬ ((h.1 8 0 7) = 3) →
    ∃ h2 : jm_H, m_M_reads h h2 ∧
    ∃ (v3 : Int32) (h3 : jm_H), m_M_told 2 4 60 h2 v3 h3 ∧
    (v3 = (-1) →
      r = (some (jm_i (-1)), h3)) ∧
    (¬ (v3 = (-1)) →
      ∃ h4 : jm_H, m_M_reads h3 h4 ∧
      ∃ (v5 : Int32) (h5 : jm_H), m_M_told 3 0 (v3 - 1) h4 v5 h5 ∧
      (v5 = (-1) →
        r = (some (jm_i (-1)), h5)) ∧
      (¬ (v5 = (-1)) →
        ∃ h6 : jm_H, m_M_reads h5 h6 ∧
        jm_in (3 + (h.1 8 0 7)) 6 ∧
        jm_in (3 + (h.1 8 0 7)) 6 ∧
        jm_in (3 + (h.1 8 0 7)) 6 ∧
        jm_in (3 + (h.1 8 0 7)) 6 ∧
        r = (some (jm_i 0), (jm_sI (jm_sI (jm_sI (jm_sI (jm_sI h6 34 0 ((3 + (h.1 8 0 7)).toNatClampNeg) v3) 35 0 ((3 + (h.1 8 0 7)).toNatClampNeg) v5) 36 0 ((3 + (h.1 8 0 7)).toNatClampNeg) 0) 37 0 ((3 + (h.1 8 0 7)).toNatClampNeg) v3) 8 0 7 ((h6.1 8 0 7) + 1))))))) : jm_R 97 [jm_r 8 0] h r := by
  refine jm_R_of hz_97 (Nat.le_of_ble_eq_true rfl) ?_
  show jm_E cod_97 (0, [some (jm_r 8 0), none, none, none], [], h) r
  refine jm_E_n 4 (x' := (if (h.1 8 0 7) = 3 then 4 else 8, [some (jm_r 8 0), none, none, none], [], h)) rfl ?_
  refine jm_E_ite (fun hc => ?_) (fun hc => ?_)
  · replace H := H.1 hc
    refine jm_E_n 2 (x' := (6, [some (jm_r 8 0), none, none, none], [jm_i 3, jm_r 8 0], h)) rfl ?_
    obtain ⟨v1, h1, hR, H⟩ := H
    refine jm_E_call rfl (Nat.le_of_ble_eq_true rfl) (Nat.le_of_ble_eq_true rfl) rfl hR trivial ?_
    refine jm_E_eq (x := (7, [some (jm_r 8 0), none, none, none], [jm_i v1], h1)) rfl ?_
    exact jm_E_ret rfl (by rw [H]; rfl)
  · replace H := H.2 hc
    refine jm_E_n 6 (x' := (14, [some (jm_r 8 0), some (jm_i (3 + (h.1 8 0 7))), none, none], [jm_r 8 0], h)) rfl ?_
    obtain ⟨h2, hR, H⟩ := H
    refine jm_E_call rfl (Nat.le_of_ble_eq_true rfl) (Nat.le_of_ble_eq_true rfl) rfl hR trivial ?_
    refine jm_E_eq (x := (15, [some (jm_r 8 0), some (jm_i (3 + (h.1 8 0 7))), none, none], [], h2)) rfl ?_
    refine jm_E_n 4 (x' := (19, [some (jm_r 8 0), some (jm_i (3 + (h.1 8 0 7))), none, none], [jm_i 60, jm_i 4, jm_r 60 2, jm_r 8 0], h2)) rfl ?_
    obtain ⟨v3, h3, hR, H⟩ := H
    refine jm_E_call rfl (Nat.le_of_ble_eq_true rfl) (Nat.le_of_ble_eq_true rfl) rfl hR trivial ?_
    refine jm_E_eq (x := (20, [some (jm_r 8 0), some (jm_i (3 + (h.1 8 0 7))), none, none], [jm_i v3], h3)) rfl ?_
    refine jm_E_n 4 (x' := (if v3 = (-1) then 24 else 26, [some (jm_r 8 0), some (jm_i (3 + (h.1 8 0 7))), some (jm_i v3), none], [], h3)) rfl ?_
    refine jm_E_ite (fun hc => ?_) (fun hc => ?_)
    · replace H := H.1 hc
      refine jm_E_n 1 (x' := (25, [some (jm_r 8 0), some (jm_i (3 + (h.1 8 0 7))), some (jm_i v3), none], [jm_i (-1)], h3)) rfl ?_
      exact jm_E_ret rfl (by rw [H]; rfl)
    · replace H := H.2 hc
      refine jm_E_n 1 (x' := (27, [some (jm_r 8 0), some (jm_i (3 + (h.1 8 0 7))), some (jm_i v3), none], [jm_r 8 0], h3)) rfl ?_
      obtain ⟨h4, hR, H⟩ := H
      refine jm_E_call rfl (Nat.le_of_ble_eq_true rfl) (Nat.le_of_ble_eq_true rfl) rfl hR trivial ?_
      refine jm_E_eq (x := (28, [some (jm_r 8 0), some (jm_i (3 + (h.1 8 0 7))), some (jm_i v3), none], [], h4)) rfl ?_
      refine jm_E_n 6 (x' := (34, [some (jm_r 8 0), some (jm_i (3 + (h.1 8 0 7))), some (jm_i v3), none], [jm_i (v3 - 1), jm_i 0, jm_r 60 3, jm_r 8 0], h4)) rfl ?_
      obtain ⟨v5, h5, hR, H⟩ := H
      refine jm_E_call rfl (Nat.le_of_ble_eq_true rfl) (Nat.le_of_ble_eq_true rfl) rfl hR trivial ?_
      refine jm_E_eq (x := (35, [some (jm_r 8 0), some (jm_i (3 + (h.1 8 0 7))), some (jm_i v3), none], [jm_i v5], h5)) rfl ?_
      refine jm_E_n 4 (x' := (if v5 = (-1) then 39 else 41, [some (jm_r 8 0), some (jm_i (3 + (h.1 8 0 7))), some (jm_i v3), some (jm_i v5)], [], h5)) rfl ?_
      refine jm_E_ite (fun hc => ?_) (fun hc => ?_)
      · replace H := H.1 hc
        refine jm_E_n 1 (x' := (40, [some (jm_r 8 0), some (jm_i (3 + (h.1 8 0 7))), some (jm_i v3), some (jm_i v5)], [jm_i (-1)], h5)) rfl ?_
        exact jm_E_ret rfl (by rw [H]; rfl)
      · replace H := H.2 hc
        refine jm_E_n 1 (x' := (42, [some (jm_r 8 0), some (jm_i (3 + (h.1 8 0 7))), some (jm_i v3), some (jm_i v5)], [jm_r 8 0], h5)) rfl ?_
        obtain ⟨h6, hR, H⟩ := H
        refine jm_E_call rfl (Nat.le_of_ble_eq_true rfl) (Nat.le_of_ble_eq_true rfl) rfl hR trivial ?_
        refine jm_E_eq (x := (43, [some (jm_r 8 0), some (jm_i (3 + (h.1 8 0 7))), some (jm_i v3), some (jm_i v5)], [], h6)) rfl ?_
        refine jm_E_n 4 (x' := (47, [some (jm_r 8 0), some (jm_i (3 + (h.1 8 0 7))), some (jm_i v3), some (jm_i v5)], [jm_i v3, jm_i (3 + (h.1 8 0 7)), jm_r 34 0], h6)) rfl ?_
        refine jm_E_iast rfl rfl H.1 ?_
        replace H := H.2
        refine jm_E_eq (x := (48, [some (jm_r 8 0), some (jm_i (3 + (h.1 8 0 7))), some (jm_i v3), some (jm_i v5)], [], (jm_sI h6 34 0 ((3 + (h.1 8 0 7)).toNatClampNeg) v3))) rfl ?_
        refine jm_E_n 4 (x' := (52, [some (jm_r 8 0), some (jm_i (3 + (h.1 8 0 7))), some (jm_i v3), some (jm_i v5)], [jm_i v5, jm_i (3 + (h.1 8 0 7)), jm_r 35 0], (jm_sI h6 34 0 ((3 + (h.1 8 0 7)).toNatClampNeg) v3))) rfl ?_
        refine jm_E_iast rfl rfl H.1 ?_
        replace H := H.2
        refine jm_E_eq (x := (53, [some (jm_r 8 0), some (jm_i (3 + (h.1 8 0 7))), some (jm_i v3), some (jm_i v5)], [], (jm_sI (jm_sI h6 34 0 ((3 + (h.1 8 0 7)).toNatClampNeg) v3) 35 0 ((3 + (h.1 8 0 7)).toNatClampNeg) v5))) rfl ?_
        refine jm_E_n 4 (x' := (57, [some (jm_r 8 0), some (jm_i (3 + (h.1 8 0 7))), some (jm_i v3), some (jm_i v5)], [jm_i 0, jm_i (3 + (h.1 8 0 7)), jm_r 36 0], (jm_sI (jm_sI h6 34 0 ((3 + (h.1 8 0 7)).toNatClampNeg) v3) 35 0 ((3 + (h.1 8 0 7)).toNatClampNeg) v5))) rfl ?_
        refine jm_E_iast rfl rfl H.1 ?_
        replace H := H.2
        refine jm_E_eq (x := (58, [some (jm_r 8 0), some (jm_i (3 + (h.1 8 0 7))), some (jm_i v3), some (jm_i v5)], [], (jm_sI (jm_sI (jm_sI h6 34 0 ((3 + (h.1 8 0 7)).toNatClampNeg) v3) 35 0 ((3 + (h.1 8 0 7)).toNatClampNeg) v5) 36 0 ((3 + (h.1 8 0 7)).toNatClampNeg) 0))) rfl ?_
        refine jm_E_n 4 (x' := (62, [some (jm_r 8 0), some (jm_i (3 + (h.1 8 0 7))), some (jm_i v3), some (jm_i v5)], [jm_i v3, jm_i (3 + (h.1 8 0 7)), jm_r 37 0], (jm_sI (jm_sI (jm_sI h6 34 0 ((3 + (h.1 8 0 7)).toNatClampNeg) v3) 35 0 ((3 + (h.1 8 0 7)).toNatClampNeg) v5) 36 0 ((3 + (h.1 8 0 7)).toNatClampNeg) 0))) rfl ?_
        refine jm_E_iast rfl rfl H.1 ?_
        replace H := H.2
        refine jm_E_eq (x := (63, [some (jm_r 8 0), some (jm_i (3 + (h.1 8 0 7))), some (jm_i v3), some (jm_i v5)], [], (jm_sI (jm_sI (jm_sI (jm_sI h6 34 0 ((3 + (h.1 8 0 7)).toNatClampNeg) v3) 35 0 ((3 + (h.1 8 0 7)).toNatClampNeg) v5) 36 0 ((3 + (h.1 8 0 7)).toNatClampNeg) 0) 37 0 ((3 + (h.1 8 0 7)).toNatClampNeg) v3))) rfl ?_
        refine jm_E_n 7 (x' := (70, [some (jm_r 8 0), some (jm_i (3 + (h.1 8 0 7))), some (jm_i v3), some (jm_i v5)], [jm_i 0], (jm_sI (jm_sI (jm_sI (jm_sI (jm_sI h6 34 0 ((3 + (h.1 8 0 7)).toNatClampNeg) v3) 35 0 ((3 + (h.1 8 0 7)).toNatClampNeg) v5) 36 0 ((3 + (h.1 8 0 7)).toNatClampNeg) 0) 37 0 ((3 + (h.1 8 0 7)).toNatClampNeg) v3) 8 0 7 ((h6.1 8 0 7) + 1)))) rfl ?_
        exact jm_E_ret rfl (by rw [H]; rfl)
set_option maxRecDepth 100000 in
theorem wp_M_jobsWith_6 {x1 : Int32} {x3 : Int32} {x4 : Int32} {x5 : Int32} {h : jm_H} {r : jm_Rs} (H :
  jm_in x1 6 ∧
  ((h.1 36 0 x1.toNatClampNeg) ≤ x5 →
    r = (some (jm_i x4), h)) ∧
  (¬ ((h.1 36 0 x1.toNatClampNeg) ≤ x5) →
    jm_in ((6 * x1) + x5) 36 ∧
    ¬ (h.1 39 0 (((6 * x1) + x5).toNatClampNeg)) = 0 ∧
    l_M_jobsWith_6 x1 x3 (x4 + (x3 / (h.1 39 0 (((6 * x1) + x5).toNatClampNeg)))) (x5 + 1) h r)) : l_M_jobsWith_6 x1 x3 x4 x5 h r := by
  refine jm_E_n 4 (x' := (10, [some (jm_r 8 0), some (jm_i x1), none, some (jm_i x3), some (jm_i x4), some (jm_i x5)], [jm_i x1, jm_r 36 0, jm_i x5], h)) rfl ?_
  refine jm_E_iald rfl rfl H.1 ?_
  replace H := H.2
  refine jm_E_eq (x := (11, [some (jm_r 8 0), some (jm_i x1), none, some (jm_i x3), some (jm_i x4), some (jm_i x5)], [jm_i (h.1 36 0 x1.toNatClampNeg), jm_i x5], h)) rfl ?_
  refine jm_E_n 1 (x' := (if (h.1 36 0 x1.toNatClampNeg) ≤ x5 then 27 else 12, [some (jm_r 8 0), some (jm_i x1), none, some (jm_i x3), some (jm_i x4), some (jm_i x5)], [], h)) rfl ?_
  refine jm_E_ite (fun hc => ?_) (fun hc => ?_)
  · replace H := H.1 hc
    refine jm_E_n 1 (x' := (28, [some (jm_r 8 0), some (jm_i x1), none, some (jm_i x3), some (jm_i x4), some (jm_i x5)], [jm_i x4], h)) rfl ?_
    exact jm_E_ret rfl (by rw [H]; rfl)
  · replace H := H.2 hc
    refine jm_E_n 9 (x' := (21, [some (jm_r 8 0), some (jm_i x1), none, some (jm_i x3), some (jm_i x4), some (jm_i x5)], [jm_i ((6 * x1) + x5), jm_r 39 0, jm_i x3, jm_i x4], h)) rfl ?_
    refine jm_E_iald rfl rfl H.1 ?_
    replace H := H.2
    refine jm_E_eq (x := (22, [some (jm_r 8 0), some (jm_i x1), none, some (jm_i x3), some (jm_i x4), some (jm_i x5)], [jm_i (h.1 39 0 (((6 * x1) + x5).toNatClampNeg)), jm_i x3, jm_i x4], h)) rfl ?_
    refine jm_E_idiv rfl H.1 ?_
    replace H := H.2
    refine jm_E_eq (x := (23, [some (jm_r 8 0), some (jm_i x1), none, some (jm_i x3), some (jm_i x4), some (jm_i x5)], [jm_i (x3 / (h.1 39 0 (((6 * x1) + x5).toNatClampNeg))), jm_i x4], h)) rfl ?_
    refine jm_E_n 4 (x' := (6, [some (jm_r 8 0), some (jm_i x1), none, some (jm_i x3), some (jm_i (x4 + (x3 / (h.1 39 0 (((6 * x1) + x5).toNatClampNeg))))), some (jm_i (x5 + 1))], [], h)) rfl ?_
    exact H
set_option maxRecDepth 100000 in
theorem wp_M_jobsWith {a0 : Int32} {a1 : Int32} {a2 : Int32} {h : jm_H} {r : jm_Rs} (H :
  ¬ a1 = 0 ∧
  l_M_jobsWith_6 a0 a2 (a2 / a1) 0 h r) : jm_R 98 [jm_r 8 0, jm_i a0, jm_i a1, jm_i a2] h r := by
  refine jm_R_of hz_98 (Nat.le_of_ble_eq_true rfl) ?_
  show jm_E cod_98 (0, [some (jm_r 8 0), some (jm_i a0), some (jm_i a1), some (jm_i a2), none, none], [], h) r
  refine jm_E_n 2 (x' := (2, [some (jm_r 8 0), some (jm_i a0), some (jm_i a1), some (jm_i a2), none, none], [jm_i a1, jm_i a2], h)) rfl ?_
  refine jm_E_idiv rfl H.1 ?_
  replace H := H.2
  refine jm_E_eq (x := (3, [some (jm_r 8 0), some (jm_i a0), some (jm_i a1), some (jm_i a2), none, none], [jm_i (a2 / a1)], h)) rfl ?_
  refine jm_E_n 3 (x' := (6, [some (jm_r 8 0), some (jm_i a0), some (jm_i a1), some (jm_i a2), some (jm_i (a2 / a1)), some (jm_i 0)], [], h)) rfl ?_
  exact jm_E_weak (jm_le_s (jm_le_s (jm_le_n (jm_le_s (jm_le_s (jm_le_s jm_le_nil)))))) H
set_option maxRecDepth 100000 in
theorem wp_M_readTask  {h : jm_H} {r : jm_Rs} (H :
  ((h.1 8 0 7) = 0 →
    ∃ (v1 : Int32) (h1 : jm_H), m_M_errs 4 h v1 h1 ∧
    r = (some (jm_i v1), h1)) ∧
  (¬ ((h.1 8 0 7) = 0) →
    jm_in ((3 + (h.1 8 0 7)) - 1) 6 ∧
    ((h.1 36 0 (((3 + (h.1 8 0 7)) - 1).toNatClampNeg)) = 6 →
      ∃ (v2 : Int32) (h2 : jm_H), m_M_errs 3 h v2 h2 ∧
      r = (some (jm_i v2), h2)) ∧
    (¬ ((h.1 36 0 (((3 + (h.1 8 0 7)) - 1).toNatClampNeg)) = 6) →
      ∃ h3 : jm_H, m_M_reads h h3 ∧
      ∃ (v4 : Int32) (h4 : jm_H), m_M_told 4 0 59 h3 v4 h4 ∧
      (v4 = (-1) →
        r = (some (jm_i (-1)), h4)) ∧
      (¬ (v4 = (-1)) →
        ∃ h5 : jm_H, m_M_reads h4 h5 ∧
        ∃ (v6 : Int32) (h6 : jm_H), m_M_told 5 (v4 + 1) 60 h5 v6 h6 ∧
        (v6 = (-1) →
          r = (some (jm_i (-1)), h6)) ∧
        (¬ (v6 = (-1)) →
          ∃ (v7 : Int32) (h7 : jm_H), m_M_roundWith ((3 + (h.1 8 0 7)) - 1) v6 h6 v7 h7 ∧
          (v7 ≤ 96 →
            ∃ (v8 : Int32) (h8 : jm_H), m_M_jobsWith ((3 + (h.1 8 0 7)) - 1) v6 v7 h7 v8 h8 ∧
            (v8 ≤ 24 →
              ∃ h9 : jm_H, m_M_reads h8 h9 ∧
              ∃ (v10 : Int32) (h10 : jm_H), m_M_told 6 1 60 h9 v10 h10 ∧
              (v10 = (-1) →
                r = (some (jm_i (-1)), h10)) ∧
              (¬ (v10 = (-1)) →
                ∃ h11 : jm_H, m_M_reads h10 h11 ∧
                ∃ (v12 : Int32) (h12 : jm_H), m_M_told 7 1 (v6 - v4) h11 v12 h12 ∧
                (v12 = (-1) →
                  r = (some (jm_i (-1)), h12)) ∧
                (¬ (v12 = (-1)) →
                  ∃ h13 : jm_H, m_M_reads h12 h13 ∧
                  jm_in ((3 + (h.1 8 0 7)) - 1) 6 ∧
                  jm_in ((6 * ((3 + (h.1 8 0 7)) - 1)) + (h13.1 36 0 (((3 + (h.1 8 0 7)) - 1).toNatClampNeg))) 36 ∧
                  jm_in ((6 * ((3 + (h.1 8 0 7)) - 1)) + (h13.1 36 0 (((3 + (h.1 8 0 7)) - 1).toNatClampNeg))) 36 ∧
                  jm_in ((6 * ((3 + (h.1 8 0 7)) - 1)) + (h13.1 36 0 (((3 + (h.1 8 0 7)) - 1).toNatClampNeg))) 36 ∧
                  jm_in ((6 * ((3 + (h.1 8 0 7)) - 1)) + (h13.1 36 0 (((3 + (h.1 8 0 7)) - 1).toNatClampNeg))) 36 ∧
                  jm_in ((3 + (h.1 8 0 7)) - 1) 6 ∧
                  jm_in ((3 + (h.1 8 0 7)) - 1) 6 ∧
                  jm_in ((3 + (h.1 8 0 7)) - 1) 6 ∧
                  r = (some (jm_i 0), (jm_sI (jm_sI (jm_sI (jm_sI (jm_sI (jm_sI h13 38 0 (((6 * ((3 + (h.1 8 0 7)) - 1)) + (h13.1 36 0 (((3 + (h.1 8 0 7)) - 1).toNatClampNeg))).toNatClampNeg) v4) 39 0 (((6 * ((3 + (h.1 8 0 7)) - 1)) + (h13.1 36 0 (((3 + (h.1 8 0 7)) - 1).toNatClampNeg))).toNatClampNeg) v6) 40 0 (((6 * ((3 + (h.1 8 0 7)) - 1)) + (h13.1 36 0 (((3 + (h.1 8 0 7)) - 1).toNatClampNeg))).toNatClampNeg) v10) 41 0 (((6 * ((3 + (h.1 8 0 7)) - 1)) + (h13.1 36 0 (((3 + (h.1 8 0 7)) - 1).toNatClampNeg))).toNatClampNeg) v12) 36 0 (((3 + (h.1 8 0 7)) - 1).toNatClampNeg) ((h13.1 36 0 (((3 + (h.1 8 0 7)) - 1).toNatClampNeg)) + 1)) 37 0 (((3 + (h.1 8 0 7)) - 1).toNatClampNeg) v7))))) ∧
            (¬ (v8 ≤ 24) →
              ∃ (v14 : Int32) (h14 : jm_H), m_M_errs 6 h8 v14 h14 ∧
              r = (some (jm_i v14), h14))) ∧
          (¬ (v7 ≤ 96) →
            ∃ (v15 : Int32) (h15 : jm_H), m_M_errs 5 h7 v15 h15 ∧
            r = (some (jm_i v15), h15))))))) : jm_R 99 [jm_r 8 0] h r := by
  refine jm_R_of hz_99 (Nat.le_of_ble_eq_true rfl) ?_
  show jm_E cod_99 (0, [some (jm_r 8 0), none, none, none, none, none, none, none], [], h) r
  refine jm_E_n 10 (x' := (if (h.1 8 0 7) = 0 then 10 else 14, [some (jm_r 8 0), some (jm_i ((3 + (h.1 8 0 7)) - 1)), none, none, none, none, none, none], [], h)) rfl ?_
  refine jm_E_ite (fun hc => ?_) (fun hc => ?_)
  · replace H := H.1 hc
    refine jm_E_n 2 (x' := (12, [some (jm_r 8 0), some (jm_i ((3 + (h.1 8 0 7)) - 1)), none, none, none, none, none, none], [jm_i 4, jm_r 8 0], h)) rfl ?_
    obtain ⟨v1, h1, hR, H⟩ := H
    refine jm_E_call rfl (Nat.le_of_ble_eq_true rfl) (Nat.le_of_ble_eq_true rfl) rfl hR trivial ?_
    refine jm_E_eq (x := (13, [some (jm_r 8 0), some (jm_i ((3 + (h.1 8 0 7)) - 1)), none, none, none, none, none, none], [jm_i v1], h1)) rfl ?_
    exact jm_E_ret rfl (by rw [H]; rfl)
  · replace H := H.2 hc
    refine jm_E_n 3 (x' := (17, [some (jm_r 8 0), some (jm_i ((3 + (h.1 8 0 7)) - 1)), none, none, none, none, none, none], [jm_i ((3 + (h.1 8 0 7)) - 1), jm_r 36 0], h)) rfl ?_
    refine jm_E_iald rfl rfl H.1 ?_
    replace H := H.2
    refine jm_E_eq (x := (18, [some (jm_r 8 0), some (jm_i ((3 + (h.1 8 0 7)) - 1)), none, none, none, none, none, none], [jm_i (h.1 36 0 (((3 + (h.1 8 0 7)) - 1).toNatClampNeg))], h)) rfl ?_
    refine jm_E_n 2 (x' := (if (h.1 36 0 (((3 + (h.1 8 0 7)) - 1).toNatClampNeg)) = 6 then 20 else 24, [some (jm_r 8 0), some (jm_i ((3 + (h.1 8 0 7)) - 1)), none, none, none, none, none, none], [], h)) rfl ?_
    refine jm_E_ite (fun hc => ?_) (fun hc => ?_)
    · replace H := H.1 hc
      refine jm_E_n 2 (x' := (22, [some (jm_r 8 0), some (jm_i ((3 + (h.1 8 0 7)) - 1)), none, none, none, none, none, none], [jm_i 3, jm_r 8 0], h)) rfl ?_
      obtain ⟨v2, h2, hR, H⟩ := H
      refine jm_E_call rfl (Nat.le_of_ble_eq_true rfl) (Nat.le_of_ble_eq_true rfl) rfl hR trivial ?_
      refine jm_E_eq (x := (23, [some (jm_r 8 0), some (jm_i ((3 + (h.1 8 0 7)) - 1)), none, none, none, none, none, none], [jm_i v2], h2)) rfl ?_
      exact jm_E_ret rfl (by rw [H]; rfl)
    · replace H := H.2 hc
      refine jm_E_n 1 (x' := (25, [some (jm_r 8 0), some (jm_i ((3 + (h.1 8 0 7)) - 1)), none, none, none, none, none, none], [jm_r 8 0], h)) rfl ?_
      obtain ⟨h3, hR, H⟩ := H
      refine jm_E_call rfl (Nat.le_of_ble_eq_true rfl) (Nat.le_of_ble_eq_true rfl) rfl hR trivial ?_
      refine jm_E_eq (x := (26, [some (jm_r 8 0), some (jm_i ((3 + (h.1 8 0 7)) - 1)), none, none, none, none, none, none], [], h3)) rfl ?_
      refine jm_E_n 4 (x' := (30, [some (jm_r 8 0), some (jm_i ((3 + (h.1 8 0 7)) - 1)), none, none, none, none, none, none], [jm_i 59, jm_i 0, jm_r 60 4, jm_r 8 0], h3)) rfl ?_
      obtain ⟨v4, h4, hR, H⟩ := H
      refine jm_E_call rfl (Nat.le_of_ble_eq_true rfl) (Nat.le_of_ble_eq_true rfl) rfl hR trivial ?_
      refine jm_E_eq (x := (31, [some (jm_r 8 0), some (jm_i ((3 + (h.1 8 0 7)) - 1)), none, none, none, none, none, none], [jm_i v4], h4)) rfl ?_
      refine jm_E_n 4 (x' := (if v4 = (-1) then 35 else 37, [some (jm_r 8 0), some (jm_i ((3 + (h.1 8 0 7)) - 1)), some (jm_i v4), none, none, none, none, none], [], h4)) rfl ?_
      refine jm_E_ite (fun hc => ?_) (fun hc => ?_)
      · replace H := H.1 hc
        refine jm_E_n 1 (x' := (36, [some (jm_r 8 0), some (jm_i ((3 + (h.1 8 0 7)) - 1)), some (jm_i v4), none, none, none, none, none], [jm_i (-1)], h4)) rfl ?_
        exact jm_E_ret rfl (by rw [H]; rfl)
      · replace H := H.2 hc
        refine jm_E_n 1 (x' := (38, [some (jm_r 8 0), some (jm_i ((3 + (h.1 8 0 7)) - 1)), some (jm_i v4), none, none, none, none, none], [jm_r 8 0], h4)) rfl ?_
        obtain ⟨h5, hR, H⟩ := H
        refine jm_E_call rfl (Nat.le_of_ble_eq_true rfl) (Nat.le_of_ble_eq_true rfl) rfl hR trivial ?_
        refine jm_E_eq (x := (39, [some (jm_r 8 0), some (jm_i ((3 + (h.1 8 0 7)) - 1)), some (jm_i v4), none, none, none, none, none], [], h5)) rfl ?_
        refine jm_E_n 6 (x' := (45, [some (jm_r 8 0), some (jm_i ((3 + (h.1 8 0 7)) - 1)), some (jm_i v4), none, none, none, none, none], [jm_i 60, jm_i (v4 + 1), jm_r 60 5, jm_r 8 0], h5)) rfl ?_
        obtain ⟨v6, h6, hR, H⟩ := H
        refine jm_E_call rfl (Nat.le_of_ble_eq_true rfl) (Nat.le_of_ble_eq_true rfl) rfl hR trivial ?_
        refine jm_E_eq (x := (46, [some (jm_r 8 0), some (jm_i ((3 + (h.1 8 0 7)) - 1)), some (jm_i v4), none, none, none, none, none], [jm_i v6], h6)) rfl ?_
        refine jm_E_n 4 (x' := (if v6 = (-1) then 50 else 52, [some (jm_r 8 0), some (jm_i ((3 + (h.1 8 0 7)) - 1)), some (jm_i v4), some (jm_i v6), none, none, none, none], [], h6)) rfl ?_
        refine jm_E_ite (fun hc => ?_) (fun hc => ?_)
        · replace H := H.1 hc
          refine jm_E_n 1 (x' := (51, [some (jm_r 8 0), some (jm_i ((3 + (h.1 8 0 7)) - 1)), some (jm_i v4), some (jm_i v6), none, none, none, none], [jm_i (-1)], h6)) rfl ?_
          exact jm_E_ret rfl (by rw [H]; rfl)
        · replace H := H.2 hc
          refine jm_E_n 3 (x' := (55, [some (jm_r 8 0), some (jm_i ((3 + (h.1 8 0 7)) - 1)), some (jm_i v4), some (jm_i v6), none, none, none, none], [jm_i v6, jm_i ((3 + (h.1 8 0 7)) - 1), jm_r 8 0], h6)) rfl ?_
          obtain ⟨v7, h7, hR, H⟩ := H
          refine jm_E_call rfl (Nat.le_of_ble_eq_true rfl) (Nat.le_of_ble_eq_true rfl) rfl hR trivial ?_
          refine jm_E_eq (x := (56, [some (jm_r 8 0), some (jm_i ((3 + (h.1 8 0 7)) - 1)), some (jm_i v4), some (jm_i v6), none, none, none, none], [jm_i v7], h7)) rfl ?_
          refine jm_E_n 4 (x' := (if v7 ≤ 96 then 64 else 60, [some (jm_r 8 0), some (jm_i ((3 + (h.1 8 0 7)) - 1)), some (jm_i v4), some (jm_i v6), some (jm_i v7), none, none, none], [], h7)) rfl ?_
          refine jm_E_ite (fun hc => ?_) (fun hc => ?_)
          · replace H := H.1 hc
            refine jm_E_n 4 (x' := (68, [some (jm_r 8 0), some (jm_i ((3 + (h.1 8 0 7)) - 1)), some (jm_i v4), some (jm_i v6), some (jm_i v7), none, none, none], [jm_i v7, jm_i v6, jm_i ((3 + (h.1 8 0 7)) - 1), jm_r 8 0], h7)) rfl ?_
            obtain ⟨v8, h8, hR, H⟩ := H
            refine jm_E_call rfl (Nat.le_of_ble_eq_true rfl) (Nat.le_of_ble_eq_true rfl) rfl hR trivial ?_
            refine jm_E_eq (x := (69, [some (jm_r 8 0), some (jm_i ((3 + (h.1 8 0 7)) - 1)), some (jm_i v4), some (jm_i v6), some (jm_i v7), none, none, none], [jm_i v8], h8)) rfl ?_
            refine jm_E_n 2 (x' := (if v8 ≤ 24 then 75 else 71, [some (jm_r 8 0), some (jm_i ((3 + (h.1 8 0 7)) - 1)), some (jm_i v4), some (jm_i v6), some (jm_i v7), none, none, none], [], h8)) rfl ?_
            refine jm_E_ite (fun hc => ?_) (fun hc => ?_)
            · replace H := H.1 hc
              refine jm_E_n 1 (x' := (76, [some (jm_r 8 0), some (jm_i ((3 + (h.1 8 0 7)) - 1)), some (jm_i v4), some (jm_i v6), some (jm_i v7), none, none, none], [jm_r 8 0], h8)) rfl ?_
              obtain ⟨h9, hR, H⟩ := H
              refine jm_E_call rfl (Nat.le_of_ble_eq_true rfl) (Nat.le_of_ble_eq_true rfl) rfl hR trivial ?_
              refine jm_E_eq (x := (77, [some (jm_r 8 0), some (jm_i ((3 + (h.1 8 0 7)) - 1)), some (jm_i v4), some (jm_i v6), some (jm_i v7), none, none, none], [], h9)) rfl ?_
              refine jm_E_n 4 (x' := (81, [some (jm_r 8 0), some (jm_i ((3 + (h.1 8 0 7)) - 1)), some (jm_i v4), some (jm_i v6), some (jm_i v7), none, none, none], [jm_i 60, jm_i 1, jm_r 60 6, jm_r 8 0], h9)) rfl ?_
              obtain ⟨v10, h10, hR, H⟩ := H
              refine jm_E_call rfl (Nat.le_of_ble_eq_true rfl) (Nat.le_of_ble_eq_true rfl) rfl hR trivial ?_
              refine jm_E_eq (x := (82, [some (jm_r 8 0), some (jm_i ((3 + (h.1 8 0 7)) - 1)), some (jm_i v4), some (jm_i v6), some (jm_i v7), none, none, none], [jm_i v10], h10)) rfl ?_
              refine jm_E_n 4 (x' := (if v10 = (-1) then 86 else 88, [some (jm_r 8 0), some (jm_i ((3 + (h.1 8 0 7)) - 1)), some (jm_i v4), some (jm_i v6), some (jm_i v7), some (jm_i v10), none, none], [], h10)) rfl ?_
              refine jm_E_ite (fun hc => ?_) (fun hc => ?_)
              · replace H := H.1 hc
                refine jm_E_n 1 (x' := (87, [some (jm_r 8 0), some (jm_i ((3 + (h.1 8 0 7)) - 1)), some (jm_i v4), some (jm_i v6), some (jm_i v7), some (jm_i v10), none, none], [jm_i (-1)], h10)) rfl ?_
                exact jm_E_ret rfl (by rw [H]; rfl)
              · replace H := H.2 hc
                refine jm_E_n 1 (x' := (89, [some (jm_r 8 0), some (jm_i ((3 + (h.1 8 0 7)) - 1)), some (jm_i v4), some (jm_i v6), some (jm_i v7), some (jm_i v10), none, none], [jm_r 8 0], h10)) rfl ?_
                obtain ⟨h11, hR, H⟩ := H
                refine jm_E_call rfl (Nat.le_of_ble_eq_true rfl) (Nat.le_of_ble_eq_true rfl) rfl hR trivial ?_
                refine jm_E_eq (x := (90, [some (jm_r 8 0), some (jm_i ((3 + (h.1 8 0 7)) - 1)), some (jm_i v4), some (jm_i v6), some (jm_i v7), some (jm_i v10), none, none], [], h11)) rfl ?_
                refine jm_E_n 6 (x' := (96, [some (jm_r 8 0), some (jm_i ((3 + (h.1 8 0 7)) - 1)), some (jm_i v4), some (jm_i v6), some (jm_i v7), some (jm_i v10), none, none], [jm_i (v6 - v4), jm_i 1, jm_r 60 7, jm_r 8 0], h11)) rfl ?_
                obtain ⟨v12, h12, hR, H⟩ := H
                refine jm_E_call rfl (Nat.le_of_ble_eq_true rfl) (Nat.le_of_ble_eq_true rfl) rfl hR trivial ?_
                refine jm_E_eq (x := (97, [some (jm_r 8 0), some (jm_i ((3 + (h.1 8 0 7)) - 1)), some (jm_i v4), some (jm_i v6), some (jm_i v7), some (jm_i v10), none, none], [jm_i v12], h12)) rfl ?_
                refine jm_E_n 4 (x' := (if v12 = (-1) then 101 else 103, [some (jm_r 8 0), some (jm_i ((3 + (h.1 8 0 7)) - 1)), some (jm_i v4), some (jm_i v6), some (jm_i v7), some (jm_i v10), some (jm_i v12), none], [], h12)) rfl ?_
                refine jm_E_ite (fun hc => ?_) (fun hc => ?_)
                · replace H := H.1 hc
                  refine jm_E_n 1 (x' := (102, [some (jm_r 8 0), some (jm_i ((3 + (h.1 8 0 7)) - 1)), some (jm_i v4), some (jm_i v6), some (jm_i v7), some (jm_i v10), some (jm_i v12), none], [jm_i (-1)], h12)) rfl ?_
                  exact jm_E_ret rfl (by rw [H]; rfl)
                · replace H := H.2 hc
                  refine jm_E_n 1 (x' := (104, [some (jm_r 8 0), some (jm_i ((3 + (h.1 8 0 7)) - 1)), some (jm_i v4), some (jm_i v6), some (jm_i v7), some (jm_i v10), some (jm_i v12), none], [jm_r 8 0], h12)) rfl ?_
                  obtain ⟨h13, hR, H⟩ := H
                  refine jm_E_call rfl (Nat.le_of_ble_eq_true rfl) (Nat.le_of_ble_eq_true rfl) rfl hR trivial ?_
                  refine jm_E_eq (x := (105, [some (jm_r 8 0), some (jm_i ((3 + (h.1 8 0 7)) - 1)), some (jm_i v4), some (jm_i v6), some (jm_i v7), some (jm_i v10), some (jm_i v12), none], [], h13)) rfl ?_
                  refine jm_E_n 6 (x' := (111, [some (jm_r 8 0), some (jm_i ((3 + (h.1 8 0 7)) - 1)), some (jm_i v4), some (jm_i v6), some (jm_i v7), some (jm_i v10), some (jm_i v12), none], [jm_i ((3 + (h.1 8 0 7)) - 1), jm_r 36 0, jm_i (6 * ((3 + (h.1 8 0 7)) - 1))], h13)) rfl ?_
                  refine jm_E_iald rfl rfl H.1 ?_
                  replace H := H.2
                  refine jm_E_eq (x := (112, [some (jm_r 8 0), some (jm_i ((3 + (h.1 8 0 7)) - 1)), some (jm_i v4), some (jm_i v6), some (jm_i v7), some (jm_i v10), some (jm_i v12), none], [jm_i (h13.1 36 0 (((3 + (h.1 8 0 7)) - 1).toNatClampNeg)), jm_i (6 * ((3 + (h.1 8 0 7)) - 1))], h13)) rfl ?_
                  refine jm_E_n 6 (x' := (118, [some (jm_r 8 0), some (jm_i ((3 + (h.1 8 0 7)) - 1)), some (jm_i v4), some (jm_i v6), some (jm_i v7), some (jm_i v10), some (jm_i v12), some (jm_i ((6 * ((3 + (h.1 8 0 7)) - 1)) + (h13.1 36 0 (((3 + (h.1 8 0 7)) - 1).toNatClampNeg))))], [jm_i v4, jm_i ((6 * ((3 + (h.1 8 0 7)) - 1)) + (h13.1 36 0 (((3 + (h.1 8 0 7)) - 1).toNatClampNeg))), jm_r 38 0], h13)) rfl ?_
                  refine jm_E_iast rfl rfl H.1 ?_
                  replace H := H.2
                  refine jm_E_eq (x := (119, [some (jm_r 8 0), some (jm_i ((3 + (h.1 8 0 7)) - 1)), some (jm_i v4), some (jm_i v6), some (jm_i v7), some (jm_i v10), some (jm_i v12), some (jm_i ((6 * ((3 + (h.1 8 0 7)) - 1)) + (h13.1 36 0 (((3 + (h.1 8 0 7)) - 1).toNatClampNeg))))], [], (jm_sI h13 38 0 (((6 * ((3 + (h.1 8 0 7)) - 1)) + (h13.1 36 0 (((3 + (h.1 8 0 7)) - 1).toNatClampNeg))).toNatClampNeg) v4))) rfl ?_
                  refine jm_E_n 4 (x' := (123, [some (jm_r 8 0), some (jm_i ((3 + (h.1 8 0 7)) - 1)), some (jm_i v4), some (jm_i v6), some (jm_i v7), some (jm_i v10), some (jm_i v12), some (jm_i ((6 * ((3 + (h.1 8 0 7)) - 1)) + (h13.1 36 0 (((3 + (h.1 8 0 7)) - 1).toNatClampNeg))))], [jm_i v6, jm_i ((6 * ((3 + (h.1 8 0 7)) - 1)) + (h13.1 36 0 (((3 + (h.1 8 0 7)) - 1).toNatClampNeg))), jm_r 39 0], (jm_sI h13 38 0 (((6 * ((3 + (h.1 8 0 7)) - 1)) + (h13.1 36 0 (((3 + (h.1 8 0 7)) - 1).toNatClampNeg))).toNatClampNeg) v4))) rfl ?_
                  refine jm_E_iast rfl rfl H.1 ?_
                  replace H := H.2
                  refine jm_E_eq (x := (124, [some (jm_r 8 0), some (jm_i ((3 + (h.1 8 0 7)) - 1)), some (jm_i v4), some (jm_i v6), some (jm_i v7), some (jm_i v10), some (jm_i v12), some (jm_i ((6 * ((3 + (h.1 8 0 7)) - 1)) + (h13.1 36 0 (((3 + (h.1 8 0 7)) - 1).toNatClampNeg))))], [], (jm_sI (jm_sI h13 38 0 (((6 * ((3 + (h.1 8 0 7)) - 1)) + (h13.1 36 0 (((3 + (h.1 8 0 7)) - 1).toNatClampNeg))).toNatClampNeg) v4) 39 0 (((6 * ((3 + (h.1 8 0 7)) - 1)) + (h13.1 36 0 (((3 + (h.1 8 0 7)) - 1).toNatClampNeg))).toNatClampNeg) v6))) rfl ?_
                  refine jm_E_n 4 (x' := (128, [some (jm_r 8 0), some (jm_i ((3 + (h.1 8 0 7)) - 1)), some (jm_i v4), some (jm_i v6), some (jm_i v7), some (jm_i v10), some (jm_i v12), some (jm_i ((6 * ((3 + (h.1 8 0 7)) - 1)) + (h13.1 36 0 (((3 + (h.1 8 0 7)) - 1).toNatClampNeg))))], [jm_i v10, jm_i ((6 * ((3 + (h.1 8 0 7)) - 1)) + (h13.1 36 0 (((3 + (h.1 8 0 7)) - 1).toNatClampNeg))), jm_r 40 0], (jm_sI (jm_sI h13 38 0 (((6 * ((3 + (h.1 8 0 7)) - 1)) + (h13.1 36 0 (((3 + (h.1 8 0 7)) - 1).toNatClampNeg))).toNatClampNeg) v4) 39 0 (((6 * ((3 + (h.1 8 0 7)) - 1)) + (h13.1 36 0 (((3 + (h.1 8 0 7)) - 1).toNatClampNeg))).toNatClampNeg) v6))) rfl ?_
                  refine jm_E_iast rfl rfl H.1 ?_
                  replace H := H.2
                  refine jm_E_eq (x := (129, [some (jm_r 8 0), some (jm_i ((3 + (h.1 8 0 7)) - 1)), some (jm_i v4), some (jm_i v6), some (jm_i v7), some (jm_i v10), some (jm_i v12), some (jm_i ((6 * ((3 + (h.1 8 0 7)) - 1)) + (h13.1 36 0 (((3 + (h.1 8 0 7)) - 1).toNatClampNeg))))], [], (jm_sI (jm_sI (jm_sI h13 38 0 (((6 * ((3 + (h.1 8 0 7)) - 1)) + (h13.1 36 0 (((3 + (h.1 8 0 7)) - 1).toNatClampNeg))).toNatClampNeg) v4) 39 0 (((6 * ((3 + (h.1 8 0 7)) - 1)) + (h13.1 36 0 (((3 + (h.1 8 0 7)) - 1).toNatClampNeg))).toNatClampNeg) v6) 40 0 (((6 * ((3 + (h.1 8 0 7)) - 1)) + (h13.1 36 0 (((3 + (h.1 8 0 7)) - 1).toNatClampNeg))).toNatClampNeg) v10))) rfl ?_
                  refine jm_E_n 4 (x' := (133, [some (jm_r 8 0), some (jm_i ((3 + (h.1 8 0 7)) - 1)), some (jm_i v4), some (jm_i v6), some (jm_i v7), some (jm_i v10), some (jm_i v12), some (jm_i ((6 * ((3 + (h.1 8 0 7)) - 1)) + (h13.1 36 0 (((3 + (h.1 8 0 7)) - 1).toNatClampNeg))))], [jm_i v12, jm_i ((6 * ((3 + (h.1 8 0 7)) - 1)) + (h13.1 36 0 (((3 + (h.1 8 0 7)) - 1).toNatClampNeg))), jm_r 41 0], (jm_sI (jm_sI (jm_sI h13 38 0 (((6 * ((3 + (h.1 8 0 7)) - 1)) + (h13.1 36 0 (((3 + (h.1 8 0 7)) - 1).toNatClampNeg))).toNatClampNeg) v4) 39 0 (((6 * ((3 + (h.1 8 0 7)) - 1)) + (h13.1 36 0 (((3 + (h.1 8 0 7)) - 1).toNatClampNeg))).toNatClampNeg) v6) 40 0 (((6 * ((3 + (h.1 8 0 7)) - 1)) + (h13.1 36 0 (((3 + (h.1 8 0 7)) - 1).toNatClampNeg))).toNatClampNeg) v10))) rfl ?_
                  refine jm_E_iast rfl rfl H.1 ?_
                  replace H := H.2
                  refine jm_E_eq (x := (134, [some (jm_r 8 0), some (jm_i ((3 + (h.1 8 0 7)) - 1)), some (jm_i v4), some (jm_i v6), some (jm_i v7), some (jm_i v10), some (jm_i v12), some (jm_i ((6 * ((3 + (h.1 8 0 7)) - 1)) + (h13.1 36 0 (((3 + (h.1 8 0 7)) - 1).toNatClampNeg))))], [], (jm_sI (jm_sI (jm_sI (jm_sI h13 38 0 (((6 * ((3 + (h.1 8 0 7)) - 1)) + (h13.1 36 0 (((3 + (h.1 8 0 7)) - 1).toNatClampNeg))).toNatClampNeg) v4) 39 0 (((6 * ((3 + (h.1 8 0 7)) - 1)) + (h13.1 36 0 (((3 + (h.1 8 0 7)) - 1).toNatClampNeg))).toNatClampNeg) v6) 40 0 (((6 * ((3 + (h.1 8 0 7)) - 1)) + (h13.1 36 0 (((3 + (h.1 8 0 7)) - 1).toNatClampNeg))).toNatClampNeg) v10) 41 0 (((6 * ((3 + (h.1 8 0 7)) - 1)) + (h13.1 36 0 (((3 + (h.1 8 0 7)) - 1).toNatClampNeg))).toNatClampNeg) v12))) rfl ?_
                  refine jm_E_n 4 (x' := (138, [some (jm_r 8 0), some (jm_i ((3 + (h.1 8 0 7)) - 1)), some (jm_i v4), some (jm_i v6), some (jm_i v7), some (jm_i v10), some (jm_i v12), some (jm_i ((6 * ((3 + (h.1 8 0 7)) - 1)) + (h13.1 36 0 (((3 + (h.1 8 0 7)) - 1).toNatClampNeg))))], [jm_i ((3 + (h.1 8 0 7)) - 1), jm_r 36 0, jm_i ((3 + (h.1 8 0 7)) - 1), jm_r 36 0], (jm_sI (jm_sI (jm_sI (jm_sI h13 38 0 (((6 * ((3 + (h.1 8 0 7)) - 1)) + (h13.1 36 0 (((3 + (h.1 8 0 7)) - 1).toNatClampNeg))).toNatClampNeg) v4) 39 0 (((6 * ((3 + (h.1 8 0 7)) - 1)) + (h13.1 36 0 (((3 + (h.1 8 0 7)) - 1).toNatClampNeg))).toNatClampNeg) v6) 40 0 (((6 * ((3 + (h.1 8 0 7)) - 1)) + (h13.1 36 0 (((3 + (h.1 8 0 7)) - 1).toNatClampNeg))).toNatClampNeg) v10) 41 0 (((6 * ((3 + (h.1 8 0 7)) - 1)) + (h13.1 36 0 (((3 + (h.1 8 0 7)) - 1).toNatClampNeg))).toNatClampNeg) v12))) rfl ?_
                  refine jm_E_iald rfl rfl H.1 ?_
                  replace H := H.2
                  refine jm_E_eq (x := (139, [some (jm_r 8 0), some (jm_i ((3 + (h.1 8 0 7)) - 1)), some (jm_i v4), some (jm_i v6), some (jm_i v7), some (jm_i v10), some (jm_i v12), some (jm_i ((6 * ((3 + (h.1 8 0 7)) - 1)) + (h13.1 36 0 (((3 + (h.1 8 0 7)) - 1).toNatClampNeg))))], [jm_i (h13.1 36 0 (((3 + (h.1 8 0 7)) - 1).toNatClampNeg)), jm_i ((3 + (h.1 8 0 7)) - 1), jm_r 36 0], (jm_sI (jm_sI (jm_sI (jm_sI h13 38 0 (((6 * ((3 + (h.1 8 0 7)) - 1)) + (h13.1 36 0 (((3 + (h.1 8 0 7)) - 1).toNatClampNeg))).toNatClampNeg) v4) 39 0 (((6 * ((3 + (h.1 8 0 7)) - 1)) + (h13.1 36 0 (((3 + (h.1 8 0 7)) - 1).toNatClampNeg))).toNatClampNeg) v6) 40 0 (((6 * ((3 + (h.1 8 0 7)) - 1)) + (h13.1 36 0 (((3 + (h.1 8 0 7)) - 1).toNatClampNeg))).toNatClampNeg) v10) 41 0 (((6 * ((3 + (h.1 8 0 7)) - 1)) + (h13.1 36 0 (((3 + (h.1 8 0 7)) - 1).toNatClampNeg))).toNatClampNeg) v12))) rfl ?_
                  refine jm_E_n 2 (x' := (141, [some (jm_r 8 0), some (jm_i ((3 + (h.1 8 0 7)) - 1)), some (jm_i v4), some (jm_i v6), some (jm_i v7), some (jm_i v10), some (jm_i v12), some (jm_i ((6 * ((3 + (h.1 8 0 7)) - 1)) + (h13.1 36 0 (((3 + (h.1 8 0 7)) - 1).toNatClampNeg))))], [jm_i ((h13.1 36 0 (((3 + (h.1 8 0 7)) - 1).toNatClampNeg)) + 1), jm_i ((3 + (h.1 8 0 7)) - 1), jm_r 36 0], (jm_sI (jm_sI (jm_sI (jm_sI h13 38 0 (((6 * ((3 + (h.1 8 0 7)) - 1)) + (h13.1 36 0 (((3 + (h.1 8 0 7)) - 1).toNatClampNeg))).toNatClampNeg) v4) 39 0 (((6 * ((3 + (h.1 8 0 7)) - 1)) + (h13.1 36 0 (((3 + (h.1 8 0 7)) - 1).toNatClampNeg))).toNatClampNeg) v6) 40 0 (((6 * ((3 + (h.1 8 0 7)) - 1)) + (h13.1 36 0 (((3 + (h.1 8 0 7)) - 1).toNatClampNeg))).toNatClampNeg) v10) 41 0 (((6 * ((3 + (h.1 8 0 7)) - 1)) + (h13.1 36 0 (((3 + (h.1 8 0 7)) - 1).toNatClampNeg))).toNatClampNeg) v12))) rfl ?_
                  refine jm_E_iast rfl rfl H.1 ?_
                  replace H := H.2
                  refine jm_E_eq (x := (142, [some (jm_r 8 0), some (jm_i ((3 + (h.1 8 0 7)) - 1)), some (jm_i v4), some (jm_i v6), some (jm_i v7), some (jm_i v10), some (jm_i v12), some (jm_i ((6 * ((3 + (h.1 8 0 7)) - 1)) + (h13.1 36 0 (((3 + (h.1 8 0 7)) - 1).toNatClampNeg))))], [], (jm_sI (jm_sI (jm_sI (jm_sI (jm_sI h13 38 0 (((6 * ((3 + (h.1 8 0 7)) - 1)) + (h13.1 36 0 (((3 + (h.1 8 0 7)) - 1).toNatClampNeg))).toNatClampNeg) v4) 39 0 (((6 * ((3 + (h.1 8 0 7)) - 1)) + (h13.1 36 0 (((3 + (h.1 8 0 7)) - 1).toNatClampNeg))).toNatClampNeg) v6) 40 0 (((6 * ((3 + (h.1 8 0 7)) - 1)) + (h13.1 36 0 (((3 + (h.1 8 0 7)) - 1).toNatClampNeg))).toNatClampNeg) v10) 41 0 (((6 * ((3 + (h.1 8 0 7)) - 1)) + (h13.1 36 0 (((3 + (h.1 8 0 7)) - 1).toNatClampNeg))).toNatClampNeg) v12) 36 0 (((3 + (h.1 8 0 7)) - 1).toNatClampNeg) ((h13.1 36 0 (((3 + (h.1 8 0 7)) - 1).toNatClampNeg)) + 1)))) rfl ?_
                  refine jm_E_n 4 (x' := (146, [some (jm_r 8 0), some (jm_i ((3 + (h.1 8 0 7)) - 1)), some (jm_i v4), some (jm_i v6), some (jm_i v7), some (jm_i v10), some (jm_i v12), some (jm_i ((6 * ((3 + (h.1 8 0 7)) - 1)) + (h13.1 36 0 (((3 + (h.1 8 0 7)) - 1).toNatClampNeg))))], [jm_i v7, jm_i ((3 + (h.1 8 0 7)) - 1), jm_r 37 0], (jm_sI (jm_sI (jm_sI (jm_sI (jm_sI h13 38 0 (((6 * ((3 + (h.1 8 0 7)) - 1)) + (h13.1 36 0 (((3 + (h.1 8 0 7)) - 1).toNatClampNeg))).toNatClampNeg) v4) 39 0 (((6 * ((3 + (h.1 8 0 7)) - 1)) + (h13.1 36 0 (((3 + (h.1 8 0 7)) - 1).toNatClampNeg))).toNatClampNeg) v6) 40 0 (((6 * ((3 + (h.1 8 0 7)) - 1)) + (h13.1 36 0 (((3 + (h.1 8 0 7)) - 1).toNatClampNeg))).toNatClampNeg) v10) 41 0 (((6 * ((3 + (h.1 8 0 7)) - 1)) + (h13.1 36 0 (((3 + (h.1 8 0 7)) - 1).toNatClampNeg))).toNatClampNeg) v12) 36 0 (((3 + (h.1 8 0 7)) - 1).toNatClampNeg) ((h13.1 36 0 (((3 + (h.1 8 0 7)) - 1).toNatClampNeg)) + 1)))) rfl ?_
                  refine jm_E_iast rfl rfl H.1 ?_
                  replace H := H.2
                  refine jm_E_eq (x := (147, [some (jm_r 8 0), some (jm_i ((3 + (h.1 8 0 7)) - 1)), some (jm_i v4), some (jm_i v6), some (jm_i v7), some (jm_i v10), some (jm_i v12), some (jm_i ((6 * ((3 + (h.1 8 0 7)) - 1)) + (h13.1 36 0 (((3 + (h.1 8 0 7)) - 1).toNatClampNeg))))], [], (jm_sI (jm_sI (jm_sI (jm_sI (jm_sI (jm_sI h13 38 0 (((6 * ((3 + (h.1 8 0 7)) - 1)) + (h13.1 36 0 (((3 + (h.1 8 0 7)) - 1).toNatClampNeg))).toNatClampNeg) v4) 39 0 (((6 * ((3 + (h.1 8 0 7)) - 1)) + (h13.1 36 0 (((3 + (h.1 8 0 7)) - 1).toNatClampNeg))).toNatClampNeg) v6) 40 0 (((6 * ((3 + (h.1 8 0 7)) - 1)) + (h13.1 36 0 (((3 + (h.1 8 0 7)) - 1).toNatClampNeg))).toNatClampNeg) v10) 41 0 (((6 * ((3 + (h.1 8 0 7)) - 1)) + (h13.1 36 0 (((3 + (h.1 8 0 7)) - 1).toNatClampNeg))).toNatClampNeg) v12) 36 0 (((3 + (h.1 8 0 7)) - 1).toNatClampNeg) ((h13.1 36 0 (((3 + (h.1 8 0 7)) - 1).toNatClampNeg)) + 1)) 37 0 (((3 + (h.1 8 0 7)) - 1).toNatClampNeg) v7))) rfl ?_
                  refine jm_E_n 1 (x' := (148, [some (jm_r 8 0), some (jm_i ((3 + (h.1 8 0 7)) - 1)), some (jm_i v4), some (jm_i v6), some (jm_i v7), some (jm_i v10), some (jm_i v12), some (jm_i ((6 * ((3 + (h.1 8 0 7)) - 1)) + (h13.1 36 0 (((3 + (h.1 8 0 7)) - 1).toNatClampNeg))))], [jm_i 0], (jm_sI (jm_sI (jm_sI (jm_sI (jm_sI (jm_sI h13 38 0 (((6 * ((3 + (h.1 8 0 7)) - 1)) + (h13.1 36 0 (((3 + (h.1 8 0 7)) - 1).toNatClampNeg))).toNatClampNeg) v4) 39 0 (((6 * ((3 + (h.1 8 0 7)) - 1)) + (h13.1 36 0 (((3 + (h.1 8 0 7)) - 1).toNatClampNeg))).toNatClampNeg) v6) 40 0 (((6 * ((3 + (h.1 8 0 7)) - 1)) + (h13.1 36 0 (((3 + (h.1 8 0 7)) - 1).toNatClampNeg))).toNatClampNeg) v10) 41 0 (((6 * ((3 + (h.1 8 0 7)) - 1)) + (h13.1 36 0 (((3 + (h.1 8 0 7)) - 1).toNatClampNeg))).toNatClampNeg) v12) 36 0 (((3 + (h.1 8 0 7)) - 1).toNatClampNeg) ((h13.1 36 0 (((3 + (h.1 8 0 7)) - 1).toNatClampNeg)) + 1)) 37 0 (((3 + (h.1 8 0 7)) - 1).toNatClampNeg) v7))) rfl ?_
                  exact jm_E_ret rfl (by rw [H]; rfl)
            · replace H := H.2 hc
              refine jm_E_n 2 (x' := (73, [some (jm_r 8 0), some (jm_i ((3 + (h.1 8 0 7)) - 1)), some (jm_i v4), some (jm_i v6), some (jm_i v7), none, none, none], [jm_i 6, jm_r 8 0], h8)) rfl ?_
              obtain ⟨v14, h14, hR, H⟩ := H
              refine jm_E_call rfl (Nat.le_of_ble_eq_true rfl) (Nat.le_of_ble_eq_true rfl) rfl hR trivial ?_
              refine jm_E_eq (x := (74, [some (jm_r 8 0), some (jm_i ((3 + (h.1 8 0 7)) - 1)), some (jm_i v4), some (jm_i v6), some (jm_i v7), none, none, none], [jm_i v14], h14)) rfl ?_
              exact jm_E_ret rfl (by rw [H]; rfl)
          · replace H := H.2 hc
            refine jm_E_n 2 (x' := (62, [some (jm_r 8 0), some (jm_i ((3 + (h.1 8 0 7)) - 1)), some (jm_i v4), some (jm_i v6), some (jm_i v7), none, none, none], [jm_i 5, jm_r 8 0], h7)) rfl ?_
            obtain ⟨v15, h15, hR, H⟩ := H
            refine jm_E_call rfl (Nat.le_of_ble_eq_true rfl) (Nat.le_of_ble_eq_true rfl) rfl hR trivial ?_
            refine jm_E_eq (x := (63, [some (jm_r 8 0), some (jm_i ((3 + (h.1 8 0 7)) - 1)), some (jm_i v4), some (jm_i v6), some (jm_i v7), none, none, none], [jm_i v15], h15)) rfl ?_
            exact jm_E_ret rfl (by rw [H]; rfl)
set_option maxRecDepth 100000 in
theorem wp_M_readLine  {h : jm_H} {r : jm_Rs} (H :
  ∃ (v1 : Int32) (h1 : jm_H), m_M_isWord 0 h v1 h1 ∧
  (v1 = 0 →
    ∃ (v2 : Int32) (h2 : jm_H), m_M_isWord 1 h1 v2 h2 ∧
    (v2 = 0 →
      ∃ (v3 : Int32) (h3 : jm_H), m_M_errs 1 h2 v3 h3 ∧
      r = (some (jm_i v3), h3)) ∧
    (¬ (v2 = 0) →
      ∃ (v4 : Int32) (h4 : jm_H), m_M_readTask h2 v4 h4 ∧
      r = (some (jm_i v4), h4))) ∧
  (¬ (v1 = 0) →
    ∃ (v5 : Int32) (h5 : jm_H), m_M_readMode h1 v5 h5 ∧
    r = (some (jm_i v5), h5))) : jm_R 100 [jm_r 8 0] h r := by
  refine jm_R_of hz_100 (Nat.le_of_ble_eq_true rfl) ?_
  show jm_E cod_100 (0, [some (jm_r 8 0)], [], h) r
  refine jm_E_n 2 (x' := (2, [some (jm_r 8 0)], [jm_r 60 0, jm_r 8 0], h)) rfl ?_
  obtain ⟨v1, h1, hR, H⟩ := H
  refine jm_E_call rfl (Nat.le_of_ble_eq_true rfl) (Nat.le_of_ble_eq_true rfl) rfl hR trivial ?_
  refine jm_E_eq (x := (3, [some (jm_r 8 0)], [jm_i v1], h1)) rfl ?_
  refine jm_E_n 1 (x' := (if v1 = 0 then 7 else 4, [some (jm_r 8 0)], [], h1)) rfl ?_
  refine jm_E_ite (fun hc => ?_) (fun hc => ?_)
  · replace H := H.1 hc
    refine jm_E_n 2 (x' := (9, [some (jm_r 8 0)], [jm_r 60 1, jm_r 8 0], h1)) rfl ?_
    obtain ⟨v2, h2, hR, H⟩ := H
    refine jm_E_call rfl (Nat.le_of_ble_eq_true rfl) (Nat.le_of_ble_eq_true rfl) rfl hR trivial ?_
    refine jm_E_eq (x := (10, [some (jm_r 8 0)], [jm_i v2], h2)) rfl ?_
    refine jm_E_n 1 (x' := (if v2 = 0 then 14 else 11, [some (jm_r 8 0)], [], h2)) rfl ?_
    refine jm_E_ite (fun hc => ?_) (fun hc => ?_)
    · replace H := H.1 hc
      refine jm_E_n 2 (x' := (16, [some (jm_r 8 0)], [jm_i 1, jm_r 8 0], h2)) rfl ?_
      obtain ⟨v3, h3, hR, H⟩ := H
      refine jm_E_call rfl (Nat.le_of_ble_eq_true rfl) (Nat.le_of_ble_eq_true rfl) rfl hR trivial ?_
      refine jm_E_eq (x := (17, [some (jm_r 8 0)], [jm_i v3], h3)) rfl ?_
      exact jm_E_ret rfl (by rw [H]; rfl)
    · replace H := H.2 hc
      refine jm_E_n 1 (x' := (12, [some (jm_r 8 0)], [jm_r 8 0], h2)) rfl ?_
      obtain ⟨v4, h4, hR, H⟩ := H
      refine jm_E_call rfl (Nat.le_of_ble_eq_true rfl) (Nat.le_of_ble_eq_true rfl) rfl hR trivial ?_
      refine jm_E_eq (x := (13, [some (jm_r 8 0)], [jm_i v4], h4)) rfl ?_
      refine jm_E_n 1 (x' := (17, [some (jm_r 8 0)], [jm_i v4], h4)) rfl ?_
      exact jm_E_ret rfl (by rw [H]; rfl)
  · replace H := H.2 hc
    refine jm_E_n 1 (x' := (5, [some (jm_r 8 0)], [jm_r 8 0], h1)) rfl ?_
    obtain ⟨v5, h5, hR, H⟩ := H
    refine jm_E_call rfl (Nat.le_of_ble_eq_true rfl) (Nat.le_of_ble_eq_true rfl) rfl hR trivial ?_
    refine jm_E_eq (x := (6, [some (jm_r 8 0)], [jm_i v5], h5)) rfl ?_
    exact jm_E_ret rfl (by rw [H]; rfl)
set_option maxRecDepth 100000 in
theorem wp_M_readPlan_17  {h : jm_H} {r : jm_Rs} (H :
  ((h.1 8 0 19) = 59 →
    ∃ h3 : jm_H, m_M_reads h h3 ∧
    ∃ (v4 : Int32) (h4 : jm_H), m_M_readLine h3 v4 h4 ∧
    (v4 = (-1) →
      r = (some (jm_i (-1)), h4)) ∧
    (¬ (v4 = (-1)) →
      l_M_readPlan_17 h4 r)) ∧
  (¬ ((h.1 8 0 19) = 59) →
    ((h.1 8 0 19) = 0 →
      ((h.1 8 0 7) = 0 →
        ∃ (v5 : Int32) (h5 : jm_H), m_M_errs 4 h v5 h5 ∧
        r = (some (jm_i v5), h5)) ∧
      (¬ ((h.1 8 0 7) = 0) →
        r = (some (jm_i (h.1 8 0 7)), h))) ∧
    (¬ ((h.1 8 0 19) = 0) →
      ∃ (v6 : Int32) (h6 : jm_H), m_M_errs 1 h v6 h6 ∧
      r = (some (jm_i v6), h6)))) : l_M_readPlan_17  h r := by
  refine jm_E_n 4 (x' := (if (h.1 8 0 19) = 59 then 21 else 29, [some (jm_r 8 0), none], [], h)) rfl ?_
  refine jm_E_ite (fun hc => ?_) (fun hc => ?_)
  · replace H := H.1 hc
    refine jm_E_n 1 (x' := (22, [some (jm_r 8 0), none], [jm_r 8 0], h)) rfl ?_
    obtain ⟨h3, hR, H⟩ := H
    refine jm_E_call rfl (Nat.le_of_ble_eq_true rfl) (Nat.le_of_ble_eq_true rfl) rfl hR trivial ?_
    refine jm_E_eq (x := (23, [some (jm_r 8 0), none], [], h3)) rfl ?_
    refine jm_E_n 1 (x' := (24, [some (jm_r 8 0), none], [jm_r 8 0], h3)) rfl ?_
    obtain ⟨v4, h4, hR, H⟩ := H
    refine jm_E_call rfl (Nat.le_of_ble_eq_true rfl) (Nat.le_of_ble_eq_true rfl) rfl hR trivial ?_
    refine jm_E_eq (x := (25, [some (jm_r 8 0), none], [jm_i v4], h4)) rfl ?_
    refine jm_E_n 2 (x' := (if v4 = (-1) then 27 else 17, [some (jm_r 8 0), none], [], h4)) rfl ?_
    refine jm_E_ite (fun hc => ?_) (fun hc => ?_)
    · replace H := H.1 hc
      refine jm_E_n 1 (x' := (28, [some (jm_r 8 0), none], [jm_i (-1)], h4)) rfl ?_
      exact jm_E_ret rfl (by rw [H]; rfl)
    · replace H := H.2 hc
      exact H
  · replace H := H.2 hc
    refine jm_E_n 3 (x' := (if (h.1 8 0 19) = 0 then 36 else 32, [some (jm_r 8 0), none], [], h)) rfl ?_
    refine jm_E_ite (fun hc => ?_) (fun hc => ?_)
    · replace H := H.1 hc
      refine jm_E_n 3 (x' := (if (h.1 8 0 7) = 0 then 39 else 43, [some (jm_r 8 0), none], [], h)) rfl ?_
      refine jm_E_ite (fun hc => ?_) (fun hc => ?_)
      · replace H := H.1 hc
        refine jm_E_n 2 (x' := (41, [some (jm_r 8 0), none], [jm_i 4, jm_r 8 0], h)) rfl ?_
        obtain ⟨v5, h5, hR, H⟩ := H
        refine jm_E_call rfl (Nat.le_of_ble_eq_true rfl) (Nat.le_of_ble_eq_true rfl) rfl hR trivial ?_
        refine jm_E_eq (x := (42, [some (jm_r 8 0), none], [jm_i v5], h5)) rfl ?_
        refine jm_E_n 1 (x' := (45, [some (jm_r 8 0), none], [jm_i v5], h5)) rfl ?_
        exact jm_E_ret rfl (by rw [H]; rfl)
      · replace H := H.2 hc
        refine jm_E_n 2 (x' := (45, [some (jm_r 8 0), none], [jm_i (h.1 8 0 7)], h)) rfl ?_
        exact jm_E_ret rfl (by rw [H]; rfl)
    · replace H := H.2 hc
      refine jm_E_n 2 (x' := (34, [some (jm_r 8 0), none], [jm_i 1, jm_r 8 0], h)) rfl ?_
      obtain ⟨v6, h6, hR, H⟩ := H
      refine jm_E_call rfl (Nat.le_of_ble_eq_true rfl) (Nat.le_of_ble_eq_true rfl) rfl hR trivial ?_
      refine jm_E_eq (x := (35, [some (jm_r 8 0), none], [jm_i v6], h6)) rfl ?_
      exact jm_E_ret rfl (by rw [H]; rfl)
set_option maxRecDepth 100000 in
theorem wp_M_readPlan {a0 : Int32} {h : jm_H} {r : jm_Rs} (H :
  ∃ h1 : jm_H, m_M_reads (jm_sI (jm_sI (jm_sI h 8 0 16 a0) 8 0 18 0) 8 0 7 0) h1 ∧
  ∃ (v2 : Int32) (h2 : jm_H), m_M_readLine h1 v2 h2 ∧
  (v2 = (-1) →
    r = (some (jm_i (-1)), h2)) ∧
  (¬ (v2 = (-1)) →
    l_M_readPlan_17 h2 r)) : jm_R 101 [jm_r 8 0, jm_i a0] h r := by
  refine jm_R_of hz_101 (Nat.le_of_ble_eq_true rfl) ?_
  show jm_E cod_101 (0, [some (jm_r 8 0), some (jm_i a0)], [], h) r
  refine jm_E_n 10 (x' := (10, [some (jm_r 8 0), some (jm_i a0)], [jm_r 8 0], (jm_sI (jm_sI (jm_sI h 8 0 16 a0) 8 0 18 0) 8 0 7 0))) rfl ?_
  obtain ⟨h1, hR, H⟩ := H
  refine jm_E_call rfl (Nat.le_of_ble_eq_true rfl) (Nat.le_of_ble_eq_true rfl) rfl hR trivial ?_
  refine jm_E_eq (x := (11, [some (jm_r 8 0), some (jm_i a0)], [], h1)) rfl ?_
  refine jm_E_n 1 (x' := (12, [some (jm_r 8 0), some (jm_i a0)], [jm_r 8 0], h1)) rfl ?_
  obtain ⟨v2, h2, hR, H⟩ := H
  refine jm_E_call rfl (Nat.le_of_ble_eq_true rfl) (Nat.le_of_ble_eq_true rfl) rfl hR trivial ?_
  refine jm_E_eq (x := (13, [some (jm_r 8 0), some (jm_i a0)], [jm_i v2], h2)) rfl ?_
  refine jm_E_n 2 (x' := (if v2 = (-1) then 15 else 17, [some (jm_r 8 0), some (jm_i a0)], [], h2)) rfl ?_
  refine jm_E_ite (fun hc => ?_) (fun hc => ?_)
  · replace H := H.1 hc
    refine jm_E_n 1 (x' := (16, [some (jm_r 8 0), some (jm_i a0)], [jm_i (-1)], h2)) rfl ?_
    exact jm_E_ret rfl (by rw [H]; rfl)
  · replace H := H.2 hc
    exact jm_E_weak (jm_le_s (jm_le_n jm_le_nil)) H
