set_option maxRecDepth 100000 in
theorem wp_M_switchWhy {a0 : Int32} {h : jm_H} {r : jm_Rs} (H :
  ∃ (v1 : Int32) (h1 : jm_H), m_M_isMode a0 h v1 h1 ∧
  ∃ (v2 : Int32) (h2 : jm_H), m_M_clockWhy v1 h1 v2 h2 ∧
  (v2 = 0 →
    ∃ (v3 : Int32) (h3 : jm_H), m_M_isLaid a0 h2 v3 h3 ∧
    (v3 = 0 →
      r = (some (jm_i 5), h3)) ∧
    (¬ (v3 = 0) →
      ((h3.1 56 0 7) = (-2) →
        r = (some (jm_i 0), h3)) ∧
      (¬ ((h3.1 56 0 7) = (-2)) →
        r = (some (jm_i 5), h3)))) ∧
  (¬ (v2 = 0) →
    r = (some (jm_i v2), h2))) : jm_R 186 [jm_r 8 0, jm_i a0] h r := by
  refine jm_R_of hz_186 (Nat.le_of_ble_eq_true rfl) ?_
  show jm_E cod_186 (0, [some (jm_r 8 0), some (jm_i a0), none], [], h) r
  refine jm_E_n 3 (x' := (3, [some (jm_r 8 0), some (jm_i a0), none], [jm_i a0, jm_r 8 0, jm_r 8 0], h)) rfl ?_
  obtain ⟨v1, h1, hR, H⟩ := H
  refine jm_E_call rfl (Nat.le_of_ble_eq_true rfl) (Nat.le_of_ble_eq_true rfl) rfl hR trivial ?_
  refine jm_E_eq (x := (4, [some (jm_r 8 0), some (jm_i a0), none], [jm_i v1, jm_r 8 0], h1)) rfl ?_
  obtain ⟨v2, h2, hR, H⟩ := H
  refine jm_E_call rfl (Nat.le_of_ble_eq_true rfl) (Nat.le_of_ble_eq_true rfl) rfl hR trivial ?_
  refine jm_E_eq (x := (5, [some (jm_r 8 0), some (jm_i a0), none], [jm_i v2], h2)) rfl ?_
  refine jm_E_n 3 (x' := (if v2 = 0 then 10 else 8, [some (jm_r 8 0), some (jm_i a0), some (jm_i v2)], [], h2)) rfl ?_
  refine jm_E_ite (fun hc => ?_) (fun hc => ?_)
  · replace H := H.1 hc
    refine jm_E_n 2 (x' := (12, [some (jm_r 8 0), some (jm_i a0), some (jm_i v2)], [jm_i a0, jm_r 8 0], h2)) rfl ?_
    obtain ⟨v3, h3, hR, H⟩ := H
    refine jm_E_call rfl (Nat.le_of_ble_eq_true rfl) (Nat.le_of_ble_eq_true rfl) rfl hR trivial ?_
    refine jm_E_eq (x := (13, [some (jm_r 8 0), some (jm_i a0), some (jm_i v2)], [jm_i v3], h3)) rfl ?_
    refine jm_E_n 1 (x' := (if v3 = 0 then 22 else 14, [some (jm_r 8 0), some (jm_i a0), some (jm_i v2)], [], h3)) rfl ?_
    refine jm_E_ite (fun hc => ?_) (fun hc => ?_)
    · replace H := H.1 hc
      refine jm_E_n 1 (x' := (23, [some (jm_r 8 0), some (jm_i a0), some (jm_i v2)], [jm_i 5], h3)) rfl ?_
      exact jm_E_ret rfl (by rw [H]; rfl)
    · replace H := H.2 hc
      refine jm_E_n 3 (x' := (17, [some (jm_r 8 0), some (jm_i a0), some (jm_i v2)], [jm_i 7, jm_r 56 0], h3)) rfl ?_
      refine jm_E_iald rfl rfl (by decide) ?_
      refine jm_E_eq (x := (18, [some (jm_r 8 0), some (jm_i a0), some (jm_i v2)], [jm_i (h3.1 56 0 7)], h3)) rfl ?_
      refine jm_E_n 2 (x' := (if (h3.1 56 0 7) = (-2) then 20 else 22, [some (jm_r 8 0), some (jm_i a0), some (jm_i v2)], [], h3)) rfl ?_
      refine jm_E_ite (fun hc => ?_) (fun hc => ?_)
      · replace H := H.1 hc
        refine jm_E_n 2 (x' := (23, [some (jm_r 8 0), some (jm_i a0), some (jm_i v2)], [jm_i 0], h3)) rfl ?_
        exact jm_E_ret rfl (by rw [H]; rfl)
      · replace H := H.2 hc
        refine jm_E_n 1 (x' := (23, [some (jm_r 8 0), some (jm_i a0), some (jm_i v2)], [jm_i 5], h3)) rfl ?_
        exact jm_E_ret rfl (by rw [H]; rfl)
  · replace H := H.2 hc
    refine jm_E_n 2 (x' := (23, [some (jm_r 8 0), some (jm_i a0), some (jm_i v2)], [jm_i v2], h2)) rfl ?_
    exact jm_E_ret rfl (by rw [H]; rfl)
set_option maxRecDepth 100000 in
theorem wp_M_safeFor_12 {x1 : Int32} {x2 : Int32} {x3 : Int32} {x4 : Int32} {h : jm_H} {r : jm_Rs} (H :
  (x4 = 0 →
    ∃ (v1 : Int32) (h1 : jm_H), m_M_openOf (h.1 56 0 1) x3 h v1 h1 ∧
    (v1 = 0 →
      ∃ h2 : jm_H, m_M_looks x1 x2 h1 h2 ∧
      ∃ (v3 : Int32) (h3 : jm_H), m_M_areInTime 0 h2 v3 h3 ∧
      (v3 = 0 →
        jm_in (h3.1 56 0 1) 6 ∧
        ∃ (v4 : Int32) (h4 : jm_H), m_M_framesOf (h3.1 56 0 1) h3 v4 h4 ∧
        ¬ v4 = 0 ∧
        l_M_safeFor_12 x1 (x2 + (h3.1 34 0 ((h3.1 56 0 1).toNatClampNeg))) ((x3 + 1) - (x3 + 1) / v4 * v4) v3 h4 r) ∧
      (¬ (v3 = 0) →
        l_M_safeFor_12 x1 x2 x3 v3 h3 r)) ∧
    (¬ (v1 = 0) →
      (x4 = 0 →
        jm_in (h1.1 56 0 1) 6 ∧
        ∃ (v5 : Int32) (h5 : jm_H), m_M_framesOf (h1.1 56 0 1) h1 v5 h5 ∧
        ¬ v5 = 0 ∧
        l_M_safeFor_12 x1 (x2 + (h1.1 34 0 ((h1.1 56 0 1).toNatClampNeg))) ((x3 + 1) - (x3 + 1) / v5 * v5) x4 h5 r) ∧
      (¬ (x4 = 0) →
        l_M_safeFor_12 x1 x2 x3 x4 h1 r))) ∧
  (¬ (x4 = 0) →
    r = (some (jm_i x2), h))) : l_M_safeFor_12 x1 x2 x3 x4 h r := by
  refine jm_E_n 2 (x' := (if x4 = 0 then 14 else 54, [some (jm_r 8 0), some (jm_i x1), some (jm_i x2), some (jm_i x3), some (jm_i x4)], [], h)) rfl ?_
  refine jm_E_ite (fun hc => ?_) (fun hc => ?_)
  · replace H := H.1 hc
    refine jm_E_n 4 (x' := (18, [some (jm_r 8 0), some (jm_i x1), some (jm_i x2), some (jm_i x3), some (jm_i x4)], [jm_i 1, jm_r 56 0, jm_r 8 0], h)) rfl ?_
    refine jm_E_iald rfl rfl (by decide) ?_
    refine jm_E_eq (x := (19, [some (jm_r 8 0), some (jm_i x1), some (jm_i x2), some (jm_i x3), some (jm_i x4)], [jm_i (h.1 56 0 1), jm_r 8 0], h)) rfl ?_
    refine jm_E_n 1 (x' := (20, [some (jm_r 8 0), some (jm_i x1), some (jm_i x2), some (jm_i x3), some (jm_i x4)], [jm_i x3, jm_i (h.1 56 0 1), jm_r 8 0], h)) rfl ?_
    obtain ⟨v1, h1, hR, H⟩ := H
    refine jm_E_call rfl (Nat.le_of_ble_eq_true rfl) (Nat.le_of_ble_eq_true rfl) rfl hR trivial ?_
    refine jm_E_eq (x := (21, [some (jm_r 8 0), some (jm_i x1), some (jm_i x2), some (jm_i x3), some (jm_i x4)], [jm_i v1], h1)) rfl ?_
    refine jm_E_n 1 (x' := (if v1 = 0 then 22 else 30, [some (jm_r 8 0), some (jm_i x1), some (jm_i x2), some (jm_i x3), some (jm_i x4)], [], h1)) rfl ?_
    refine jm_E_ite (fun hc => ?_) (fun hc => ?_)
    · replace H := H.1 hc
      refine jm_E_n 3 (x' := (25, [some (jm_r 8 0), some (jm_i x1), some (jm_i x2), some (jm_i x3), some (jm_i x4)], [jm_i x2, jm_i x1, jm_r 8 0], h1)) rfl ?_
      obtain ⟨h2, hR, H⟩ := H
      refine jm_E_call rfl (Nat.le_of_ble_eq_true rfl) (Nat.le_of_ble_eq_true rfl) rfl hR trivial ?_
      refine jm_E_eq (x := (26, [some (jm_r 8 0), some (jm_i x1), some (jm_i x2), some (jm_i x3), some (jm_i x4)], [], h2)) rfl ?_
      refine jm_E_n 2 (x' := (28, [some (jm_r 8 0), some (jm_i x1), some (jm_i x2), some (jm_i x3), some (jm_i x4)], [jm_i 0, jm_r 8 0], h2)) rfl ?_
      obtain ⟨v3, h3, hR, H⟩ := H
      refine jm_E_call rfl (Nat.le_of_ble_eq_true rfl) (Nat.le_of_ble_eq_true rfl) rfl hR trivial ?_
      refine jm_E_eq (x := (29, [some (jm_r 8 0), some (jm_i x1), some (jm_i x2), some (jm_i x3), some (jm_i x4)], [jm_i v3], h3)) rfl ?_
      refine jm_E_n 3 (x' := (if v3 = 0 then 32 else 12, [some (jm_r 8 0), some (jm_i x1), some (jm_i x2), some (jm_i x3), some (jm_i v3)], [], h3)) rfl ?_
      refine jm_E_ite (fun hc => ?_) (fun hc => ?_)
      · replace H := H.1 hc
        refine jm_E_n 6 (x' := (38, [some (jm_r 8 0), some (jm_i x1), some (jm_i x2), some (jm_i x3), some (jm_i v3)], [jm_i 1, jm_r 56 0, jm_r 34 0, jm_i x2], h3)) rfl ?_
        refine jm_E_iald rfl rfl (by decide) ?_
        refine jm_E_eq (x := (39, [some (jm_r 8 0), some (jm_i x1), some (jm_i x2), some (jm_i x3), some (jm_i v3)], [jm_i (h3.1 56 0 1), jm_r 34 0, jm_i x2], h3)) rfl ?_
        refine jm_E_iald rfl rfl H.1 ?_
        replace H := H.2
        refine jm_E_eq (x := (40, [some (jm_r 8 0), some (jm_i x1), some (jm_i x2), some (jm_i x3), some (jm_i v3)], [jm_i (h3.1 34 0 ((h3.1 56 0 1).toNatClampNeg)), jm_i x2], h3)) rfl ?_
        refine jm_E_n 9 (x' := (49, [some (jm_r 8 0), some (jm_i x1), some (jm_i (x2 + (h3.1 34 0 ((h3.1 56 0 1).toNatClampNeg)))), some (jm_i x3), some (jm_i v3)], [jm_i 1, jm_r 56 0, jm_r 8 0, jm_i (x3 + 1)], h3)) rfl ?_
        refine jm_E_iald rfl rfl (by decide) ?_
        refine jm_E_eq (x := (50, [some (jm_r 8 0), some (jm_i x1), some (jm_i (x2 + (h3.1 34 0 ((h3.1 56 0 1).toNatClampNeg)))), some (jm_i x3), some (jm_i v3)], [jm_i (h3.1 56 0 1), jm_r 8 0, jm_i (x3 + 1)], h3)) rfl ?_
        obtain ⟨v4, h4, hR, H⟩ := H
        refine jm_E_call rfl (Nat.le_of_ble_eq_true rfl) (Nat.le_of_ble_eq_true rfl) rfl hR trivial ?_
        refine jm_E_eq (x := (51, [some (jm_r 8 0), some (jm_i x1), some (jm_i (x2 + (h3.1 34 0 ((h3.1 56 0 1).toNatClampNeg)))), some (jm_i x3), some (jm_i v3)], [jm_i v4, jm_i (x3 + 1)], h4)) rfl ?_
        refine jm_E_irem rfl H.1 ?_
        replace H := H.2
        refine jm_E_eq (x := (52, [some (jm_r 8 0), some (jm_i x1), some (jm_i (x2 + (h3.1 34 0 ((h3.1 56 0 1).toNatClampNeg)))), some (jm_i x3), some (jm_i v3)], [jm_i ((x3 + 1) - (x3 + 1) / v4 * v4)], h4)) rfl ?_
        refine jm_E_n 2 (x' := (12, [some (jm_r 8 0), some (jm_i x1), some (jm_i (x2 + (h3.1 34 0 ((h3.1 56 0 1).toNatClampNeg)))), some (jm_i ((x3 + 1) - (x3 + 1) / v4 * v4)), some (jm_i v3)], [], h4)) rfl ?_
        exact H
      · replace H := H.2 hc
        exact H
    · replace H := H.2 hc
      refine jm_E_n 2 (x' := (if x4 = 0 then 32 else 12, [some (jm_r 8 0), some (jm_i x1), some (jm_i x2), some (jm_i x3), some (jm_i x4)], [], h1)) rfl ?_
      refine jm_E_ite (fun hc => ?_) (fun hc => ?_)
      · replace H := H.1 hc
        refine jm_E_n 6 (x' := (38, [some (jm_r 8 0), some (jm_i x1), some (jm_i x2), some (jm_i x3), some (jm_i x4)], [jm_i 1, jm_r 56 0, jm_r 34 0, jm_i x2], h1)) rfl ?_
        refine jm_E_iald rfl rfl (by decide) ?_
        refine jm_E_eq (x := (39, [some (jm_r 8 0), some (jm_i x1), some (jm_i x2), some (jm_i x3), some (jm_i x4)], [jm_i (h1.1 56 0 1), jm_r 34 0, jm_i x2], h1)) rfl ?_
        refine jm_E_iald rfl rfl H.1 ?_
        replace H := H.2
        refine jm_E_eq (x := (40, [some (jm_r 8 0), some (jm_i x1), some (jm_i x2), some (jm_i x3), some (jm_i x4)], [jm_i (h1.1 34 0 ((h1.1 56 0 1).toNatClampNeg)), jm_i x2], h1)) rfl ?_
        refine jm_E_n 9 (x' := (49, [some (jm_r 8 0), some (jm_i x1), some (jm_i (x2 + (h1.1 34 0 ((h1.1 56 0 1).toNatClampNeg)))), some (jm_i x3), some (jm_i x4)], [jm_i 1, jm_r 56 0, jm_r 8 0, jm_i (x3 + 1)], h1)) rfl ?_
        refine jm_E_iald rfl rfl (by decide) ?_
        refine jm_E_eq (x := (50, [some (jm_r 8 0), some (jm_i x1), some (jm_i (x2 + (h1.1 34 0 ((h1.1 56 0 1).toNatClampNeg)))), some (jm_i x3), some (jm_i x4)], [jm_i (h1.1 56 0 1), jm_r 8 0, jm_i (x3 + 1)], h1)) rfl ?_
        obtain ⟨v5, h5, hR, H⟩ := H
        refine jm_E_call rfl (Nat.le_of_ble_eq_true rfl) (Nat.le_of_ble_eq_true rfl) rfl hR trivial ?_
        refine jm_E_eq (x := (51, [some (jm_r 8 0), some (jm_i x1), some (jm_i (x2 + (h1.1 34 0 ((h1.1 56 0 1).toNatClampNeg)))), some (jm_i x3), some (jm_i x4)], [jm_i v5, jm_i (x3 + 1)], h5)) rfl ?_
        refine jm_E_irem rfl H.1 ?_
        replace H := H.2
        refine jm_E_eq (x := (52, [some (jm_r 8 0), some (jm_i x1), some (jm_i (x2 + (h1.1 34 0 ((h1.1 56 0 1).toNatClampNeg)))), some (jm_i x3), some (jm_i x4)], [jm_i ((x3 + 1) - (x3 + 1) / v5 * v5)], h5)) rfl ?_
        refine jm_E_n 2 (x' := (12, [some (jm_r 8 0), some (jm_i x1), some (jm_i (x2 + (h1.1 34 0 ((h1.1 56 0 1).toNatClampNeg)))), some (jm_i ((x3 + 1) - (x3 + 1) / v5 * v5)), some (jm_i x4)], [], h5)) rfl ?_
        exact H
      · replace H := H.2 hc
        exact H
  · replace H := H.2 hc
    refine jm_E_n 1 (x' := (55, [some (jm_r 8 0), some (jm_i x1), some (jm_i x2), some (jm_i x3), some (jm_i x4)], [jm_i x2], h)) rfl ?_
    exact jm_E_ret rfl (by rw [H]; rfl)
set_option maxRecDepth 100000 in
theorem wp_M_safeFor {a0 : Int32} {h : jm_H} {r : jm_Rs} (H :
  l_M_safeFor_12 a0 (h.1 56 0 0) (h.1 56 0 2) 0 h r) : jm_R 187 [jm_r 8 0, jm_i a0] h r := by
  refine jm_R_of hz_187 (Nat.le_of_ble_eq_true rfl) ?_
  show jm_E cod_187 (0, [some (jm_r 8 0), some (jm_i a0), none, none, none], [], h) r
  refine jm_E_n 3 (x' := (3, [some (jm_r 8 0), some (jm_i a0), none, none, none], [jm_i 0, jm_r 56 0], h)) rfl ?_
  refine jm_E_iald rfl rfl (by decide) ?_
  refine jm_E_eq (x := (4, [some (jm_r 8 0), some (jm_i a0), none, none, none], [jm_i (h.1 56 0 0)], h)) rfl ?_
  refine jm_E_n 4 (x' := (8, [some (jm_r 8 0), some (jm_i a0), some (jm_i (h.1 56 0 0)), none, none], [jm_i 2, jm_r 56 0], h)) rfl ?_
  refine jm_E_iald rfl rfl (by decide) ?_
  refine jm_E_eq (x := (9, [some (jm_r 8 0), some (jm_i a0), some (jm_i (h.1 56 0 0)), none, none], [jm_i (h.1 56 0 2)], h)) rfl ?_
  refine jm_E_n 3 (x' := (12, [some (jm_r 8 0), some (jm_i a0), some (jm_i (h.1 56 0 0)), some (jm_i (h.1 56 0 2)), some (jm_i 0)], [], h)) rfl ?_
  exact H
set_option maxRecDepth 100000 in
theorem wp_M_safeEnd {a0 : Int32} {h : jm_H} {r : jm_Rs} (H :
  ∃ h1 : jm_H, m_M_anew h h1 ∧
  ∃ (v2 : Int32) (h2 : jm_H), m_M_switchWhy a0 h1 v2 h2 ∧
  (v2 = 0 →
    ∃ (v3 : Int32) (h3 : jm_H), m_M_safeFor a0 h2 v3 h3 ∧
    r = (some (jm_i v3), h3)) ∧
  (¬ (v2 = 0) →
    ∃ (v4 : Int32) (h4 : jm_H), m_M_no v2 h2 v4 h4 ∧
    r = (some (jm_i v4), h4))) : jm_R 188 [jm_r 8 0, jm_i a0] h r := by
  refine jm_R_of hz_188 (Nat.le_of_ble_eq_true rfl) ?_
  show jm_E cod_188 (0, [some (jm_r 8 0), some (jm_i a0), none], [], h) r
  refine jm_E_n 1 (x' := (1, [some (jm_r 8 0), some (jm_i a0), none], [jm_r 8 0], h)) rfl ?_
  obtain ⟨h1, hR, H⟩ := H
  refine jm_E_call rfl (Nat.le_of_ble_eq_true rfl) (Nat.le_of_ble_eq_true rfl) rfl hR trivial ?_
  refine jm_E_eq (x := (2, [some (jm_r 8 0), some (jm_i a0), none], [], h1)) rfl ?_
  refine jm_E_n 2 (x' := (4, [some (jm_r 8 0), some (jm_i a0), none], [jm_i a0, jm_r 8 0], h1)) rfl ?_
  obtain ⟨v2, h2, hR, H⟩ := H
  refine jm_E_call rfl (Nat.le_of_ble_eq_true rfl) (Nat.le_of_ble_eq_true rfl) rfl hR trivial ?_
  refine jm_E_eq (x := (5, [some (jm_r 8 0), some (jm_i a0), none], [jm_i v2], h2)) rfl ?_
  refine jm_E_n 3 (x' := (if v2 = 0 then 12 else 8, [some (jm_r 8 0), some (jm_i a0), some (jm_i v2)], [], h2)) rfl ?_
  refine jm_E_ite (fun hc => ?_) (fun hc => ?_)
  · replace H := H.1 hc
    refine jm_E_n 2 (x' := (14, [some (jm_r 8 0), some (jm_i a0), some (jm_i v2)], [jm_i a0, jm_r 8 0], h2)) rfl ?_
    obtain ⟨v3, h3, hR, H⟩ := H
    refine jm_E_call rfl (Nat.le_of_ble_eq_true rfl) (Nat.le_of_ble_eq_true rfl) rfl hR trivial ?_
    refine jm_E_eq (x := (15, [some (jm_r 8 0), some (jm_i a0), some (jm_i v2)], [jm_i v3], h3)) rfl ?_
    exact jm_E_ret rfl (by rw [H]; rfl)
  · replace H := H.2 hc
    refine jm_E_n 2 (x' := (10, [some (jm_r 8 0), some (jm_i a0), some (jm_i v2)], [jm_i v2, jm_r 8 0], h2)) rfl ?_
    obtain ⟨v4, h4, hR, H⟩ := H
    refine jm_E_call rfl (Nat.le_of_ble_eq_true rfl) (Nat.le_of_ble_eq_true rfl) rfl hR trivial ?_
    refine jm_E_eq (x := (11, [some (jm_r 8 0), some (jm_i a0), some (jm_i v2)], [jm_i v4], h4)) rfl ?_
    refine jm_E_n 1 (x' := (15, [some (jm_r 8 0), some (jm_i a0), some (jm_i v2)], [jm_i v4], h4)) rfl ?_
    exact jm_E_ret rfl (by rw [H]; rfl)
set_option maxRecDepth 100000 in
theorem wp_M_change {a0 : Int32} {h : jm_H} {r : jm_Rs} (H :
  ∃ h1 : jm_H, m_M_anew h h1 ∧
  ∃ (v2 : Int32) (h2 : jm_H), m_M_switchWhy a0 h1 v2 h2 ∧
  (v2 = 0 →
    ∃ (v3 : Int32) (h3 : jm_H), m_M_safeFor a0 h2 v3 h3 ∧
    (v3 = (h3.1 56 0 0) →
      r = (some (jm_i v3), (jm_sI (jm_sI h3 56 0 1 a0) 56 0 2 0))) ∧
    (¬ (v3 = (h3.1 56 0 0)) →
      r = (some (jm_i v3), (jm_sI (jm_sI h3 56 0 7 a0) 56 0 8 v3)))) ∧
  (¬ (v2 = 0) →
    ∃ (v4 : Int32) (h4 : jm_H), m_M_no v2 h2 v4 h4 ∧
    r = (some (jm_i v4), h4))) : jm_R 189 [jm_r 8 0, jm_i a0] h r := by
  refine jm_R_of hz_189 (Nat.le_of_ble_eq_true rfl) ?_
  show jm_E cod_189 (0, [some (jm_r 8 0), some (jm_i a0), none, none], [], h) r
  refine jm_E_n 1 (x' := (1, [some (jm_r 8 0), some (jm_i a0), none, none], [jm_r 8 0], h)) rfl ?_
  obtain ⟨h1, hR, H⟩ := H
  refine jm_E_call rfl (Nat.le_of_ble_eq_true rfl) (Nat.le_of_ble_eq_true rfl) rfl hR trivial ?_
  refine jm_E_eq (x := (2, [some (jm_r 8 0), some (jm_i a0), none, none], [], h1)) rfl ?_
  refine jm_E_n 2 (x' := (4, [some (jm_r 8 0), some (jm_i a0), none, none], [jm_i a0, jm_r 8 0], h1)) rfl ?_
  obtain ⟨v2, h2, hR, H⟩ := H
  refine jm_E_call rfl (Nat.le_of_ble_eq_true rfl) (Nat.le_of_ble_eq_true rfl) rfl hR trivial ?_
  refine jm_E_eq (x := (5, [some (jm_r 8 0), some (jm_i a0), none, none], [jm_i v2], h2)) rfl ?_
  refine jm_E_n 3 (x' := (if v2 = 0 then 12 else 8, [some (jm_r 8 0), some (jm_i a0), some (jm_i v2), none], [], h2)) rfl ?_
  refine jm_E_ite (fun hc => ?_) (fun hc => ?_)
  · replace H := H.1 hc
    refine jm_E_n 2 (x' := (14, [some (jm_r 8 0), some (jm_i a0), some (jm_i v2), none], [jm_i a0, jm_r 8 0], h2)) rfl ?_
    obtain ⟨v3, h3, hR, H⟩ := H
    refine jm_E_call rfl (Nat.le_of_ble_eq_true rfl) (Nat.le_of_ble_eq_true rfl) rfl hR trivial ?_
    refine jm_E_eq (x := (15, [some (jm_r 8 0), some (jm_i a0), some (jm_i v2), none], [jm_i v3], h3)) rfl ?_
    refine jm_E_n 5 (x' := (20, [some (jm_r 8 0), some (jm_i a0), some (jm_i v2), some (jm_i v3)], [jm_i 0, jm_r 56 0, jm_i v3], h3)) rfl ?_
    refine jm_E_iald rfl rfl (by decide) ?_
    refine jm_E_eq (x := (21, [some (jm_r 8 0), some (jm_i a0), some (jm_i v2), some (jm_i v3)], [jm_i (h3.1 56 0 0), jm_i v3], h3)) rfl ?_
    refine jm_E_n 1 (x' := (if v3 = (h3.1 56 0 0) then 22 else 33, [some (jm_r 8 0), some (jm_i a0), some (jm_i v2), some (jm_i v3)], [], h3)) rfl ?_
    refine jm_E_ite (fun hc => ?_) (fun hc => ?_)
    · replace H := H.1 hc
      refine jm_E_n 4 (x' := (26, [some (jm_r 8 0), some (jm_i a0), some (jm_i v2), some (jm_i v3)], [jm_i a0, jm_i 1, jm_r 56 0], h3)) rfl ?_
      refine jm_E_iast rfl rfl (by decide) ?_
      refine jm_E_eq (x := (27, [some (jm_r 8 0), some (jm_i a0), some (jm_i v2), some (jm_i v3)], [], (jm_sI h3 56 0 1 a0))) rfl ?_
      refine jm_E_n 4 (x' := (31, [some (jm_r 8 0), some (jm_i a0), some (jm_i v2), some (jm_i v3)], [jm_i 0, jm_i 2, jm_r 56 0], (jm_sI h3 56 0 1 a0))) rfl ?_
      refine jm_E_iast rfl rfl (by decide) ?_
      refine jm_E_eq (x := (32, [some (jm_r 8 0), some (jm_i a0), some (jm_i v2), some (jm_i v3)], [], (jm_sI (jm_sI h3 56 0 1 a0) 56 0 2 0))) rfl ?_
      refine jm_E_n 2 (x' := (44, [some (jm_r 8 0), some (jm_i a0), some (jm_i v2), some (jm_i v3)], [jm_i v3], (jm_sI (jm_sI h3 56 0 1 a0) 56 0 2 0))) rfl ?_
      exact jm_E_ret rfl (by rw [H]; rfl)
    · replace H := H.2 hc
      refine jm_E_n 4 (x' := (37, [some (jm_r 8 0), some (jm_i a0), some (jm_i v2), some (jm_i v3)], [jm_i a0, jm_i 7, jm_r 56 0], h3)) rfl ?_
      refine jm_E_iast rfl rfl (by decide) ?_
      refine jm_E_eq (x := (38, [some (jm_r 8 0), some (jm_i a0), some (jm_i v2), some (jm_i v3)], [], (jm_sI h3 56 0 7 a0))) rfl ?_
      refine jm_E_n 4 (x' := (42, [some (jm_r 8 0), some (jm_i a0), some (jm_i v2), some (jm_i v3)], [jm_i v3, jm_i 8, jm_r 56 0], (jm_sI h3 56 0 7 a0))) rfl ?_
      refine jm_E_iast rfl rfl (by decide) ?_
      refine jm_E_eq (x := (43, [some (jm_r 8 0), some (jm_i a0), some (jm_i v2), some (jm_i v3)], [], (jm_sI (jm_sI h3 56 0 7 a0) 56 0 8 v3))) rfl ?_
      refine jm_E_n 1 (x' := (44, [some (jm_r 8 0), some (jm_i a0), some (jm_i v2), some (jm_i v3)], [jm_i v3], (jm_sI (jm_sI h3 56 0 7 a0) 56 0 8 v3))) rfl ?_
      exact jm_E_ret rfl (by rw [H]; rfl)
  · replace H := H.2 hc
    refine jm_E_n 2 (x' := (10, [some (jm_r 8 0), some (jm_i a0), some (jm_i v2), none], [jm_i v2, jm_r 8 0], h2)) rfl ?_
    obtain ⟨v4, h4, hR, H⟩ := H
    refine jm_E_call rfl (Nat.le_of_ble_eq_true rfl) (Nat.le_of_ble_eq_true rfl) rfl hR trivial ?_
    refine jm_E_eq (x := (11, [some (jm_r 8 0), some (jm_i a0), some (jm_i v2), none], [jm_i v4], h4)) rfl ?_
    exact jm_E_ret rfl (by rw [H]; rfl)
set_option maxRecDepth 100000 in
theorem wp_M_keep_12 {x1 : Int32} {h : jm_H} {r : jm_Rs} (H :
  (28 ≤ x1 →
    r = (some (jm_i 1), (jm_sI h 8 0 43 1))) ∧
  (¬ (28 ≤ x1) →
    jm_in x1 28 ∧
    jm_in x1 28 ∧
    l_M_keep_12 (x1 + 1) (jm_sI h 57 0 x1.toNatClampNeg (h.1 56 0 x1.toNatClampNeg)) r)) : l_M_keep_12 x1 h r := by
  refine jm_E_n 3 (x' := (if 28 ≤ x1 then 25 else 15, [some (jm_r 8 0), some (jm_i x1)], [], h)) rfl ?_
  refine jm_E_ite (fun hc => ?_) (fun hc => ?_)
  · replace H := H.1 hc
    refine jm_E_n 4 (x' := (29, [some (jm_r 8 0), some (jm_i x1)], [jm_i 1], (jm_sI h 8 0 43 1))) rfl ?_
    exact jm_E_ret rfl (by rw [H]; rfl)
  · replace H := H.2 hc
    refine jm_E_n 6 (x' := (21, [some (jm_r 8 0), some (jm_i x1)], [jm_i x1, jm_r 56 0, jm_i x1, jm_r 57 0], h)) rfl ?_
    refine jm_E_iald rfl rfl H.1 ?_
    replace H := H.2
    refine jm_E_eq (x := (22, [some (jm_r 8 0), some (jm_i x1)], [jm_i (h.1 56 0 x1.toNatClampNeg), jm_i x1, jm_r 57 0], h)) rfl ?_
    refine jm_E_iast rfl rfl H.1 ?_
    replace H := H.2
    refine jm_E_eq (x := (23, [some (jm_r 8 0), some (jm_i x1)], [], (jm_sI h 57 0 x1.toNatClampNeg (h.1 56 0 x1.toNatClampNeg)))) rfl ?_
    refine jm_E_n 2 (x' := (12, [some (jm_r 8 0), some (jm_i (x1 + 1))], [], (jm_sI h 57 0 x1.toNatClampNeg (h.1 56 0 x1.toNatClampNeg)))) rfl ?_
    exact H
set_option maxRecDepth 100000 in
theorem wp_M_keep  {h : jm_H} {r : jm_Rs} (H :
  ∃ h1 : jm_H, m_M_anew h h1 ∧
  ((h1.1 8 0 6) = 0 →
    r = (some (jm_i 0), (jm_sI h1 8 0 1 1))) ∧
  (¬ ((h1.1 8 0 6) = 0) →
    l_M_keep_12 0 h1 r)) : jm_R 190 [jm_r 8 0] h r := by
  refine jm_R_of hz_190 (Nat.le_of_ble_eq_true rfl) ?_
  show jm_E cod_190 (0, [some (jm_r 8 0), none], [], h) r
  refine jm_E_n 1 (x' := (1, [some (jm_r 8 0), none], [jm_r 8 0], h)) rfl ?_
  obtain ⟨h1, hR, H⟩ := H
  refine jm_E_call rfl (Nat.le_of_ble_eq_true rfl) (Nat.le_of_ble_eq_true rfl) rfl hR trivial ?_
  refine jm_E_eq (x := (2, [some (jm_r 8 0), none], [], h1)) rfl ?_
  refine jm_E_n 3 (x' := (if (h1.1 8 0 6) = 0 then 5 else 10, [some (jm_r 8 0), none], [], h1)) rfl ?_
  refine jm_E_ite (fun hc => ?_) (fun hc => ?_)
  · replace H := H.1 hc
    refine jm_E_n 4 (x' := (9, [some (jm_r 8 0), none], [jm_i 0], (jm_sI h1 8 0 1 1))) rfl ?_
    exact jm_E_ret rfl (by rw [H]; rfl)
  · replace H := H.2 hc
    refine jm_E_n 2 (x' := (12, [some (jm_r 8 0), some (jm_i 0)], [], h1)) rfl ?_
    exact H
set_option maxRecDepth 100000 in
theorem wp_M_back_12 {x1 : Int32} {h : jm_H} {r : jm_Rs} (H :
  (28 ≤ x1 →
    r = (some (jm_i 1), h)) ∧
  (¬ (28 ≤ x1) →
    jm_in x1 28 ∧
    jm_in x1 28 ∧
    l_M_back_12 (x1 + 1) (jm_sI h 56 0 x1.toNatClampNeg (h.1 57 0 x1.toNatClampNeg)) r)) : l_M_back_12 x1 h r := by
  refine jm_E_n 3 (x' := (if 28 ≤ x1 then 25 else 15, [some (jm_r 8 0), some (jm_i x1)], [], h)) rfl ?_
  refine jm_E_ite (fun hc => ?_) (fun hc => ?_)
  · replace H := H.1 hc
    refine jm_E_n 1 (x' := (26, [some (jm_r 8 0), some (jm_i x1)], [jm_i 1], h)) rfl ?_
    exact jm_E_ret rfl (by rw [H]; rfl)
  · replace H := H.2 hc
    refine jm_E_n 6 (x' := (21, [some (jm_r 8 0), some (jm_i x1)], [jm_i x1, jm_r 57 0, jm_i x1, jm_r 56 0], h)) rfl ?_
    refine jm_E_iald rfl rfl H.1 ?_
    replace H := H.2
    refine jm_E_eq (x := (22, [some (jm_r 8 0), some (jm_i x1)], [jm_i (h.1 57 0 x1.toNatClampNeg), jm_i x1, jm_r 56 0], h)) rfl ?_
    refine jm_E_iast rfl rfl H.1 ?_
    replace H := H.2
    refine jm_E_eq (x := (23, [some (jm_r 8 0), some (jm_i x1)], [], (jm_sI h 56 0 x1.toNatClampNeg (h.1 57 0 x1.toNatClampNeg)))) rfl ?_
    refine jm_E_n 2 (x' := (12, [some (jm_r 8 0), some (jm_i (x1 + 1))], [], (jm_sI h 56 0 x1.toNatClampNeg (h.1 57 0 x1.toNatClampNeg)))) rfl ?_
    exact H
set_option maxRecDepth 100000 in
theorem wp_M_back  {h : jm_H} {r : jm_Rs} (H :
  ∃ h1 : jm_H, m_M_anew h h1 ∧
  ((h1.1 8 0 43) = 0 →
    r = (some (jm_i 0), (jm_sI h1 8 0 1 1))) ∧
  (¬ ((h1.1 8 0 43) = 0) →
    l_M_back_12 0 h1 r)) : jm_R 191 [jm_r 8 0] h r := by
  refine jm_R_of hz_191 (Nat.le_of_ble_eq_true rfl) ?_
  show jm_E cod_191 (0, [some (jm_r 8 0), none], [], h) r
  refine jm_E_n 1 (x' := (1, [some (jm_r 8 0), none], [jm_r 8 0], h)) rfl ?_
  obtain ⟨h1, hR, H⟩ := H
  refine jm_E_call rfl (Nat.le_of_ble_eq_true rfl) (Nat.le_of_ble_eq_true rfl) rfl hR trivial ?_
  refine jm_E_eq (x := (2, [some (jm_r 8 0), none], [], h1)) rfl ?_
  refine jm_E_n 3 (x' := (if (h1.1 8 0 43) = 0 then 5 else 10, [some (jm_r 8 0), none], [], h1)) rfl ?_
  refine jm_E_ite (fun hc => ?_) (fun hc => ?_)
  · replace H := H.1 hc
    refine jm_E_n 4 (x' := (9, [some (jm_r 8 0), none], [jm_i 0], (jm_sI h1 8 0 1 1))) rfl ?_
    exact jm_E_ret rfl (by rw [H]; rfl)
  · replace H := H.2 hc
    refine jm_E_n 2 (x' := (12, [some (jm_r 8 0), some (jm_i 0)], [], h1)) rfl ?_
    exact H
set_option maxRecDepth 100000 in
theorem wp_M_recost {a0 : Int32} {a1 : Int32} {a2 : Int32} {h : jm_H} {r : jm_Rs} (H :
  ∃ h1 : jm_H, m_M_anew h h1 ∧
  ∃ (v2 : Int32) (h2 : jm_H), m_M_isMode a0 h1 v2 h2 ∧
  (v2 = 0 →
    ∃ (v3 : Int32) (h3 : jm_H), m_M_no 1 h2 v3 h3 ∧
    r = (some (jm_i v3), h3)) ∧
  (¬ (v2 = 0) →
    jm_in a0 6 ∧
    ∃ (v4 : Int32) (h4 : jm_H), m_M_in a1 0 ((h2.1 36 0 a0.toNatClampNeg) - 1) h2 v4 h4 ∧
    (v4 = 0 →
      ∃ (v5 : Int32) (h5 : jm_H), m_M_no 1 h4 v5 h5 ∧
      r = (some (jm_i v5), h5)) ∧
    (¬ (v4 = 0) →
      ∃ (v6 : Int32) (h6 : jm_H), m_M_in a2 1 60 h4 v6 h6 ∧
      (v6 = 0 →
        ∃ (v7 : Int32) (h7 : jm_H), m_M_no 2 h6 v7 h7 ∧
        r = (some (jm_i v7), h7)) ∧
      (¬ (v6 = 0) →
        jm_in ((6 * a0) + a1) 36 ∧
        jm_in ((6 * a0) + a1) 36 ∧
        ∃ h8 : jm_H, m_M_startsClock (jm_sI h6 40 0 (((6 * a0) + a1).toNatClampNeg) a2) h8 ∧
        r = (some (jm_i (h6.1 40 0 (((6 * a0) + a1).toNatClampNeg))), h8))))) : jm_R 192 [jm_r 8 0, jm_i a0, jm_i a1, jm_i a2] h r := by
  refine jm_R_of hz_192 (Nat.le_of_ble_eq_true rfl) ?_
  show jm_E cod_192 (0, [some (jm_r 8 0), some (jm_i a0), some (jm_i a1), some (jm_i a2), none], [], h) r
  refine jm_E_n 1 (x' := (1, [some (jm_r 8 0), some (jm_i a0), some (jm_i a1), some (jm_i a2), none], [jm_r 8 0], h)) rfl ?_
  obtain ⟨h1, hR, H⟩ := H
  refine jm_E_call rfl (Nat.le_of_ble_eq_true rfl) (Nat.le_of_ble_eq_true rfl) rfl hR trivial ?_
  refine jm_E_eq (x := (2, [some (jm_r 8 0), some (jm_i a0), some (jm_i a1), some (jm_i a2), none], [], h1)) rfl ?_
  refine jm_E_n 2 (x' := (4, [some (jm_r 8 0), some (jm_i a0), some (jm_i a1), some (jm_i a2), none], [jm_i a0, jm_r 8 0], h1)) rfl ?_
  obtain ⟨v2, h2, hR, H⟩ := H
  refine jm_E_call rfl (Nat.le_of_ble_eq_true rfl) (Nat.le_of_ble_eq_true rfl) rfl hR trivial ?_
  refine jm_E_eq (x := (5, [some (jm_r 8 0), some (jm_i a0), some (jm_i a1), some (jm_i a2), none], [jm_i v2], h2)) rfl ?_
  refine jm_E_n 1 (x' := (if v2 = 0 then 16 else 6, [some (jm_r 8 0), some (jm_i a0), some (jm_i a1), some (jm_i a2), none], [], h2)) rfl ?_
  refine jm_E_ite (fun hc => ?_) (fun hc => ?_)
  · replace H := H.1 hc
    refine jm_E_n 2 (x' := (18, [some (jm_r 8 0), some (jm_i a0), some (jm_i a1), some (jm_i a2), none], [jm_i 1, jm_r 8 0], h2)) rfl ?_
    obtain ⟨v3, h3, hR, H⟩ := H
    refine jm_E_call rfl (Nat.le_of_ble_eq_true rfl) (Nat.le_of_ble_eq_true rfl) rfl hR trivial ?_
    refine jm_E_eq (x := (19, [some (jm_r 8 0), some (jm_i a0), some (jm_i a1), some (jm_i a2), none], [jm_i v3], h3)) rfl ?_
    exact jm_E_ret rfl (by rw [H]; rfl)
  · replace H := H.2 hc
    refine jm_E_n 5 (x' := (11, [some (jm_r 8 0), some (jm_i a0), some (jm_i a1), some (jm_i a2), none], [jm_i a0, jm_r 36 0, jm_i 0, jm_i a1], h2)) rfl ?_
    refine jm_E_iald rfl rfl H.1 ?_
    replace H := H.2
    refine jm_E_eq (x := (12, [some (jm_r 8 0), some (jm_i a0), some (jm_i a1), some (jm_i a2), none], [jm_i (h2.1 36 0 a0.toNatClampNeg), jm_i 0, jm_i a1], h2)) rfl ?_
    refine jm_E_n 2 (x' := (14, [some (jm_r 8 0), some (jm_i a0), some (jm_i a1), some (jm_i a2), none], [jm_i ((h2.1 36 0 a0.toNatClampNeg) - 1), jm_i 0, jm_i a1], h2)) rfl ?_
    obtain ⟨v4, h4, hR, H⟩ := H
    refine jm_E_call rfl (Nat.le_of_ble_eq_true rfl) (Nat.le_of_ble_eq_true rfl) trivial hR trivial ?_
    refine jm_E_eq (x := (15, [some (jm_r 8 0), some (jm_i a0), some (jm_i a1), some (jm_i a2), none], [jm_i v4], h4)) rfl ?_
    refine jm_E_n 1 (x' := (if v4 = 0 then 16 else 20, [some (jm_r 8 0), some (jm_i a0), some (jm_i a1), some (jm_i a2), none], [], h4)) rfl ?_
    refine jm_E_ite (fun hc => ?_) (fun hc => ?_)
    · replace H := H.1 hc
      refine jm_E_n 2 (x' := (18, [some (jm_r 8 0), some (jm_i a0), some (jm_i a1), some (jm_i a2), none], [jm_i 1, jm_r 8 0], h4)) rfl ?_
      obtain ⟨v5, h5, hR, H⟩ := H
      refine jm_E_call rfl (Nat.le_of_ble_eq_true rfl) (Nat.le_of_ble_eq_true rfl) rfl hR trivial ?_
      refine jm_E_eq (x := (19, [some (jm_r 8 0), some (jm_i a0), some (jm_i a1), some (jm_i a2), none], [jm_i v5], h5)) rfl ?_
      exact jm_E_ret rfl (by rw [H]; rfl)
    · replace H := H.2 hc
      refine jm_E_n 3 (x' := (23, [some (jm_r 8 0), some (jm_i a0), some (jm_i a1), some (jm_i a2), none], [jm_i 60, jm_i 1, jm_i a2], h4)) rfl ?_
      obtain ⟨v6, h6, hR, H⟩ := H
      refine jm_E_call rfl (Nat.le_of_ble_eq_true rfl) (Nat.le_of_ble_eq_true rfl) trivial hR trivial ?_
      refine jm_E_eq (x := (24, [some (jm_r 8 0), some (jm_i a0), some (jm_i a1), some (jm_i a2), none], [jm_i v6], h6)) rfl ?_
      refine jm_E_n 1 (x' := (if v6 = 0 then 25 else 29, [some (jm_r 8 0), some (jm_i a0), some (jm_i a1), some (jm_i a2), none], [], h6)) rfl ?_
      refine jm_E_ite (fun hc => ?_) (fun hc => ?_)
      · replace H := H.1 hc
        refine jm_E_n 2 (x' := (27, [some (jm_r 8 0), some (jm_i a0), some (jm_i a1), some (jm_i a2), none], [jm_i 2, jm_r 8 0], h6)) rfl ?_
        obtain ⟨v7, h7, hR, H⟩ := H
        refine jm_E_call rfl (Nat.le_of_ble_eq_true rfl) (Nat.le_of_ble_eq_true rfl) rfl hR trivial ?_
        refine jm_E_eq (x := (28, [some (jm_r 8 0), some (jm_i a0), some (jm_i a1), some (jm_i a2), none], [jm_i v7], h7)) rfl ?_
        exact jm_E_ret rfl (by rw [H]; rfl)
      · replace H := H.2 hc
        refine jm_E_n 7 (x' := (36, [some (jm_r 8 0), some (jm_i a0), some (jm_i a1), some (jm_i a2), none], [jm_i ((6 * a0) + a1), jm_r 40 0], h6)) rfl ?_
        refine jm_E_iald rfl rfl H.1 ?_
        replace H := H.2
        refine jm_E_eq (x := (37, [some (jm_r 8 0), some (jm_i a0), some (jm_i a1), some (jm_i a2), none], [jm_i (h6.1 40 0 (((6 * a0) + a1).toNatClampNeg))], h6)) rfl ?_
        refine jm_E_n 9 (x' := (46, [some (jm_r 8 0), some (jm_i a0), some (jm_i a1), some (jm_i a2), some (jm_i (h6.1 40 0 (((6 * a0) + a1).toNatClampNeg)))], [jm_i a2, jm_i ((6 * a0) + a1), jm_r 40 0], h6)) rfl ?_
        refine jm_E_iast rfl rfl H.1 ?_
        replace H := H.2
        refine jm_E_eq (x := (47, [some (jm_r 8 0), some (jm_i a0), some (jm_i a1), some (jm_i a2), some (jm_i (h6.1 40 0 (((6 * a0) + a1).toNatClampNeg)))], [], (jm_sI h6 40 0 (((6 * a0) + a1).toNatClampNeg) a2))) rfl ?_
        refine jm_E_n 1 (x' := (48, [some (jm_r 8 0), some (jm_i a0), some (jm_i a1), some (jm_i a2), some (jm_i (h6.1 40 0 (((6 * a0) + a1).toNatClampNeg)))], [jm_r 8 0], (jm_sI h6 40 0 (((6 * a0) + a1).toNatClampNeg) a2))) rfl ?_
        obtain ⟨h8, hR, H⟩ := H
        refine jm_E_call rfl (Nat.le_of_ble_eq_true rfl) (Nat.le_of_ble_eq_true rfl) rfl hR trivial ?_
        refine jm_E_eq (x := (49, [some (jm_r 8 0), some (jm_i a0), some (jm_i a1), some (jm_i a2), some (jm_i (h6.1 40 0 (((6 * a0) + a1).toNatClampNeg)))], [], h8)) rfl ?_
        refine jm_E_n 1 (x' := (50, [some (jm_r 8 0), some (jm_i a0), some (jm_i a1), some (jm_i a2), some (jm_i (h6.1 40 0 (((6 * a0) + a1).toNatClampNeg)))], [jm_i (h6.1 40 0 (((6 * a0) + a1).toNatClampNeg))], h8)) rfl ?_
        exact jm_E_ret rfl (by rw [H]; rfl)
set_option maxRecDepth 100000 in
theorem wp_M_reframe {a0 : Int32} {a1 : Int32} {h : jm_H} {r : jm_Rs} (H :
  ∃ h1 : jm_H, m_M_anew h h1 ∧
  ∃ (v2 : Int32) (h2 : jm_H), m_M_isMode a0 h1 v2 h2 ∧
  (v2 = 0 →
    ∃ (v3 : Int32) (h3 : jm_H), m_M_no 1 h2 v3 h3 ∧
    r = (some (jm_i v3), h3)) ∧
  (¬ (v2 = 0) →
    ∃ (v4 : Int32) (h4 : jm_H), m_M_in a1 4 60 h2 v4 h4 ∧
    (v4 = 0 →
      ∃ (v5 : Int32) (h5 : jm_H), m_M_no 2 h4 v5 h5 ∧
      r = (some (jm_i v5), h5)) ∧
    (¬ (v4 = 0) →
      jm_in a0 6 ∧
      ((h4.1 35 0 a0.toNatClampNeg) < a1 →
        jm_in a0 6 ∧
        jm_in a0 6 ∧
        jm_in a0 6 ∧
        ((h4.1 36 0 a0.toNatClampNeg) = 0 →
          jm_in a0 6 ∧
          ∃ h6 : jm_H, m_M_startsClock (jm_sI (jm_sI h4 34 0 a0.toNatClampNeg a1) 37 0 a0.toNatClampNeg a1) h6 ∧
          r = (some (jm_i (h4.1 34 0 a0.toNatClampNeg)), h6)) ∧
        (¬ ((h4.1 36 0 a0.toNatClampNeg) = 0) →
          ∃ h7 : jm_H, m_M_startsClock (jm_sI h4 34 0 a0.toNatClampNeg a1) h7 ∧
          r = (some (jm_i (h4.1 34 0 a0.toNatClampNeg)), h7))) ∧
      (¬ ((h4.1 35 0 a0.toNatClampNeg) < a1) →
        ∃ (v8 : Int32) (h8 : jm_H), m_M_no 2 h4 v8 h8 ∧
        r = (some (jm_i v8), h8))))) : jm_R 193 [jm_r 8 0, jm_i a0, jm_i a1] h r := by
  refine jm_R_of hz_193 (Nat.le_of_ble_eq_true rfl) ?_
  show jm_E cod_193 (0, [some (jm_r 8 0), some (jm_i a0), some (jm_i a1), none], [], h) r
  refine jm_E_n 1 (x' := (1, [some (jm_r 8 0), some (jm_i a0), some (jm_i a1), none], [jm_r 8 0], h)) rfl ?_
  obtain ⟨h1, hR, H⟩ := H
  refine jm_E_call rfl (Nat.le_of_ble_eq_true rfl) (Nat.le_of_ble_eq_true rfl) rfl hR trivial ?_
  refine jm_E_eq (x := (2, [some (jm_r 8 0), some (jm_i a0), some (jm_i a1), none], [], h1)) rfl ?_
  refine jm_E_n 2 (x' := (4, [some (jm_r 8 0), some (jm_i a0), some (jm_i a1), none], [jm_i a0, jm_r 8 0], h1)) rfl ?_
  obtain ⟨v2, h2, hR, H⟩ := H
  refine jm_E_call rfl (Nat.le_of_ble_eq_true rfl) (Nat.le_of_ble_eq_true rfl) rfl hR trivial ?_
  refine jm_E_eq (x := (5, [some (jm_r 8 0), some (jm_i a0), some (jm_i a1), none], [jm_i v2], h2)) rfl ?_
  refine jm_E_n 1 (x' := (if v2 = 0 then 6 else 10, [some (jm_r 8 0), some (jm_i a0), some (jm_i a1), none], [], h2)) rfl ?_
  refine jm_E_ite (fun hc => ?_) (fun hc => ?_)
  · replace H := H.1 hc
    refine jm_E_n 2 (x' := (8, [some (jm_r 8 0), some (jm_i a0), some (jm_i a1), none], [jm_i 1, jm_r 8 0], h2)) rfl ?_
    obtain ⟨v3, h3, hR, H⟩ := H
    refine jm_E_call rfl (Nat.le_of_ble_eq_true rfl) (Nat.le_of_ble_eq_true rfl) rfl hR trivial ?_
    refine jm_E_eq (x := (9, [some (jm_r 8 0), some (jm_i a0), some (jm_i a1), none], [jm_i v3], h3)) rfl ?_
    exact jm_E_ret rfl (by rw [H]; rfl)
  · replace H := H.2 hc
    refine jm_E_n 3 (x' := (13, [some (jm_r 8 0), some (jm_i a0), some (jm_i a1), none], [jm_i 60, jm_i 4, jm_i a1], h2)) rfl ?_
    obtain ⟨v4, h4, hR, H⟩ := H
    refine jm_E_call rfl (Nat.le_of_ble_eq_true rfl) (Nat.le_of_ble_eq_true rfl) trivial hR trivial ?_
    refine jm_E_eq (x := (14, [some (jm_r 8 0), some (jm_i a0), some (jm_i a1), none], [jm_i v4], h4)) rfl ?_
    refine jm_E_n 1 (x' := (if v4 = 0 then 21 else 15, [some (jm_r 8 0), some (jm_i a0), some (jm_i a1), none], [], h4)) rfl ?_
    refine jm_E_ite (fun hc => ?_) (fun hc => ?_)
    · replace H := H.1 hc
      refine jm_E_n 2 (x' := (23, [some (jm_r 8 0), some (jm_i a0), some (jm_i a1), none], [jm_i 2, jm_r 8 0], h4)) rfl ?_
      obtain ⟨v5, h5, hR, H⟩ := H
      refine jm_E_call rfl (Nat.le_of_ble_eq_true rfl) (Nat.le_of_ble_eq_true rfl) rfl hR trivial ?_
      refine jm_E_eq (x := (24, [some (jm_r 8 0), some (jm_i a0), some (jm_i a1), none], [jm_i v5], h5)) rfl ?_
      exact jm_E_ret rfl (by rw [H]; rfl)
    · replace H := H.2 hc
      refine jm_E_n 4 (x' := (19, [some (jm_r 8 0), some (jm_i a0), some (jm_i a1), none], [jm_i a0, jm_r 35 0, jm_i a1], h4)) rfl ?_
      refine jm_E_iald rfl rfl H.1 ?_
      replace H := H.2
      refine jm_E_eq (x := (20, [some (jm_r 8 0), some (jm_i a0), some (jm_i a1), none], [jm_i (h4.1 35 0 a0.toNatClampNeg), jm_i a1], h4)) rfl ?_
      refine jm_E_n 1 (x' := (if (h4.1 35 0 a0.toNatClampNeg) < a1 then 25 else 21, [some (jm_r 8 0), some (jm_i a0), some (jm_i a1), none], [], h4)) rfl ?_
      refine jm_E_ite (fun hc => ?_) (fun hc => ?_)
      · replace H := H.1 hc
        refine jm_E_n 3 (x' := (28, [some (jm_r 8 0), some (jm_i a0), some (jm_i a1), none], [jm_i a0, jm_r 34 0], h4)) rfl ?_
        refine jm_E_iald rfl rfl H.1 ?_
        replace H := H.2
        refine jm_E_eq (x := (29, [some (jm_r 8 0), some (jm_i a0), some (jm_i a1), none], [jm_i (h4.1 34 0 a0.toNatClampNeg)], h4)) rfl ?_
        refine jm_E_n 5 (x' := (34, [some (jm_r 8 0), some (jm_i a0), some (jm_i a1), some (jm_i (h4.1 34 0 a0.toNatClampNeg))], [jm_i a1, jm_i a0, jm_r 34 0], h4)) rfl ?_
        refine jm_E_iast rfl rfl H.1 ?_
        replace H := H.2
        refine jm_E_eq (x := (35, [some (jm_r 8 0), some (jm_i a0), some (jm_i a1), some (jm_i (h4.1 34 0 a0.toNatClampNeg))], [], (jm_sI h4 34 0 a0.toNatClampNeg a1))) rfl ?_
        refine jm_E_n 3 (x' := (38, [some (jm_r 8 0), some (jm_i a0), some (jm_i a1), some (jm_i (h4.1 34 0 a0.toNatClampNeg))], [jm_i a0, jm_r 36 0], (jm_sI h4 34 0 a0.toNatClampNeg a1))) rfl ?_
        refine jm_E_iald rfl rfl H.1 ?_
        replace H := H.2
        refine jm_E_eq (x := (39, [some (jm_r 8 0), some (jm_i a0), some (jm_i a1), some (jm_i (h4.1 34 0 a0.toNatClampNeg))], [jm_i (h4.1 36 0 a0.toNatClampNeg)], (jm_sI h4 34 0 a0.toNatClampNeg a1))) rfl ?_
        refine jm_E_n 1 (x' := (if (h4.1 36 0 a0.toNatClampNeg) = 0 then 40 else 45, [some (jm_r 8 0), some (jm_i a0), some (jm_i a1), some (jm_i (h4.1 34 0 a0.toNatClampNeg))], [], (jm_sI h4 34 0 a0.toNatClampNeg a1))) rfl ?_
        refine jm_E_ite (fun hc => ?_) (fun hc => ?_)
        · replace H := H.1 hc
          refine jm_E_n 4 (x' := (44, [some (jm_r 8 0), some (jm_i a0), some (jm_i a1), some (jm_i (h4.1 34 0 a0.toNatClampNeg))], [jm_i a1, jm_i a0, jm_r 37 0], (jm_sI h4 34 0 a0.toNatClampNeg a1))) rfl ?_
          refine jm_E_iast rfl rfl H.1 ?_
          replace H := H.2
          refine jm_E_eq (x := (45, [some (jm_r 8 0), some (jm_i a0), some (jm_i a1), some (jm_i (h4.1 34 0 a0.toNatClampNeg))], [], (jm_sI (jm_sI h4 34 0 a0.toNatClampNeg a1) 37 0 a0.toNatClampNeg a1))) rfl ?_
          refine jm_E_n 1 (x' := (46, [some (jm_r 8 0), some (jm_i a0), some (jm_i a1), some (jm_i (h4.1 34 0 a0.toNatClampNeg))], [jm_r 8 0], (jm_sI (jm_sI h4 34 0 a0.toNatClampNeg a1) 37 0 a0.toNatClampNeg a1))) rfl ?_
          obtain ⟨h6, hR, H⟩ := H
          refine jm_E_call rfl (Nat.le_of_ble_eq_true rfl) (Nat.le_of_ble_eq_true rfl) rfl hR trivial ?_
          refine jm_E_eq (x := (47, [some (jm_r 8 0), some (jm_i a0), some (jm_i a1), some (jm_i (h4.1 34 0 a0.toNatClampNeg))], [], h6)) rfl ?_
          refine jm_E_n 1 (x' := (48, [some (jm_r 8 0), some (jm_i a0), some (jm_i a1), some (jm_i (h4.1 34 0 a0.toNatClampNeg))], [jm_i (h4.1 34 0 a0.toNatClampNeg)], h6)) rfl ?_
          exact jm_E_ret rfl (by rw [H]; rfl)
        · replace H := H.2 hc
          refine jm_E_n 1 (x' := (46, [some (jm_r 8 0), some (jm_i a0), some (jm_i a1), some (jm_i (h4.1 34 0 a0.toNatClampNeg))], [jm_r 8 0], (jm_sI h4 34 0 a0.toNatClampNeg a1))) rfl ?_
          obtain ⟨h7, hR, H⟩ := H
          refine jm_E_call rfl (Nat.le_of_ble_eq_true rfl) (Nat.le_of_ble_eq_true rfl) rfl hR trivial ?_
          refine jm_E_eq (x := (47, [some (jm_r 8 0), some (jm_i a0), some (jm_i a1), some (jm_i (h4.1 34 0 a0.toNatClampNeg))], [], h7)) rfl ?_
          refine jm_E_n 1 (x' := (48, [some (jm_r 8 0), some (jm_i a0), some (jm_i a1), some (jm_i (h4.1 34 0 a0.toNatClampNeg))], [jm_i (h4.1 34 0 a0.toNatClampNeg)], h7)) rfl ?_
          exact jm_E_ret rfl (by rw [H]; rfl)
      · replace H := H.2 hc
        refine jm_E_n 2 (x' := (23, [some (jm_r 8 0), some (jm_i a0), some (jm_i a1), none], [jm_i 2, jm_r 8 0], h4)) rfl ?_
        obtain ⟨v8, h8, hR, H⟩ := H
        refine jm_E_call rfl (Nat.le_of_ble_eq_true rfl) (Nat.le_of_ble_eq_true rfl) rfl hR trivial ?_
        refine jm_E_eq (x := (24, [some (jm_r 8 0), some (jm_i a0), some (jm_i a1), none], [jm_i v8], h8)) rfl ?_
        exact jm_E_ret rfl (by rw [H]; rfl)
set_option maxRecDepth 100000 in
theorem wp_M_reserve {a0 : Int32} {a1 : Int32} {h : jm_H} {r : jm_Rs} (H :
  ∃ h1 : jm_H, m_M_anew h h1 ∧
  ∃ (v2 : Int32) (h2 : jm_H), m_M_isMode a0 h1 v2 h2 ∧
  (v2 = 0 →
    ∃ (v3 : Int32) (h3 : jm_H), m_M_no 1 h2 v3 h3 ∧
    r = (some (jm_i v3), h3)) ∧
  (¬ (v2 = 0) →
    ∃ (v4 : Int32) (h4 : jm_H), m_M_in a1 0 59 h2 v4 h4 ∧
    (v4 = 0 →
      ∃ (v5 : Int32) (h5 : jm_H), m_M_no 2 h4 v5 h5 ∧
      r = (some (jm_i v5), h5)) ∧
    (¬ (v4 = 0) →
      jm_in a0 6 ∧
      (a1 < (h4.1 34 0 a0.toNatClampNeg) →
        jm_in a0 6 ∧
        jm_in a0 6 ∧
        ∃ h6 : jm_H, m_M_startsClock (jm_sI h4 35 0 a0.toNatClampNeg a1) h6 ∧
        r = (some (jm_i (h4.1 35 0 a0.toNatClampNeg)), h6)) ∧
      (¬ (a1 < (h4.1 34 0 a0.toNatClampNeg)) →
        ∃ (v7 : Int32) (h7 : jm_H), m_M_no 2 h4 v7 h7 ∧
        r = (some (jm_i v7), h7))))) : jm_R 194 [jm_r 8 0, jm_i a0, jm_i a1] h r := by
  refine jm_R_of hz_194 (Nat.le_of_ble_eq_true rfl) ?_
  show jm_E cod_194 (0, [some (jm_r 8 0), some (jm_i a0), some (jm_i a1), none], [], h) r
  refine jm_E_n 1 (x' := (1, [some (jm_r 8 0), some (jm_i a0), some (jm_i a1), none], [jm_r 8 0], h)) rfl ?_
  obtain ⟨h1, hR, H⟩ := H
  refine jm_E_call rfl (Nat.le_of_ble_eq_true rfl) (Nat.le_of_ble_eq_true rfl) rfl hR trivial ?_
  refine jm_E_eq (x := (2, [some (jm_r 8 0), some (jm_i a0), some (jm_i a1), none], [], h1)) rfl ?_
  refine jm_E_n 2 (x' := (4, [some (jm_r 8 0), some (jm_i a0), some (jm_i a1), none], [jm_i a0, jm_r 8 0], h1)) rfl ?_
  obtain ⟨v2, h2, hR, H⟩ := H
  refine jm_E_call rfl (Nat.le_of_ble_eq_true rfl) (Nat.le_of_ble_eq_true rfl) rfl hR trivial ?_
  refine jm_E_eq (x := (5, [some (jm_r 8 0), some (jm_i a0), some (jm_i a1), none], [jm_i v2], h2)) rfl ?_
  refine jm_E_n 1 (x' := (if v2 = 0 then 6 else 10, [some (jm_r 8 0), some (jm_i a0), some (jm_i a1), none], [], h2)) rfl ?_
  refine jm_E_ite (fun hc => ?_) (fun hc => ?_)
  · replace H := H.1 hc
    refine jm_E_n 2 (x' := (8, [some (jm_r 8 0), some (jm_i a0), some (jm_i a1), none], [jm_i 1, jm_r 8 0], h2)) rfl ?_
    obtain ⟨v3, h3, hR, H⟩ := H
    refine jm_E_call rfl (Nat.le_of_ble_eq_true rfl) (Nat.le_of_ble_eq_true rfl) rfl hR trivial ?_
    refine jm_E_eq (x := (9, [some (jm_r 8 0), some (jm_i a0), some (jm_i a1), none], [jm_i v3], h3)) rfl ?_
    exact jm_E_ret rfl (by rw [H]; rfl)
  · replace H := H.2 hc
    refine jm_E_n 3 (x' := (13, [some (jm_r 8 0), some (jm_i a0), some (jm_i a1), none], [jm_i 59, jm_i 0, jm_i a1], h2)) rfl ?_
    obtain ⟨v4, h4, hR, H⟩ := H
    refine jm_E_call rfl (Nat.le_of_ble_eq_true rfl) (Nat.le_of_ble_eq_true rfl) trivial hR trivial ?_
    refine jm_E_eq (x := (14, [some (jm_r 8 0), some (jm_i a0), some (jm_i a1), none], [jm_i v4], h4)) rfl ?_
    refine jm_E_n 1 (x' := (if v4 = 0 then 21 else 15, [some (jm_r 8 0), some (jm_i a0), some (jm_i a1), none], [], h4)) rfl ?_
    refine jm_E_ite (fun hc => ?_) (fun hc => ?_)
    · replace H := H.1 hc
      refine jm_E_n 2 (x' := (23, [some (jm_r 8 0), some (jm_i a0), some (jm_i a1), none], [jm_i 2, jm_r 8 0], h4)) rfl ?_
      obtain ⟨v5, h5, hR, H⟩ := H
      refine jm_E_call rfl (Nat.le_of_ble_eq_true rfl) (Nat.le_of_ble_eq_true rfl) rfl hR trivial ?_
      refine jm_E_eq (x := (24, [some (jm_r 8 0), some (jm_i a0), some (jm_i a1), none], [jm_i v5], h5)) rfl ?_
      exact jm_E_ret rfl (by rw [H]; rfl)
    · replace H := H.2 hc
      refine jm_E_n 4 (x' := (19, [some (jm_r 8 0), some (jm_i a0), some (jm_i a1), none], [jm_i a0, jm_r 34 0, jm_i a1], h4)) rfl ?_
      refine jm_E_iald rfl rfl H.1 ?_
      replace H := H.2
      refine jm_E_eq (x := (20, [some (jm_r 8 0), some (jm_i a0), some (jm_i a1), none], [jm_i (h4.1 34 0 a0.toNatClampNeg), jm_i a1], h4)) rfl ?_
      refine jm_E_n 1 (x' := (if a1 < (h4.1 34 0 a0.toNatClampNeg) then 25 else 21, [some (jm_r 8 0), some (jm_i a0), some (jm_i a1), none], [], h4)) rfl ?_
      refine jm_E_ite (fun hc => ?_) (fun hc => ?_)
      · replace H := H.1 hc
        refine jm_E_n 3 (x' := (28, [some (jm_r 8 0), some (jm_i a0), some (jm_i a1), none], [jm_i a0, jm_r 35 0], h4)) rfl ?_
        refine jm_E_iald rfl rfl H.1 ?_
        replace H := H.2
        refine jm_E_eq (x := (29, [some (jm_r 8 0), some (jm_i a0), some (jm_i a1), none], [jm_i (h4.1 35 0 a0.toNatClampNeg)], h4)) rfl ?_
        refine jm_E_n 5 (x' := (34, [some (jm_r 8 0), some (jm_i a0), some (jm_i a1), some (jm_i (h4.1 35 0 a0.toNatClampNeg))], [jm_i a1, jm_i a0, jm_r 35 0], h4)) rfl ?_
        refine jm_E_iast rfl rfl H.1 ?_
        replace H := H.2
        refine jm_E_eq (x := (35, [some (jm_r 8 0), some (jm_i a0), some (jm_i a1), some (jm_i (h4.1 35 0 a0.toNatClampNeg))], [], (jm_sI h4 35 0 a0.toNatClampNeg a1))) rfl ?_
        refine jm_E_n 1 (x' := (36, [some (jm_r 8 0), some (jm_i a0), some (jm_i a1), some (jm_i (h4.1 35 0 a0.toNatClampNeg))], [jm_r 8 0], (jm_sI h4 35 0 a0.toNatClampNeg a1))) rfl ?_
        obtain ⟨h6, hR, H⟩ := H
        refine jm_E_call rfl (Nat.le_of_ble_eq_true rfl) (Nat.le_of_ble_eq_true rfl) rfl hR trivial ?_
        refine jm_E_eq (x := (37, [some (jm_r 8 0), some (jm_i a0), some (jm_i a1), some (jm_i (h4.1 35 0 a0.toNatClampNeg))], [], h6)) rfl ?_
        refine jm_E_n 1 (x' := (38, [some (jm_r 8 0), some (jm_i a0), some (jm_i a1), some (jm_i (h4.1 35 0 a0.toNatClampNeg))], [jm_i (h4.1 35 0 a0.toNatClampNeg)], h6)) rfl ?_
        exact jm_E_ret rfl (by rw [H]; rfl)
      · replace H := H.2 hc
        refine jm_E_n 2 (x' := (23, [some (jm_r 8 0), some (jm_i a0), some (jm_i a1), none], [jm_i 2, jm_r 8 0], h4)) rfl ?_
        obtain ⟨v7, h7, hR, H⟩ := H
        refine jm_E_call rfl (Nat.le_of_ble_eq_true rfl) (Nat.le_of_ble_eq_true rfl) rfl hR trivial ?_
        refine jm_E_eq (x := (24, [some (jm_r 8 0), some (jm_i a0), some (jm_i a1), none], [jm_i v7], h7)) rfl ?_
        exact jm_E_ret rfl (by rw [H]; rfl)
set_option maxRecDepth 100000 in
theorem wp_M_timerWhy {a0 : Int32} {a1 : Int32} {a2 : Int32} {h : jm_H} {r : jm_Rs} (H :
  ∃ (v1 : Int32) (h1 : jm_H), m_M_isMode a0 h v1 h1 ∧
  (v1 = 0 →
    r = (some (jm_i 1), h1)) ∧
  (¬ (v1 = 0) →
    ∃ (v2 : Int32) (h2 : jm_H), m_M_in a1 0 100000 h1 v2 h2 ∧
    (v2 = 0 →
      r = (some (jm_i 2), h2)) ∧
    (¬ (v2 = 0) →
      ∃ (v3 : Int32) (h3 : jm_H), m_M_in a2 1 100000 h2 v3 h3 ∧
      (v3 = 0 →
        r = (some (jm_i 2), h3)) ∧
      (¬ (v3 = 0) →
        r = (some (jm_i 0), h3))))) : jm_R 195 [jm_r 8 0, jm_i a0, jm_i a1, jm_i a2] h r := by
  refine jm_R_of hz_195 (Nat.le_of_ble_eq_true rfl) ?_
  show jm_E cod_195 (0, [some (jm_r 8 0), some (jm_i a0), some (jm_i a1), some (jm_i a2)], [], h) r
  refine jm_E_n 2 (x' := (2, [some (jm_r 8 0), some (jm_i a0), some (jm_i a1), some (jm_i a2)], [jm_i a0, jm_r 8 0], h)) rfl ?_
  obtain ⟨v1, h1, hR, H⟩ := H
  refine jm_E_call rfl (Nat.le_of_ble_eq_true rfl) (Nat.le_of_ble_eq_true rfl) rfl hR trivial ?_
  refine jm_E_eq (x := (3, [some (jm_r 8 0), some (jm_i a0), some (jm_i a1), some (jm_i a2)], [jm_i v1], h1)) rfl ?_
  refine jm_E_n 1 (x' := (if v1 = 0 then 4 else 6, [some (jm_r 8 0), some (jm_i a0), some (jm_i a1), some (jm_i a2)], [], h1)) rfl ?_
  refine jm_E_ite (fun hc => ?_) (fun hc => ?_)
  · replace H := H.1 hc
    refine jm_E_n 2 (x' := (19, [some (jm_r 8 0), some (jm_i a0), some (jm_i a1), some (jm_i a2)], [jm_i 1], h1)) rfl ?_
    exact jm_E_ret rfl (by rw [H]; rfl)
  · replace H := H.2 hc
    refine jm_E_n 3 (x' := (9, [some (jm_r 8 0), some (jm_i a0), some (jm_i a1), some (jm_i a2)], [jm_i 100000, jm_i 0, jm_i a1], h1)) rfl ?_
    obtain ⟨v2, h2, hR, H⟩ := H
    refine jm_E_call rfl (Nat.le_of_ble_eq_true rfl) (Nat.le_of_ble_eq_true rfl) trivial hR trivial ?_
    refine jm_E_eq (x := (10, [some (jm_r 8 0), some (jm_i a0), some (jm_i a1), some (jm_i a2)], [jm_i v2], h2)) rfl ?_
    refine jm_E_n 1 (x' := (if v2 = 0 then 18 else 11, [some (jm_r 8 0), some (jm_i a0), some (jm_i a1), some (jm_i a2)], [], h2)) rfl ?_
    refine jm_E_ite (fun hc => ?_) (fun hc => ?_)
    · replace H := H.1 hc
      refine jm_E_n 1 (x' := (19, [some (jm_r 8 0), some (jm_i a0), some (jm_i a1), some (jm_i a2)], [jm_i 2], h2)) rfl ?_
      exact jm_E_ret rfl (by rw [H]; rfl)
    · replace H := H.2 hc
      refine jm_E_n 3 (x' := (14, [some (jm_r 8 0), some (jm_i a0), some (jm_i a1), some (jm_i a2)], [jm_i 100000, jm_i 1, jm_i a2], h2)) rfl ?_
      obtain ⟨v3, h3, hR, H⟩ := H
      refine jm_E_call rfl (Nat.le_of_ble_eq_true rfl) (Nat.le_of_ble_eq_true rfl) trivial hR trivial ?_
      refine jm_E_eq (x := (15, [some (jm_r 8 0), some (jm_i a0), some (jm_i a1), some (jm_i a2)], [jm_i v3], h3)) rfl ?_
      refine jm_E_n 1 (x' := (if v3 = 0 then 18 else 16, [some (jm_r 8 0), some (jm_i a0), some (jm_i a1), some (jm_i a2)], [], h3)) rfl ?_
      refine jm_E_ite (fun hc => ?_) (fun hc => ?_)
      · replace H := H.1 hc
        refine jm_E_n 1 (x' := (19, [some (jm_r 8 0), some (jm_i a0), some (jm_i a1), some (jm_i a2)], [jm_i 2], h3)) rfl ?_
        exact jm_E_ret rfl (by rw [H]; rfl)
      · replace H := H.2 hc
        refine jm_E_n 2 (x' := (19, [some (jm_r 8 0), some (jm_i a0), some (jm_i a1), some (jm_i a2)], [jm_i 0], h3)) rfl ?_
        exact jm_E_ret rfl (by rw [H]; rfl)
set_option maxRecDepth 100000 in
theorem wp_M_ticks {a0 : Int32} {a1 : Int32} {a2 : Int32} {h : jm_H} {r : jm_Rs} (H :
  ∃ h1 : jm_H, m_M_anew h h1 ∧
  ∃ (v2 : Int32) (h2 : jm_H), m_M_timerWhy a0 a1 a2 h1 v2 h2 ∧
  (v2 = 0 →
    jm_in a0 6 ∧
    (FP.ddiv 4652007308841189376 (FP.i2d a2) &&& 0x7fffffffffffffff ≤ 0x7ff0000000000000) ∧
    (FP.ddiv (FP.i2d (a1 * (h2.1 34 0 a0.toNatClampNeg))) (FP.ddiv 4652007308841189376 (FP.i2d a2)) &&& 0x7fffffffffffffff ≤ 0x7ff0000000000000) ∧
    r = (some (.inl (.long (FP.d2l (FP.ddiv (FP.i2d (a1 * (h2.1 34 0 a0.toNatClampNeg))) (FP.ddiv 4652007308841189376 (FP.i2d a2)))))), h2)) ∧
  (¬ (v2 = 0) →
    ∃ (v3 : Int32) (h3 : jm_H), m_M_no v2 h2 v3 h3 ∧
    r = (some (.inl (.long v3.toInt64)), h3))) : jm_R 196 [jm_r 8 0, jm_i a0, jm_i a1, jm_i a2] h r := by
  refine jm_R_of hz_196 (Nat.le_of_ble_eq_true rfl) ?_
  show jm_E cod_196 (0, [some (jm_r 8 0), some (jm_i a0), some (jm_i a1), some (jm_i a2), none, none, none], [], h) r
  refine jm_E_n 1 (x' := (1, [some (jm_r 8 0), some (jm_i a0), some (jm_i a1), some (jm_i a2), none, none, none], [jm_r 8 0], h)) rfl ?_
  obtain ⟨h1, hR, H⟩ := H
  refine jm_E_call rfl (Nat.le_of_ble_eq_true rfl) (Nat.le_of_ble_eq_true rfl) rfl hR trivial ?_
  refine jm_E_eq (x := (2, [some (jm_r 8 0), some (jm_i a0), some (jm_i a1), some (jm_i a2), none, none, none], [], h1)) rfl ?_
  refine jm_E_n 4 (x' := (6, [some (jm_r 8 0), some (jm_i a0), some (jm_i a1), some (jm_i a2), none, none, none], [jm_i a2, jm_i a1, jm_i a0, jm_r 8 0], h1)) rfl ?_
  obtain ⟨v2, h2, hR, H⟩ := H
  refine jm_E_call rfl (Nat.le_of_ble_eq_true rfl) (Nat.le_of_ble_eq_true rfl) rfl hR trivial ?_
  refine jm_E_eq (x := (7, [some (jm_r 8 0), some (jm_i a0), some (jm_i a1), some (jm_i a2), none, none, none], [jm_i v2], h2)) rfl ?_
  refine jm_E_n 3 (x' := (if v2 = 0 then 15 else 10, [some (jm_r 8 0), some (jm_i a0), some (jm_i a1), some (jm_i a2), some (jm_i v2), none, none], [], h2)) rfl ?_
  refine jm_E_ite (fun hc => ?_) (fun hc => ?_)
  · replace H := H.1 hc
    refine jm_E_n 4 (x' := (19, [some (jm_r 8 0), some (jm_i a0), some (jm_i a1), some (jm_i a2), some (jm_i v2), none, none], [jm_i a0, jm_r 34 0, jm_i a1], h2)) rfl ?_
    refine jm_E_iald rfl rfl H.1 ?_
    replace H := H.2
    refine jm_E_eq (x := (20, [some (jm_r 8 0), some (jm_i a0), some (jm_i a1), some (jm_i a2), some (jm_i v2), none, none], [jm_i (h2.1 34 0 a0.toNatClampNeg), jm_i a1], h2)) rfl ?_
    refine jm_E_n 7 (x' := (27, [some (jm_r 8 0), some (jm_i a0), some (jm_i a1), some (jm_i a2), some (jm_i v2), some (.inl (.double (FP.i2d (a1 * (h2.1 34 0 a0.toNatClampNeg))))), none], [.inl (.double (FP.i2d a2)), .inl (.double 4652007308841189376), .inl (.double (FP.i2d (a1 * (h2.1 34 0 a0.toNatClampNeg))))], h2)) rfl ?_
    refine jm_E_dbin rfl H.1 ?_
    replace H := H.2
    refine jm_E_eq (x := (28, [some (jm_r 8 0), some (jm_i a0), some (jm_i a1), some (jm_i a2), some (jm_i v2), some (.inl (.double (FP.i2d (a1 * (h2.1 34 0 a0.toNatClampNeg))))), none], [.inl (.double (FP.ddiv 4652007308841189376 (FP.i2d a2))), .inl (.double (FP.i2d (a1 * (h2.1 34 0 a0.toNatClampNeg))))], h2)) rfl ?_
    refine jm_E_dbin rfl H.1 ?_
    replace H := H.2
    refine jm_E_eq (x := (29, [some (jm_r 8 0), some (jm_i a0), some (jm_i a1), some (jm_i a2), some (jm_i v2), some (.inl (.double (FP.i2d (a1 * (h2.1 34 0 a0.toNatClampNeg))))), none], [.inl (.double (FP.ddiv (FP.i2d (a1 * (h2.1 34 0 a0.toNatClampNeg))) (FP.ddiv 4652007308841189376 (FP.i2d a2))))], h2)) rfl ?_
    refine jm_E_n 1 (x' := (30, [some (jm_r 8 0), some (jm_i a0), some (jm_i a1), some (jm_i a2), some (jm_i v2), some (.inl (.double (FP.i2d (a1 * (h2.1 34 0 a0.toNatClampNeg))))), none], [.inl (.long (FP.d2l (FP.ddiv (FP.i2d (a1 * (h2.1 34 0 a0.toNatClampNeg))) (FP.ddiv 4652007308841189376 (FP.i2d a2)))))], h2)) rfl ?_
    exact jm_E_ret rfl (by rw [H]; rfl)
  · replace H := H.2 hc
    refine jm_E_n 2 (x' := (12, [some (jm_r 8 0), some (jm_i a0), some (jm_i a1), some (jm_i a2), some (jm_i v2), none, none], [jm_i v2, jm_r 8 0], h2)) rfl ?_
    obtain ⟨v3, h3, hR, H⟩ := H
    refine jm_E_call rfl (Nat.le_of_ble_eq_true rfl) (Nat.le_of_ble_eq_true rfl) rfl hR trivial ?_
    refine jm_E_eq (x := (13, [some (jm_r 8 0), some (jm_i a0), some (jm_i a1), some (jm_i a2), some (jm_i v2), none, none], [jm_i v3], h3)) rfl ?_
    refine jm_E_n 1 (x' := (14, [some (jm_r 8 0), some (jm_i a0), some (jm_i a1), some (jm_i a2), some (jm_i v2), none, none], [.inl (.long v3.toInt64)], h3)) rfl ?_
    exact jm_E_ret rfl (by rw [H]; rfl)
set_option maxRecDepth 100000 in
theorem wp_M_astray {a0 : Int32} {a1 : Int32} {a2 : Int32} {h : jm_H} {r : jm_Rs} (H :
  ∃ h1 : jm_H, m_M_anew h h1 ∧
  ∃ (v2 : Int32) (h2 : jm_H), m_M_timerWhy a0 a1 a2 h1 v2 h2 ∧
  (v2 = 0 →
    jm_in a0 6 ∧
    (FP.ddiv 4652007308841189376 (FP.i2d a2) &&& 0x7fffffffffffffff ≤ 0x7ff0000000000000) ∧
    (FP.drem (FP.i2d (a1 * (h2.1 34 0 a0.toNatClampNeg))) (FP.ddiv 4652007308841189376 (FP.i2d a2)) &&& 0x7fffffffffffffff ≤ 0x7ff0000000000000) ∧
    (FP.d2f (FP.drem (FP.i2d (a1 * (h2.1 34 0 a0.toNatClampNeg))) (FP.ddiv 4652007308841189376 (FP.i2d a2))) &&& 0x7fffffff ≤ 0x7f800000) ∧
    ∃ (v3 : Int32) (h3 : jm_H), m_JFloat_floatToIntBits (FP.d2f (FP.drem (FP.i2d (a1 * (h2.1 34 0 a0.toNatClampNeg))) (FP.ddiv 4652007308841189376 (FP.i2d a2)))) h2 v3 h3 ∧
    r = (some (jm_i v3), h3)) ∧
  (¬ (v2 = 0) →
    ∃ (v4 : Int32) (h4 : jm_H), m_M_no v2 h2 v4 h4 ∧
    r = (some (jm_i v4), h4))) : jm_R 197 [jm_r 8 0, jm_i a0, jm_i a1, jm_i a2] h r := by
  refine jm_R_of hz_197 (Nat.le_of_ble_eq_true rfl) ?_
  show jm_E cod_197 (0, [some (jm_r 8 0), some (jm_i a0), some (jm_i a1), some (jm_i a2), none, none, none], [], h) r
  refine jm_E_n 1 (x' := (1, [some (jm_r 8 0), some (jm_i a0), some (jm_i a1), some (jm_i a2), none, none, none], [jm_r 8 0], h)) rfl ?_
  obtain ⟨h1, hR, H⟩ := H
  refine jm_E_call rfl (Nat.le_of_ble_eq_true rfl) (Nat.le_of_ble_eq_true rfl) rfl hR trivial ?_
  refine jm_E_eq (x := (2, [some (jm_r 8 0), some (jm_i a0), some (jm_i a1), some (jm_i a2), none, none, none], [], h1)) rfl ?_
  refine jm_E_n 4 (x' := (6, [some (jm_r 8 0), some (jm_i a0), some (jm_i a1), some (jm_i a2), none, none, none], [jm_i a2, jm_i a1, jm_i a0, jm_r 8 0], h1)) rfl ?_
  obtain ⟨v2, h2, hR, H⟩ := H
  refine jm_E_call rfl (Nat.le_of_ble_eq_true rfl) (Nat.le_of_ble_eq_true rfl) rfl hR trivial ?_
  refine jm_E_eq (x := (7, [some (jm_r 8 0), some (jm_i a0), some (jm_i a1), some (jm_i a2), none, none, none], [jm_i v2], h2)) rfl ?_
  refine jm_E_n 3 (x' := (if v2 = 0 then 14 else 10, [some (jm_r 8 0), some (jm_i a0), some (jm_i a1), some (jm_i a2), some (jm_i v2), none, none], [], h2)) rfl ?_
  refine jm_E_ite (fun hc => ?_) (fun hc => ?_)
  · replace H := H.1 hc
    refine jm_E_n 4 (x' := (18, [some (jm_r 8 0), some (jm_i a0), some (jm_i a1), some (jm_i a2), some (jm_i v2), none, none], [jm_i a0, jm_r 34 0, jm_i a1], h2)) rfl ?_
    refine jm_E_iald rfl rfl H.1 ?_
    replace H := H.2
    refine jm_E_eq (x := (19, [some (jm_r 8 0), some (jm_i a0), some (jm_i a1), some (jm_i a2), some (jm_i v2), none, none], [jm_i (h2.1 34 0 a0.toNatClampNeg), jm_i a1], h2)) rfl ?_
    refine jm_E_n 7 (x' := (26, [some (jm_r 8 0), some (jm_i a0), some (jm_i a1), some (jm_i a2), some (jm_i v2), some (.inl (.double (FP.i2d (a1 * (h2.1 34 0 a0.toNatClampNeg))))), none], [.inl (.double (FP.i2d a2)), .inl (.double 4652007308841189376), .inl (.double (FP.i2d (a1 * (h2.1 34 0 a0.toNatClampNeg))))], h2)) rfl ?_
    refine jm_E_dbin rfl H.1 ?_
    replace H := H.2
    refine jm_E_eq (x := (27, [some (jm_r 8 0), some (jm_i a0), some (jm_i a1), some (jm_i a2), some (jm_i v2), some (.inl (.double (FP.i2d (a1 * (h2.1 34 0 a0.toNatClampNeg))))), none], [.inl (.double (FP.ddiv 4652007308841189376 (FP.i2d a2))), .inl (.double (FP.i2d (a1 * (h2.1 34 0 a0.toNatClampNeg))))], h2)) rfl ?_
    refine jm_E_dbin rfl H.1 ?_
    replace H := H.2
    refine jm_E_eq (x := (28, [some (jm_r 8 0), some (jm_i a0), some (jm_i a1), some (jm_i a2), some (jm_i v2), some (.inl (.double (FP.i2d (a1 * (h2.1 34 0 a0.toNatClampNeg))))), none], [.inl (.double (FP.drem (FP.i2d (a1 * (h2.1 34 0 a0.toNatClampNeg))) (FP.ddiv 4652007308841189376 (FP.i2d a2))))], h2)) rfl ?_
    refine jm_E_d2f rfl H.1 ?_
    replace H := H.2
    refine jm_E_eq (x := (29, [some (jm_r 8 0), some (jm_i a0), some (jm_i a1), some (jm_i a2), some (jm_i v2), some (.inl (.double (FP.i2d (a1 * (h2.1 34 0 a0.toNatClampNeg))))), none], [.inl (.float (FP.d2f (FP.drem (FP.i2d (a1 * (h2.1 34 0 a0.toNatClampNeg))) (FP.ddiv 4652007308841189376 (FP.i2d a2)))))], h2)) rfl ?_
    obtain ⟨v3, h3, hR, H⟩ := H
    refine jm_E_call rfl (Nat.le_of_ble_eq_true rfl) (Nat.le_of_ble_eq_true rfl) trivial hR trivial ?_
    refine jm_E_eq (x := (30, [some (jm_r 8 0), some (jm_i a0), some (jm_i a1), some (jm_i a2), some (jm_i v2), some (.inl (.double (FP.i2d (a1 * (h2.1 34 0 a0.toNatClampNeg))))), none], [jm_i v3], h3)) rfl ?_
    exact jm_E_ret rfl (by rw [H]; rfl)
  · replace H := H.2 hc
    refine jm_E_n 2 (x' := (12, [some (jm_r 8 0), some (jm_i a0), some (jm_i a1), some (jm_i a2), some (jm_i v2), none, none], [jm_i v2, jm_r 8 0], h2)) rfl ?_
    obtain ⟨v4, h4, hR, H⟩ := H
    refine jm_E_call rfl (Nat.le_of_ble_eq_true rfl) (Nat.le_of_ble_eq_true rfl) rfl hR trivial ?_
    refine jm_E_eq (x := (13, [some (jm_r 8 0), some (jm_i a0), some (jm_i a1), some (jm_i a2), some (jm_i v2), none, none], [jm_i v4], h4)) rfl ?_
    exact jm_E_ret rfl (by rw [H]; rfl)
set_option maxRecDepth 100000 in
theorem wp_M_idle_21 {x1 : Int32} {x2 : Int32} {x3 : Int32} {x4 : Int32} {h : jm_H} {r : jm_Rs} (H :
  (x3 = 0 →
    r = (some (jm_i 0), (jm_sI h 8 0 0 1))) ∧
  (¬ (x3 = 0) →
    ∃ (v2 : Int32) (h2 : jm_H), m_M_framesOf (h.1 56 0 1) h v2 h2 ∧
    (v2 ≤ x4 →
      r = (some (jm_i 0), (jm_sI h2 8 0 0 1))) ∧
    (¬ (v2 ≤ x4) →
      l_M_idle_35 x1 x2 x3 x4 0 0 h2 r))) : l_M_idle_21 x1 x2 x3 x4 h r := by
  refine jm_E_n 2 (x' := (if x3 = 0 then 67 else 23, [some (jm_r 8 0), some (jm_i x1), some (jm_i x2), some (jm_i x3), some (jm_i x4), none, none], [], h)) rfl ?_
  refine jm_E_ite (fun hc => ?_) (fun hc => ?_)
  · replace H := H.1 hc
    refine jm_E_n 4 (x' := (71, [some (jm_r 8 0), some (jm_i x1), some (jm_i x2), some (jm_i x3), some (jm_i x4), none, none], [jm_i 0], (jm_sI h 8 0 0 1))) rfl ?_
    exact jm_E_ret rfl (by rw [H]; rfl)
  · replace H := H.2 hc
    refine jm_E_n 5 (x' := (28, [some (jm_r 8 0), some (jm_i x1), some (jm_i x2), some (jm_i x3), some (jm_i x4), none, none], [jm_i 1, jm_r 56 0, jm_r 8 0, jm_i x4], h)) rfl ?_
    refine jm_E_iald rfl rfl (by decide) ?_
    refine jm_E_eq (x := (29, [some (jm_r 8 0), some (jm_i x1), some (jm_i x2), some (jm_i x3), some (jm_i x4), none, none], [jm_i (h.1 56 0 1), jm_r 8 0, jm_i x4], h)) rfl ?_
    obtain ⟨v2, h2, hR, H⟩ := H
    refine jm_E_call rfl (Nat.le_of_ble_eq_true rfl) (Nat.le_of_ble_eq_true rfl) rfl hR trivial ?_
    refine jm_E_eq (x := (30, [some (jm_r 8 0), some (jm_i x1), some (jm_i x2), some (jm_i x3), some (jm_i x4), none, none], [jm_i v2, jm_i x4], h2)) rfl ?_
    refine jm_E_n 1 (x' := (if v2 ≤ x4 then 67 else 31, [some (jm_r 8 0), some (jm_i x1), some (jm_i x2), some (jm_i x3), some (jm_i x4), none, none], [], h2)) rfl ?_
    refine jm_E_ite (fun hc => ?_) (fun hc => ?_)
    · replace H := H.1 hc
      refine jm_E_n 4 (x' := (71, [some (jm_r 8 0), some (jm_i x1), some (jm_i x2), some (jm_i x3), some (jm_i x4), none, none], [jm_i 0], (jm_sI h2 8 0 0 1))) rfl ?_
      exact jm_E_ret rfl (by rw [H]; rfl)
    · replace H := H.2 hc
      refine jm_E_n 4 (x' := (35, [some (jm_r 8 0), some (jm_i x1), some (jm_i x2), some (jm_i x3), some (jm_i x4), some (jm_i 0), some (jm_i 0)], [], h2)) rfl ?_
      exact H
set_option maxRecDepth 100000 in
theorem wp_M_idle_35 {x1 : Int32} {x2 : Int32} {x3 : Int32} {x4 : Int32} {x5 : Int32} {x6 : Int32} {h : jm_H} {r : jm_Rs} (H :
  jm_in (h.1 56 0 1) 3 ∧
  ((h.1 42 0 ((h.1 56 0 1).toNatClampNeg)) ≤ x6 →
    (x5 = 0 →
      (x2 = x1 →
        r = (some (jm_i x4), h)) ∧
      (¬ (x2 = x1) →
        l_M_idle_21 x1 (x2 + 1) x3 (x4 + 1) h r)) ∧
    (¬ (x5 = 0) →
      l_M_idle_21 x1 x2 x3 (x4 + 1) h r)) ∧
  (¬ ((h.1 42 0 ((h.1 56 0 1).toNatClampNeg)) ≤ x6) →
    ∃ (v3 : Int32) (h3 : jm_H), m_M_has (h.1 56 0 1) x6 x4 h v3 h3 ∧
    l_M_idle_35 x1 x2 x3 x4 (x5 + v3) (x6 + 1) h3 r)) : l_M_idle_35 x1 x2 x3 x4 x5 x6 h r := by
  refine jm_E_n 6 (x' := (41, [some (jm_r 8 0), some (jm_i x1), some (jm_i x2), some (jm_i x3), some (jm_i x4), some (jm_i x5), some (jm_i x6)], [jm_i 1, jm_r 56 0, jm_r 42 0, jm_i x6], h)) rfl ?_
  refine jm_E_iald rfl rfl (by decide) ?_
  refine jm_E_eq (x := (42, [some (jm_r 8 0), some (jm_i x1), some (jm_i x2), some (jm_i x3), some (jm_i x4), some (jm_i x5), some (jm_i x6)], [jm_i (h.1 56 0 1), jm_r 42 0, jm_i x6], h)) rfl ?_
  refine jm_E_iald rfl rfl H.1 ?_
  replace H := H.2
  refine jm_E_eq (x := (43, [some (jm_r 8 0), some (jm_i x1), some (jm_i x2), some (jm_i x3), some (jm_i x4), some (jm_i x5), some (jm_i x6)], [jm_i (h.1 42 0 ((h.1 56 0 1).toNatClampNeg)), jm_i x6], h)) rfl ?_
  refine jm_E_n 1 (x' := (if (h.1 42 0 ((h.1 56 0 1).toNatClampNeg)) ≤ x6 then 57 else 44, [some (jm_r 8 0), some (jm_i x1), some (jm_i x2), some (jm_i x3), some (jm_i x4), some (jm_i x5), some (jm_i x6)], [], h)) rfl ?_
  refine jm_E_ite (fun hc => ?_) (fun hc => ?_)
  · replace H := H.1 hc
    refine jm_E_n 2 (x' := (if x5 = 0 then 59 else 65, [some (jm_r 8 0), some (jm_i x1), some (jm_i x2), some (jm_i x3), some (jm_i x4), some (jm_i x5), some (jm_i x6)], [], h)) rfl ?_
    refine jm_E_ite (fun hc => ?_) (fun hc => ?_)
    · replace H := H.1 hc
      refine jm_E_n 3 (x' := (if x2 = x1 then 62 else 64, [some (jm_r 8 0), some (jm_i x1), some (jm_i x2), some (jm_i x3), some (jm_i x4), some (jm_i x5), some (jm_i x6)], [], h)) rfl ?_
      refine jm_E_ite (fun hc => ?_) (fun hc => ?_)
      · replace H := H.1 hc
        refine jm_E_n 1 (x' := (63, [some (jm_r 8 0), some (jm_i x1), some (jm_i x2), some (jm_i x3), some (jm_i x4), some (jm_i x5), some (jm_i x6)], [jm_i x4], h)) rfl ?_
        exact jm_E_ret rfl (by rw [H]; rfl)
      · replace H := H.2 hc
        refine jm_E_n 3 (x' := (21, [some (jm_r 8 0), some (jm_i x1), some (jm_i (x2 + 1)), some (jm_i x3), some (jm_i (x4 + 1)), some (jm_i x5), some (jm_i x6)], [], h)) rfl ?_
        exact jm_E_weak (jm_le_s (jm_le_s (jm_le_s (jm_le_s (jm_le_s (jm_le_n (jm_le_n jm_le_nil))))))) H
    · replace H := H.2 hc
      refine jm_E_n 2 (x' := (21, [some (jm_r 8 0), some (jm_i x1), some (jm_i x2), some (jm_i x3), some (jm_i (x4 + 1)), some (jm_i x5), some (jm_i x6)], [], h)) rfl ?_
      exact jm_E_weak (jm_le_s (jm_le_s (jm_le_s (jm_le_s (jm_le_s (jm_le_n (jm_le_n jm_le_nil))))))) H
  · replace H := H.2 hc
    refine jm_E_n 5 (x' := (49, [some (jm_r 8 0), some (jm_i x1), some (jm_i x2), some (jm_i x3), some (jm_i x4), some (jm_i x5), some (jm_i x6)], [jm_i 1, jm_r 56 0, jm_r 8 0, jm_i x5], h)) rfl ?_
    refine jm_E_iald rfl rfl (by decide) ?_
    refine jm_E_eq (x := (50, [some (jm_r 8 0), some (jm_i x1), some (jm_i x2), some (jm_i x3), some (jm_i x4), some (jm_i x5), some (jm_i x6)], [jm_i (h.1 56 0 1), jm_r 8 0, jm_i x5], h)) rfl ?_
    refine jm_E_n 2 (x' := (52, [some (jm_r 8 0), some (jm_i x1), some (jm_i x2), some (jm_i x3), some (jm_i x4), some (jm_i x5), some (jm_i x6)], [jm_i x4, jm_i x6, jm_i (h.1 56 0 1), jm_r 8 0, jm_i x5], h)) rfl ?_
    obtain ⟨v3, h3, hR, H⟩ := H
    refine jm_E_call rfl (Nat.le_of_ble_eq_true rfl) (Nat.le_of_ble_eq_true rfl) rfl hR trivial ?_
    refine jm_E_eq (x := (53, [some (jm_r 8 0), some (jm_i x1), some (jm_i x2), some (jm_i x3), some (jm_i x4), some (jm_i x5), some (jm_i x6)], [jm_i v3, jm_i x5], h3)) rfl ?_
    refine jm_E_n 4 (x' := (35, [some (jm_r 8 0), some (jm_i x1), some (jm_i x2), some (jm_i x3), some (jm_i x4), some (jm_i (x5 + v3)), some (jm_i (x6 + 1))], [], h3)) rfl ?_
    exact H
set_option maxRecDepth 100000 in
theorem wp_M_idle {a0 : Int32} {h : jm_H} {r : jm_Rs} (H :
  ((h.1 8 0 6) ≤ 0 →
    l_M_idle_21 a0 0 0 0 (jm_sI h 8 0 0 0) r) ∧
  (¬ ((h.1 8 0 6) ≤ 0) →
    ∃ (v1 : Int32) (h1 : jm_H), m_M_isLaid (h.1 56 0 1) (jm_sI h 8 0 0 0) v1 h1 ∧
    (v1 = 0 →
      l_M_idle_21 a0 0 0 0 h1 r) ∧
    (¬ (v1 = 0) →
      l_M_idle_21 a0 0 1 0 h1 r))) : jm_R 198 [jm_r 8 0, jm_i a0] h r := by
  refine jm_R_of hz_198 (Nat.le_of_ble_eq_true rfl) ?_
  show jm_E cod_198 (0, [some (jm_r 8 0), some (jm_i a0), none, none, none, none, none], [], h) r
  refine jm_E_n 8 (x' := (if (h.1 8 0 6) ≤ 0 then 17 else 8, [some (jm_r 8 0), some (jm_i a0), some (jm_i 0), none, none, none, none], [], (jm_sI h 8 0 0 0))) rfl ?_
  refine jm_E_ite (fun hc => ?_) (fun hc => ?_)
  · replace H := H.1 hc
    refine jm_E_n 4 (x' := (21, [some (jm_r 8 0), some (jm_i a0), some (jm_i 0), some (jm_i 0), some (jm_i 0), none, none], [], (jm_sI h 8 0 0 0))) rfl ?_
    exact H
  · replace H := H.2 hc
    refine jm_E_n 4 (x' := (12, [some (jm_r 8 0), some (jm_i a0), some (jm_i 0), none, none, none, none], [jm_i 1, jm_r 56 0, jm_r 8 0], (jm_sI h 8 0 0 0))) rfl ?_
    refine jm_E_iald rfl rfl (by decide) ?_
    refine jm_E_eq (x := (13, [some (jm_r 8 0), some (jm_i a0), some (jm_i 0), none, none, none, none], [jm_i (h.1 56 0 1), jm_r 8 0], (jm_sI h 8 0 0 0))) rfl ?_
    obtain ⟨v1, h1, hR, H⟩ := H
    refine jm_E_call rfl (Nat.le_of_ble_eq_true rfl) (Nat.le_of_ble_eq_true rfl) rfl hR trivial ?_
    refine jm_E_eq (x := (14, [some (jm_r 8 0), some (jm_i a0), some (jm_i 0), none, none, none, none], [jm_i v1], h1)) rfl ?_
    refine jm_E_n 1 (x' := (if v1 = 0 then 17 else 15, [some (jm_r 8 0), some (jm_i a0), some (jm_i 0), none, none, none, none], [], h1)) rfl ?_
    refine jm_E_ite (fun hc => ?_) (fun hc => ?_)
    · replace H := H.1 hc
      refine jm_E_n 4 (x' := (21, [some (jm_r 8 0), some (jm_i a0), some (jm_i 0), some (jm_i 0), some (jm_i 0), none, none], [], h1)) rfl ?_
      exact H
    · replace H := H.2 hc
      refine jm_E_n 5 (x' := (21, [some (jm_r 8 0), some (jm_i a0), some (jm_i 0), some (jm_i 1), some (jm_i 0), none, none], [], h1)) rfl ?_
      exact H
set_option maxRecDepth 100000 in
theorem wp_M_size_9 {x1 : Int32} {x2 : Int32} {x3 : Int32} {x4 : Int32} {h : jm_H} {r : jm_Rs} (H :
  ((h.1 8 0 6) ≤ x4 →
    (x1 = 0 →
      r = (some (jm_i (h.1 8 0 6)), h)) ∧
    (x1 = 1 →
      r = (some (jm_i x2), h)) ∧
    (x1 = 2 →
      r = (some (jm_i x3), h)) ∧
    (x1 = 3 →
      r = (some (jm_i (h.1 8 0 5)), h)) ∧
    (x1 = 4 →
      ((h.1 8 0 43) = 0 →
        r = (some (jm_i 0), h)) ∧
      (¬ ((h.1 8 0 43) = 0) →
        r = (some (jm_i 1), h))) ∧
    (x1.toInt < 0 ∨ 5 ≤ x1.toInt →
      r = (some (jm_i (-1)), h))) ∧
  (¬ ((h.1 8 0 6) ≤ x4) →
    jm_in x4 6 ∧
    jm_in x4 3 ∧
    l_M_size_9 x1 (x2 + (h.1 36 0 x4.toNatClampNeg)) (x3 + (h.1 42 0 x4.toNatClampNeg)) (x4 + 1) h r)) : l_M_size_9 x1 x2 x3 x4 h r := by
  refine jm_E_n 4 (x' := (if (h.1 8 0 6) ≤ x4 then 29 else 13, [some (jm_r 8 0), some (jm_i x1), some (jm_i x2), some (jm_i x3), some (jm_i x4)], [], h)) rfl ?_
  refine jm_E_ite (fun hc => ?_) (fun hc => ?_)
  · replace H := H.1 hc
    refine jm_E_n 2 (x' := (if x1.toInt < 0 ∨ 0 + (5 : Nat) ≤ x1.toInt then 48 else ([31, 34, 36, 38, 41] : List Nat).getD (x1.toInt - 0).toNat 0, [some (jm_r 8 0), some (jm_i x1), some (jm_i x2), some (jm_i x3), some (jm_i x4)], [], h)) rfl ?_
    obtain ⟨H0, H1, H2, H3, H4, HD⟩ := H
    refine jm_E_tsw5 (fun hc => ?_) (fun hc => ?_) (fun hc => ?_) (fun hc => ?_) (fun hc => ?_) (fun hc => ?_)
    · replace H := HD hc
      refine jm_E_n 1 (x' := (49, [some (jm_r 8 0), some (jm_i x1), some (jm_i x2), some (jm_i x3), some (jm_i x4)], [jm_i (-1)], h)) rfl ?_
      exact jm_E_ret rfl (by rw [H]; rfl)
    · replace H := H0 hc
      refine jm_E_n 2 (x' := (33, [some (jm_r 8 0), some (jm_i x1), some (jm_i x2), some (jm_i x3), some (jm_i x4)], [jm_i (h.1 8 0 6)], h)) rfl ?_
      exact jm_E_ret rfl (by rw [H]; rfl)
    · replace H := H1 hc
      refine jm_E_n 1 (x' := (35, [some (jm_r 8 0), some (jm_i x1), some (jm_i x2), some (jm_i x3), some (jm_i x4)], [jm_i x2], h)) rfl ?_
      exact jm_E_ret rfl (by rw [H]; rfl)
    · replace H := H2 hc
      refine jm_E_n 1 (x' := (37, [some (jm_r 8 0), some (jm_i x1), some (jm_i x2), some (jm_i x3), some (jm_i x4)], [jm_i x3], h)) rfl ?_
      exact jm_E_ret rfl (by rw [H]; rfl)
    · replace H := H3 hc
      refine jm_E_n 2 (x' := (40, [some (jm_r 8 0), some (jm_i x1), some (jm_i x2), some (jm_i x3), some (jm_i x4)], [jm_i (h.1 8 0 5)], h)) rfl ?_
      exact jm_E_ret rfl (by rw [H]; rfl)
    · replace H := H4 hc
      refine jm_E_n 3 (x' := (if (h.1 8 0 43) = 0 then 46 else 44, [some (jm_r 8 0), some (jm_i x1), some (jm_i x2), some (jm_i x3), some (jm_i x4)], [], h)) rfl ?_
      refine jm_E_ite (fun hc => ?_) (fun hc => ?_)
      · replace H := H.1 hc
        refine jm_E_n 1 (x' := (47, [some (jm_r 8 0), some (jm_i x1), some (jm_i x2), some (jm_i x3), some (jm_i x4)], [jm_i 0], h)) rfl ?_
        exact jm_E_ret rfl (by rw [H]; rfl)
      · replace H := H.2 hc
        refine jm_E_n 2 (x' := (47, [some (jm_r 8 0), some (jm_i x1), some (jm_i x2), some (jm_i x3), some (jm_i x4)], [jm_i 1], h)) rfl ?_
        exact jm_E_ret rfl (by rw [H]; rfl)
  · replace H := H.2 hc
    refine jm_E_n 4 (x' := (17, [some (jm_r 8 0), some (jm_i x1), some (jm_i x2), some (jm_i x3), some (jm_i x4)], [jm_i x4, jm_r 36 0, jm_i x2], h)) rfl ?_
    refine jm_E_iald rfl rfl H.1 ?_
    replace H := H.2
    refine jm_E_eq (x := (18, [some (jm_r 8 0), some (jm_i x1), some (jm_i x2), some (jm_i x3), some (jm_i x4)], [jm_i (h.1 36 0 x4.toNatClampNeg), jm_i x2], h)) rfl ?_
    refine jm_E_n 6 (x' := (24, [some (jm_r 8 0), some (jm_i x1), some (jm_i (x2 + (h.1 36 0 x4.toNatClampNeg))), some (jm_i x3), some (jm_i x4)], [jm_i x4, jm_r 42 0, jm_i x3], h)) rfl ?_
    refine jm_E_iald rfl rfl H.1 ?_
    replace H := H.2
    refine jm_E_eq (x := (25, [some (jm_r 8 0), some (jm_i x1), some (jm_i (x2 + (h.1 36 0 x4.toNatClampNeg))), some (jm_i x3), some (jm_i x4)], [jm_i (h.1 42 0 x4.toNatClampNeg), jm_i x3], h)) rfl ?_
    refine jm_E_n 4 (x' := (9, [some (jm_r 8 0), some (jm_i x1), some (jm_i (x2 + (h.1 36 0 x4.toNatClampNeg))), some (jm_i (x3 + (h.1 42 0 x4.toNatClampNeg))), some (jm_i (x4 + 1))], [], h)) rfl ?_
    exact H
set_option maxRecDepth 100000 in
theorem wp_M_size {a0 : Int32} {h : jm_H} {r : jm_Rs} (H :
  l_M_size_9 a0 0 0 0 (jm_sI h 8 0 0 0) r) : jm_R 199 [jm_r 8 0, jm_i a0] h r := by
  refine jm_R_of hz_199 (Nat.le_of_ble_eq_true rfl) ?_
  show jm_E cod_199 (0, [some (jm_r 8 0), some (jm_i a0), none, none, none], [], h) r
  refine jm_E_n 9 (x' := (9, [some (jm_r 8 0), some (jm_i a0), some (jm_i 0), some (jm_i 0), some (jm_i 0)], [], (jm_sI h 8 0 0 0))) rfl ?_
  exact H
set_option maxRecDepth 100000 in
theorem wp_M_trouble  {h : jm_H} {r : jm_Rs} (H :
  r = (some (jm_i (h.1 8 0 1)), (jm_sI h 8 0 0 0))) : jm_R 200 [jm_r 8 0] h r := by
  refine jm_R_of hz_200 (Nat.le_of_ble_eq_true rfl) ?_
  show jm_E cod_200 (0, [some (jm_r 8 0)], [], h) r
  refine jm_E_n 5 (x' := (5, [some (jm_r 8 0)], [jm_i (h.1 8 0 1)], (jm_sI h 8 0 0 0))) rfl ?_
  exact jm_E_ret rfl (by rw [H]; rfl)
