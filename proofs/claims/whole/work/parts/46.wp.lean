set_option maxRecDepth 100000 in
theorem wp_M_good_14 {x1 : Int32} {x2 : Int32} {x3 : Int32} {x4 : Int32} {h : jm_H} {r : jm_Rs} (H :
  (96 < x4 →
    ∃ (v4 : Int32) (h4 : jm_H), m_M_no 1 h v4 h4 ∧
    r = (some (jm_i v4), h4)) ∧
  (¬ (96 < x4) →
    ∃ (v5 : Int32) (h5 : jm_H), m_M_isGood x1 x4 h v5 h5 ∧
    (v5 = 0 →
      l_M_good_14 x1 x2 x3 (x4 + 1) h5 r) ∧
    (¬ (v5 = 0) →
      (x3 = x2 →
        r = (some (jm_i x4), h5)) ∧
      (¬ (x3 = x2) →
        l_M_good_14 x1 x2 (x3 + 1) (x4 + 1) h5 r)))) : l_M_good_14 x1 x2 x3 x4 h r := by
  refine jm_E_n 3 (x' := (if 96 < x4 then 30 else 17, [some (jm_r 8 0), some (jm_i x1), some (jm_i x2), some (jm_i x3), some (jm_i x4)], [], h)) rfl ?_
  refine jm_E_ite (fun hc => ?_) (fun hc => ?_)
  · replace H := H.1 hc
    refine jm_E_n 2 (x' := (32, [some (jm_r 8 0), some (jm_i x1), some (jm_i x2), some (jm_i x3), some (jm_i x4)], [jm_i 1, jm_r 8 0], h)) rfl ?_
    obtain ⟨v4, h4, hR, H⟩ := H
    refine jm_E_call rfl (Nat.le_of_ble_eq_true rfl) (Nat.le_of_ble_eq_true rfl) rfl hR trivial ?_
    refine jm_E_eq (x := (33, [some (jm_r 8 0), some (jm_i x1), some (jm_i x2), some (jm_i x3), some (jm_i x4)], [jm_i v4], h4)) rfl ?_
    exact jm_E_ret rfl (by rw [H]; rfl)
  · replace H := H.2 hc
    refine jm_E_n 3 (x' := (20, [some (jm_r 8 0), some (jm_i x1), some (jm_i x2), some (jm_i x3), some (jm_i x4)], [jm_i x4, jm_i x1, jm_r 8 0], h)) rfl ?_
    obtain ⟨v5, h5, hR, H⟩ := H
    refine jm_E_call rfl (Nat.le_of_ble_eq_true rfl) (Nat.le_of_ble_eq_true rfl) rfl hR trivial ?_
    refine jm_E_eq (x := (21, [some (jm_r 8 0), some (jm_i x1), some (jm_i x2), some (jm_i x3), some (jm_i x4)], [jm_i v5], h5)) rfl ?_
    refine jm_E_n 1 (x' := (if v5 = 0 then 28 else 22, [some (jm_r 8 0), some (jm_i x1), some (jm_i x2), some (jm_i x3), some (jm_i x4)], [], h5)) rfl ?_
    refine jm_E_ite (fun hc => ?_) (fun hc => ?_)
    · replace H := H.1 hc
      refine jm_E_n 2 (x' := (14, [some (jm_r 8 0), some (jm_i x1), some (jm_i x2), some (jm_i x3), some (jm_i (x4 + 1))], [], h5)) rfl ?_
      exact H
    · replace H := H.2 hc
      refine jm_E_n 3 (x' := (if x3 = x2 then 25 else 27, [some (jm_r 8 0), some (jm_i x1), some (jm_i x2), some (jm_i x3), some (jm_i x4)], [], h5)) rfl ?_
      refine jm_E_ite (fun hc => ?_) (fun hc => ?_)
      · replace H := H.1 hc
        refine jm_E_n 1 (x' := (26, [some (jm_r 8 0), some (jm_i x1), some (jm_i x2), some (jm_i x3), some (jm_i x4)], [jm_i x4], h5)) rfl ?_
        exact jm_E_ret rfl (by rw [H]; rfl)
      · replace H := H.2 hc
        refine jm_E_n 3 (x' := (14, [some (jm_r 8 0), some (jm_i x1), some (jm_i x2), some (jm_i (x3 + 1)), some (jm_i (x4 + 1))], [], h5)) rfl ?_
        exact H
set_option maxRecDepth 100000 in
theorem wp_M_good {a0 : Int32} {a1 : Int32} {h : jm_H} {r : jm_Rs} (H :
  ∃ h1 : jm_H, m_M_anew h h1 ∧
  ∃ (v2 : Int32) (h2 : jm_H), m_M_isMode a0 h1 v2 h2 ∧
  (v2 = 0 →
    ∃ (v3 : Int32) (h3 : jm_H), m_M_no 1 h2 v3 h3 ∧
    r = (some (jm_i v3), h3)) ∧
  (¬ (v2 = 0) →
    l_M_good_14 a0 a1 0 4 h2 r)) : jm_R 134 [jm_r 8 0, jm_i a0, jm_i a1] h r := by
  refine jm_R_of hz_134 (Nat.le_of_ble_eq_true rfl) ?_
  show jm_E cod_134 (0, [some (jm_r 8 0), some (jm_i a0), some (jm_i a1), none, none], [], h) r
  refine jm_E_n 1 (x' := (1, [some (jm_r 8 0), some (jm_i a0), some (jm_i a1), none, none], [jm_r 8 0], h)) rfl ?_
  obtain ⟨h1, hR, H⟩ := H
  refine jm_E_call rfl (Nat.le_of_ble_eq_true rfl) (Nat.le_of_ble_eq_true rfl) rfl hR trivial ?_
  refine jm_E_eq (x := (2, [some (jm_r 8 0), some (jm_i a0), some (jm_i a1), none, none], [], h1)) rfl ?_
  refine jm_E_n 2 (x' := (4, [some (jm_r 8 0), some (jm_i a0), some (jm_i a1), none, none], [jm_i a0, jm_r 8 0], h1)) rfl ?_
  obtain ⟨v2, h2, hR, H⟩ := H
  refine jm_E_call rfl (Nat.le_of_ble_eq_true rfl) (Nat.le_of_ble_eq_true rfl) rfl hR trivial ?_
  refine jm_E_eq (x := (5, [some (jm_r 8 0), some (jm_i a0), some (jm_i a1), none, none], [jm_i v2], h2)) rfl ?_
  refine jm_E_n 1 (x' := (if v2 = 0 then 6 else 10, [some (jm_r 8 0), some (jm_i a0), some (jm_i a1), none, none], [], h2)) rfl ?_
  refine jm_E_ite (fun hc => ?_) (fun hc => ?_)
  · replace H := H.1 hc
    refine jm_E_n 2 (x' := (8, [some (jm_r 8 0), some (jm_i a0), some (jm_i a1), none, none], [jm_i 1, jm_r 8 0], h2)) rfl ?_
    obtain ⟨v3, h3, hR, H⟩ := H
    refine jm_E_call rfl (Nat.le_of_ble_eq_true rfl) (Nat.le_of_ble_eq_true rfl) rfl hR trivial ?_
    refine jm_E_eq (x := (9, [some (jm_r 8 0), some (jm_i a0), some (jm_i a1), none, none], [jm_i v3], h3)) rfl ?_
    exact jm_E_ret rfl (by rw [H]; rfl)
  · replace H := H.2 hc
    refine jm_E_n 4 (x' := (14, [some (jm_r 8 0), some (jm_i a0), some (jm_i a1), some (jm_i 0), some (jm_i 4)], [], h2)) rfl ?_
    exact H
set_option maxRecDepth 100000 in
theorem wp_M_canBe_12 {x1 : Int32} {x2 : Int32} {x3 : Int32} {x4 : Int32} {h : jm_H} {r : jm_Rs} (H :
  (576 ≤ x4 →
    (x3 ≤ 0 →
      l_M_canBe_45 (x1 + 1) h r) ∧
    (¬ (x3 ≤ 0) →
      jm_in x1 24 ∧
      jm_in ((24 * (x2 + 1)) + (h.1 46 0 x1.toNatClampNeg)) 576 ∧
      jm_in ((24 * (x2 + 1)) + (h.1 46 0 x1.toNatClampNeg)) 576 ∧
      l_M_canBe_45 (x1 + 1) (jm_sI h 51 0 (((24 * (x2 + 1)) + (h.1 46 0 x1.toNatClampNeg)).toNatClampNeg) ((h.1 51 0 (((24 * (x2 + 1)) + (h.1 46 0 x1.toNatClampNeg)).toNatClampNeg)) + x3)) r)) ∧
  (¬ (576 ≤ x4) →
    jm_in x4 576 ∧
    l_M_canBe_12 x1 x2 x3 (x4 + 1) (jm_sI h 51 0 x4.toNatClampNeg 0) r)) : l_M_canBe_12 x1 x2 x3 x4 h r := by
  refine jm_E_n 3 (x' := (if 576 ≤ x4 then 22 else 15, [some (jm_r 8 0), some (jm_i x1), some (jm_i x2), some (jm_i x3), some (jm_i x4), none, none, none, none], [], h)) rfl ?_
  refine jm_E_ite (fun hc => ?_) (fun hc => ?_)
  · replace H := H.1 hc
    refine jm_E_n 2 (x' := (if x3 ≤ 0 then 41 else 24, [some (jm_r 8 0), some (jm_i x1), some (jm_i x2), some (jm_i x3), some (jm_i x4), none, none, none, none], [], h)) rfl ?_
    refine jm_E_ite (fun hc => ?_) (fun hc => ?_)
    · replace H := H.1 hc
      refine jm_E_n 4 (x' := (45, [some (jm_r 8 0), some (jm_i x1), some (jm_i x2), some (jm_i x3), some (jm_i (x1 + 1)), none, none, none, none], [], h)) rfl ?_
      exact jm_E_weak (jm_le_s (jm_le_n (jm_le_n (jm_le_n (jm_le_s (jm_le_n (jm_le_n (jm_le_n (jm_le_n jm_le_nil))))))))) H
    · replace H := H.2 hc
      refine jm_E_n 10 (x' := (34, [some (jm_r 8 0), some (jm_i x1), some (jm_i x2), some (jm_i x3), some (jm_i x4), none, none, none, none], [jm_i x1, jm_r 46 0, jm_i (24 * (x2 + 1)), jm_r 51 0], h)) rfl ?_
      refine jm_E_iald rfl rfl H.1 ?_
      replace H := H.2
      refine jm_E_eq (x := (35, [some (jm_r 8 0), some (jm_i x1), some (jm_i x2), some (jm_i x3), some (jm_i x4), none, none, none, none], [jm_i (h.1 46 0 x1.toNatClampNeg), jm_i (24 * (x2 + 1)), jm_r 51 0], h)) rfl ?_
      refine jm_E_n 2 (x' := (37, [some (jm_r 8 0), some (jm_i x1), some (jm_i x2), some (jm_i x3), some (jm_i x4), none, none, none, none], [jm_i ((24 * (x2 + 1)) + (h.1 46 0 x1.toNatClampNeg)), jm_r 51 0, jm_i ((24 * (x2 + 1)) + (h.1 46 0 x1.toNatClampNeg)), jm_r 51 0], h)) rfl ?_
      refine jm_E_iald rfl rfl H.1 ?_
      replace H := H.2
      refine jm_E_eq (x := (38, [some (jm_r 8 0), some (jm_i x1), some (jm_i x2), some (jm_i x3), some (jm_i x4), none, none, none, none], [jm_i (h.1 51 0 (((24 * (x2 + 1)) + (h.1 46 0 x1.toNatClampNeg)).toNatClampNeg)), jm_i ((24 * (x2 + 1)) + (h.1 46 0 x1.toNatClampNeg)), jm_r 51 0], h)) rfl ?_
      refine jm_E_n 2 (x' := (40, [some (jm_r 8 0), some (jm_i x1), some (jm_i x2), some (jm_i x3), some (jm_i x4), none, none, none, none], [jm_i ((h.1 51 0 (((24 * (x2 + 1)) + (h.1 46 0 x1.toNatClampNeg)).toNatClampNeg)) + x3), jm_i ((24 * (x2 + 1)) + (h.1 46 0 x1.toNatClampNeg)), jm_r 51 0], h)) rfl ?_
      refine jm_E_iast rfl rfl H.1 ?_
      replace H := H.2
      refine jm_E_eq (x := (41, [some (jm_r 8 0), some (jm_i x1), some (jm_i x2), some (jm_i x3), some (jm_i x4), none, none, none, none], [], (jm_sI h 51 0 (((24 * (x2 + 1)) + (h.1 46 0 x1.toNatClampNeg)).toNatClampNeg) ((h.1 51 0 (((24 * (x2 + 1)) + (h.1 46 0 x1.toNatClampNeg)).toNatClampNeg)) + x3)))) rfl ?_
      refine jm_E_n 4 (x' := (45, [some (jm_r 8 0), some (jm_i x1), some (jm_i x2), some (jm_i x3), some (jm_i (x1 + 1)), none, none, none, none], [], (jm_sI h 51 0 (((24 * (x2 + 1)) + (h.1 46 0 x1.toNatClampNeg)).toNatClampNeg) ((h.1 51 0 (((24 * (x2 + 1)) + (h.1 46 0 x1.toNatClampNeg)).toNatClampNeg)) + x3)))) rfl ?_
      exact jm_E_weak (jm_le_s (jm_le_n (jm_le_n (jm_le_n (jm_le_s (jm_le_n (jm_le_n (jm_le_n (jm_le_n jm_le_nil))))))))) H
  · replace H := H.2 hc
    refine jm_E_n 4 (x' := (19, [some (jm_r 8 0), some (jm_i x1), some (jm_i x2), some (jm_i x3), some (jm_i x4), none, none, none, none], [jm_i 0, jm_i x4, jm_r 51 0], h)) rfl ?_
    refine jm_E_iast rfl rfl H.1 ?_
    replace H := H.2
    refine jm_E_eq (x := (20, [some (jm_r 8 0), some (jm_i x1), some (jm_i x2), some (jm_i x3), some (jm_i x4), none, none, none, none], [], (jm_sI h 51 0 x4.toNatClampNeg 0))) rfl ?_
    refine jm_E_n 2 (x' := (12, [some (jm_r 8 0), some (jm_i x1), some (jm_i x2), some (jm_i x3), some (jm_i (x4 + 1)), none, none, none, none], [], (jm_sI h 51 0 x4.toNatClampNeg 0))) rfl ?_
    exact H
set_option maxRecDepth 100000 in
theorem wp_M_canBe_45 {x4 : Int32} {h : jm_H} {r : jm_Rs} (H :
  ((h.1 8 0 28) ≤ x4 →
    l_M_canBe_74 0 h r) ∧
  (¬ ((h.1 8 0 28) ≤ x4) →
    jm_in x4 24 ∧
    jm_in x4 24 ∧
    jm_in ((24 * (h.1 45 0 x4.toNatClampNeg)) + (h.1 46 0 x4.toNatClampNeg)) 576 ∧
    jm_in x4 24 ∧
    jm_in ((24 * (h.1 45 0 x4.toNatClampNeg)) + (h.1 46 0 x4.toNatClampNeg)) 576 ∧
    l_M_canBe_45 (x4 + 1) (jm_sI h 51 0 (((24 * (h.1 45 0 x4.toNatClampNeg)) + (h.1 46 0 x4.toNatClampNeg)).toNatClampNeg) ((h.1 51 0 (((24 * (h.1 45 0 x4.toNatClampNeg)) + (h.1 46 0 x4.toNatClampNeg)).toNatClampNeg)) + (h.1 47 0 x4.toNatClampNeg))) r)) : l_M_canBe_45 x4 h r := by
  refine jm_E_n 4 (x' := (if (h.1 8 0 28) ≤ x4 then 72 else 49, [some (jm_r 8 0), none, none, none, some (jm_i x4), none, none, none, none], [], h)) rfl ?_
  refine jm_E_ite (fun hc => ?_) (fun hc => ?_)
  · replace H := H.1 hc
    refine jm_E_n 2 (x' := (74, [some (jm_r 8 0), none, none, none, some (jm_i 0), none, none, none, none], [], h)) rfl ?_
    exact H
  · replace H := H.2 hc
    refine jm_E_n 6 (x' := (55, [some (jm_r 8 0), none, none, none, some (jm_i x4), none, none, none, none], [jm_i x4, jm_r 45 0, jm_i 24, jm_r 51 0], h)) rfl ?_
    refine jm_E_iald rfl rfl H.1 ?_
    replace H := H.2
    refine jm_E_eq (x := (56, [some (jm_r 8 0), none, none, none, some (jm_i x4), none, none, none, none], [jm_i (h.1 45 0 x4.toNatClampNeg), jm_i 24, jm_r 51 0], h)) rfl ?_
    refine jm_E_n 4 (x' := (60, [some (jm_r 8 0), none, none, none, some (jm_i x4), none, none, none, none], [jm_i x4, jm_r 46 0, jm_i (24 * (h.1 45 0 x4.toNatClampNeg)), jm_r 51 0], h)) rfl ?_
    refine jm_E_iald rfl rfl H.1 ?_
    replace H := H.2
    refine jm_E_eq (x := (61, [some (jm_r 8 0), none, none, none, some (jm_i x4), none, none, none, none], [jm_i (h.1 46 0 x4.toNatClampNeg), jm_i (24 * (h.1 45 0 x4.toNatClampNeg)), jm_r 51 0], h)) rfl ?_
    refine jm_E_n 2 (x' := (63, [some (jm_r 8 0), none, none, none, some (jm_i x4), none, none, none, none], [jm_i ((24 * (h.1 45 0 x4.toNatClampNeg)) + (h.1 46 0 x4.toNatClampNeg)), jm_r 51 0, jm_i ((24 * (h.1 45 0 x4.toNatClampNeg)) + (h.1 46 0 x4.toNatClampNeg)), jm_r 51 0], h)) rfl ?_
    refine jm_E_iald rfl rfl H.1 ?_
    replace H := H.2
    refine jm_E_eq (x := (64, [some (jm_r 8 0), none, none, none, some (jm_i x4), none, none, none, none], [jm_i (h.1 51 0 (((24 * (h.1 45 0 x4.toNatClampNeg)) + (h.1 46 0 x4.toNatClampNeg)).toNatClampNeg)), jm_i ((24 * (h.1 45 0 x4.toNatClampNeg)) + (h.1 46 0 x4.toNatClampNeg)), jm_r 51 0], h)) rfl ?_
    refine jm_E_n 3 (x' := (67, [some (jm_r 8 0), none, none, none, some (jm_i x4), none, none, none, none], [jm_i x4, jm_r 47 0, jm_i (h.1 51 0 (((24 * (h.1 45 0 x4.toNatClampNeg)) + (h.1 46 0 x4.toNatClampNeg)).toNatClampNeg)), jm_i ((24 * (h.1 45 0 x4.toNatClampNeg)) + (h.1 46 0 x4.toNatClampNeg)), jm_r 51 0], h)) rfl ?_
    refine jm_E_iald rfl rfl H.1 ?_
    replace H := H.2
    refine jm_E_eq (x := (68, [some (jm_r 8 0), none, none, none, some (jm_i x4), none, none, none, none], [jm_i (h.1 47 0 x4.toNatClampNeg), jm_i (h.1 51 0 (((24 * (h.1 45 0 x4.toNatClampNeg)) + (h.1 46 0 x4.toNatClampNeg)).toNatClampNeg)), jm_i ((24 * (h.1 45 0 x4.toNatClampNeg)) + (h.1 46 0 x4.toNatClampNeg)), jm_r 51 0], h)) rfl ?_
    refine jm_E_n 1 (x' := (69, [some (jm_r 8 0), none, none, none, some (jm_i x4), none, none, none, none], [jm_i ((h.1 51 0 (((24 * (h.1 45 0 x4.toNatClampNeg)) + (h.1 46 0 x4.toNatClampNeg)).toNatClampNeg)) + (h.1 47 0 x4.toNatClampNeg)), jm_i ((24 * (h.1 45 0 x4.toNatClampNeg)) + (h.1 46 0 x4.toNatClampNeg)), jm_r 51 0], h)) rfl ?_
    refine jm_E_iast rfl rfl H.1 ?_
    replace H := H.2
    refine jm_E_eq (x := (70, [some (jm_r 8 0), none, none, none, some (jm_i x4), none, none, none, none], [], (jm_sI h 51 0 (((24 * (h.1 45 0 x4.toNatClampNeg)) + (h.1 46 0 x4.toNatClampNeg)).toNatClampNeg) ((h.1 51 0 (((24 * (h.1 45 0 x4.toNatClampNeg)) + (h.1 46 0 x4.toNatClampNeg)).toNatClampNeg)) + (h.1 47 0 x4.toNatClampNeg))))) rfl ?_
    refine jm_E_n 2 (x' := (45, [some (jm_r 8 0), none, none, none, some (jm_i (x4 + 1)), none, none, none, none], [], (jm_sI h 51 0 (((24 * (h.1 45 0 x4.toNatClampNeg)) + (h.1 46 0 x4.toNatClampNeg)).toNatClampNeg) ((h.1 51 0 (((24 * (h.1 45 0 x4.toNatClampNeg)) + (h.1 46 0 x4.toNatClampNeg)).toNatClampNeg)) + (h.1 47 0 x4.toNatClampNeg))))) rfl ?_
    exact H
set_option maxRecDepth 100000 in
theorem wp_M_canBe_74 {x4 : Int32} {h : jm_H} {r : jm_Rs} (H :
  ((h.1 8 0 26) ≤ x4 →
    r = (some (jm_i 1), h)) ∧
  (¬ ((h.1 8 0 26) ≤ x4) →
    l_M_canBe_84 x4 0 0 x4 h r)) : l_M_canBe_74 x4 h r := by
  refine jm_E_n 4 (x' := (if (h.1 8 0 26) ≤ x4 then 122 else 78, [some (jm_r 8 0), none, none, none, some (jm_i x4), none, none, none, none], [], h)) rfl ?_
  refine jm_E_ite (fun hc => ?_) (fun hc => ?_)
  · replace H := H.1 hc
    refine jm_E_n 1 (x' := (123, [some (jm_r 8 0), none, none, none, some (jm_i x4), none, none, none, none], [jm_i 1], h)) rfl ?_
    exact jm_E_ret rfl (by rw [H]; rfl)
  · replace H := H.2 hc
    refine jm_E_n 6 (x' := (84, [some (jm_r 8 0), none, none, none, some (jm_i x4), some (jm_i 0), some (jm_i 0), some (jm_i x4), none], [], h)) rfl ?_
    exact H
set_option maxRecDepth 100000 in
theorem wp_M_canBe_84 {x4 : Int32} {x5 : Int32} {x6 : Int32} {x7 : Int32} {h : jm_H} {r : jm_Rs} (H :
  ((h.1 8 0 26) ≤ x7 →
    l_M_canBe_74 (x4 + 1) h r) ∧
  (¬ ((h.1 8 0 26) ≤ x7) →
    jm_in x7 24 ∧
    l_M_canBe_97 x4 (x5 + (h.1 50 0 x7.toNatClampNeg)) x6 x7 x4 h r)) : l_M_canBe_84 x4 x5 x6 x7 h r := by
  refine jm_E_n 4 (x' := (if (h.1 8 0 26) ≤ x7 then 120 else 88, [some (jm_r 8 0), none, none, none, some (jm_i x4), some (jm_i x5), some (jm_i x6), some (jm_i x7), none], [], h)) rfl ?_
  refine jm_E_ite (fun hc => ?_) (fun hc => ?_)
  · replace H := H.1 hc
    refine jm_E_n 2 (x' := (74, [some (jm_r 8 0), none, none, none, some (jm_i (x4 + 1)), some (jm_i x5), some (jm_i x6), some (jm_i x7), none], [], h)) rfl ?_
    exact jm_E_weak (jm_le_s (jm_le_n (jm_le_n (jm_le_n (jm_le_s (jm_le_n (jm_le_n (jm_le_n (jm_le_n jm_le_nil))))))))) H
  · replace H := H.2 hc
    refine jm_E_n 4 (x' := (92, [some (jm_r 8 0), none, none, none, some (jm_i x4), some (jm_i x5), some (jm_i x6), some (jm_i x7), none], [jm_i x7, jm_r 50 0, jm_i x5], h)) rfl ?_
    refine jm_E_iald rfl rfl H.1 ?_
    replace H := H.2
    refine jm_E_eq (x := (93, [some (jm_r 8 0), none, none, none, some (jm_i x4), some (jm_i x5), some (jm_i x6), some (jm_i x7), none], [jm_i (h.1 50 0 x7.toNatClampNeg), jm_i x5], h)) rfl ?_
    refine jm_E_n 4 (x' := (97, [some (jm_r 8 0), none, none, none, some (jm_i x4), some (jm_i (x5 + (h.1 50 0 x7.toNatClampNeg))), some (jm_i x6), some (jm_i x7), some (jm_i x4)], [], h)) rfl ?_
    exact H
set_option maxRecDepth 100000 in
theorem wp_M_canBe_97 {x4 : Int32} {x5 : Int32} {x6 : Int32} {x7 : Int32} {x8 : Int32} {h : jm_H} {r : jm_Rs} (H :
  (x7 < x8 →
    (x6 ≤ x5 →
      l_M_canBe_84 x4 x5 x6 (x7 + 1) h r) ∧
    (¬ (x6 ≤ x5) →
      r = (some (jm_i 0), h))) ∧
  (¬ (x7 < x8) →
    jm_in ((24 * x8) + x7) 576 ∧
    l_M_canBe_97 x4 x5 (x6 + (h.1 51 0 (((24 * x8) + x7).toNatClampNeg))) x7 (x8 + 1) h r)) : l_M_canBe_97 x4 x5 x6 x7 x8 h r := by
  refine jm_E_n 3 (x' := (if x7 < x8 then 113 else 100, [some (jm_r 8 0), none, none, none, some (jm_i x4), some (jm_i x5), some (jm_i x6), some (jm_i x7), some (jm_i x8)], [], h)) rfl ?_
  refine jm_E_ite (fun hc => ?_) (fun hc => ?_)
  · replace H := H.1 hc
    refine jm_E_n 3 (x' := (if x6 ≤ x5 then 118 else 116, [some (jm_r 8 0), none, none, none, some (jm_i x4), some (jm_i x5), some (jm_i x6), some (jm_i x7), some (jm_i x8)], [], h)) rfl ?_
    refine jm_E_ite (fun hc => ?_) (fun hc => ?_)
    · replace H := H.1 hc
      refine jm_E_n 2 (x' := (84, [some (jm_r 8 0), none, none, none, some (jm_i x4), some (jm_i x5), some (jm_i x6), some (jm_i (x7 + 1)), some (jm_i x8)], [], h)) rfl ?_
      exact jm_E_weak (jm_le_s (jm_le_n (jm_le_n (jm_le_n (jm_le_s (jm_le_s (jm_le_s (jm_le_s (jm_le_n jm_le_nil))))))))) H
    · replace H := H.2 hc
      refine jm_E_n 1 (x' := (117, [some (jm_r 8 0), none, none, none, some (jm_i x4), some (jm_i x5), some (jm_i x6), some (jm_i x7), some (jm_i x8)], [jm_i 0], h)) rfl ?_
      exact jm_E_ret rfl (by rw [H]; rfl)
  · replace H := H.2 hc
    refine jm_E_n 8 (x' := (108, [some (jm_r 8 0), none, none, none, some (jm_i x4), some (jm_i x5), some (jm_i x6), some (jm_i x7), some (jm_i x8)], [jm_i ((24 * x8) + x7), jm_r 51 0, jm_i x6], h)) rfl ?_
    refine jm_E_iald rfl rfl H.1 ?_
    replace H := H.2
    refine jm_E_eq (x := (109, [some (jm_r 8 0), none, none, none, some (jm_i x4), some (jm_i x5), some (jm_i x6), some (jm_i x7), some (jm_i x8)], [jm_i (h.1 51 0 (((24 * x8) + x7).toNatClampNeg)), jm_i x6], h)) rfl ?_
    refine jm_E_n 4 (x' := (97, [some (jm_r 8 0), none, none, none, some (jm_i x4), some (jm_i x5), some (jm_i (x6 + (h.1 51 0 (((24 * x8) + x7).toNatClampNeg)))), some (jm_i x7), some (jm_i (x8 + 1))], [], h)) rfl ?_
    exact H
set_option maxRecDepth 100000 in
theorem wp_M_canBe {a0 : Int32} {a1 : Int32} {a2 : Int32} {h : jm_H} {r : jm_Rs} (H :
  (a2 ≤ 0 →
    l_M_canBe_12 a0 a1 a2 0 h r) ∧
  (¬ (a2 ≤ 0) →
    jm_in a0 24 ∧
    (a1 = (h.1 46 0 a0.toNatClampNeg) →
      r = (some (jm_i 0), h)) ∧
    (¬ (a1 = (h.1 46 0 a0.toNatClampNeg)) →
      l_M_canBe_12 a0 a1 a2 0 h r))) : jm_R 135 [jm_r 8 0, jm_i a0, jm_i a1, jm_i a2] h r := by
  refine jm_R_of hz_135 (Nat.le_of_ble_eq_true rfl) ?_
  show jm_E cod_135 (0, [some (jm_r 8 0), some (jm_i a0), some (jm_i a1), some (jm_i a2), none, none, none, none, none], [], h) r
  refine jm_E_n 2 (x' := (if a2 ≤ 0 then 10 else 2, [some (jm_r 8 0), some (jm_i a0), some (jm_i a1), some (jm_i a2), none, none, none, none, none], [], h)) rfl ?_
  refine jm_E_ite (fun hc => ?_) (fun hc => ?_)
  · replace H := H.1 hc
    refine jm_E_n 2 (x' := (12, [some (jm_r 8 0), some (jm_i a0), some (jm_i a1), some (jm_i a2), some (jm_i 0), none, none, none, none], [], h)) rfl ?_
    exact H
  · replace H := H.2 hc
    refine jm_E_n 4 (x' := (6, [some (jm_r 8 0), some (jm_i a0), some (jm_i a1), some (jm_i a2), none, none, none, none, none], [jm_i a0, jm_r 46 0, jm_i a1], h)) rfl ?_
    refine jm_E_iald rfl rfl H.1 ?_
    replace H := H.2
    refine jm_E_eq (x := (7, [some (jm_r 8 0), some (jm_i a0), some (jm_i a1), some (jm_i a2), none, none, none, none, none], [jm_i (h.1 46 0 a0.toNatClampNeg), jm_i a1], h)) rfl ?_
    refine jm_E_n 1 (x' := (if a1 = (h.1 46 0 a0.toNatClampNeg) then 8 else 10, [some (jm_r 8 0), some (jm_i a0), some (jm_i a1), some (jm_i a2), none, none, none, none, none], [], h)) rfl ?_
    refine jm_E_ite (fun hc => ?_) (fun hc => ?_)
    · replace H := H.1 hc
      refine jm_E_n 1 (x' := (9, [some (jm_r 8 0), some (jm_i a0), some (jm_i a1), some (jm_i a2), none, none, none, none, none], [jm_i 0], h)) rfl ?_
      exact jm_E_ret rfl (by rw [H]; rfl)
    · replace H := H.2 hc
      refine jm_E_n 2 (x' := (12, [some (jm_r 8 0), some (jm_i a0), some (jm_i a1), some (jm_i a2), some (jm_i 0), none, none, none, none], [], h)) rfl ?_
      exact H
set_option maxRecDepth 100000 in
theorem wp_M_fills_2 {x1 : Int32} {h : jm_H} {r : jm_Rs} (H :
  (576 ≤ x1 →
    l_M_fills_14 0 h r) ∧
  (¬ (576 ≤ x1) →
    jm_in x1 576 ∧
    l_M_fills_2 (x1 + 1) (jm_sI h 49 0 x1.toNatClampNeg 0) r)) : l_M_fills_2 x1 h r := by
  refine jm_E_n 3 (x' := (if 576 ≤ x1 then 12 else 5, [some (jm_r 8 0), some (jm_i x1), none, none, none, none], [], h)) rfl ?_
  refine jm_E_ite (fun hc => ?_) (fun hc => ?_)
  · replace H := H.1 hc
    refine jm_E_n 2 (x' := (14, [some (jm_r 8 0), some (jm_i 0), none, none, none, none], [], h)) rfl ?_
    exact H
  · replace H := H.2 hc
    refine jm_E_n 4 (x' := (9, [some (jm_r 8 0), some (jm_i x1), none, none, none, none], [jm_i 0, jm_i x1, jm_r 49 0], h)) rfl ?_
    refine jm_E_iast rfl rfl H.1 ?_
    replace H := H.2
    refine jm_E_eq (x := (10, [some (jm_r 8 0), some (jm_i x1), none, none, none, none], [], (jm_sI h 49 0 x1.toNatClampNeg 0))) rfl ?_
    refine jm_E_n 2 (x' := (2, [some (jm_r 8 0), some (jm_i (x1 + 1)), none, none, none, none], [], (jm_sI h 49 0 x1.toNatClampNeg 0))) rfl ?_
    exact H
set_option maxRecDepth 100000 in
theorem wp_M_fills_14 {x1 : Int32} {h : jm_H} {r : jm_Rs} (H :
  ((h.1 8 0 26) ≤ x1 →
    l_M_fills_28 0 h r) ∧
  (¬ ((h.1 8 0 26) ≤ x1) →
    jm_in x1 24 ∧
    l_M_fills_14 (x1 + 1) (jm_sI h 50 0 x1.toNatClampNeg (h.1 8 0 27)) r)) : l_M_fills_14 x1 h r := by
  refine jm_E_n 4 (x' := (if (h.1 8 0 26) ≤ x1 then 26 else 18, [some (jm_r 8 0), some (jm_i x1), none, none, none, none], [], h)) rfl ?_
  refine jm_E_ite (fun hc => ?_) (fun hc => ?_)
  · replace H := H.1 hc
    refine jm_E_n 2 (x' := (28, [some (jm_r 8 0), some (jm_i 0), none, none, none, none], [], h)) rfl ?_
    exact H
  · replace H := H.2 hc
    refine jm_E_n 5 (x' := (23, [some (jm_r 8 0), some (jm_i x1), none, none, none, none], [jm_i (h.1 8 0 27), jm_i x1, jm_r 50 0], h)) rfl ?_
    refine jm_E_iast rfl rfl H.1 ?_
    replace H := H.2
    refine jm_E_eq (x := (24, [some (jm_r 8 0), some (jm_i x1), none, none, none, none], [], (jm_sI h 50 0 x1.toNatClampNeg (h.1 8 0 27)))) rfl ?_
    refine jm_E_n 2 (x' := (14, [some (jm_r 8 0), some (jm_i (x1 + 1)), none, none, none, none], [], (jm_sI h 50 0 x1.toNatClampNeg (h.1 8 0 27)))) rfl ?_
    exact H
set_option maxRecDepth 100000 in
theorem wp_M_fills_28 {x1 : Int32} {h : jm_H} {r : jm_Rs} (H :
  ((h.1 8 0 28) ≤ x1 →
    r = (none, h)) ∧
  (¬ ((h.1 8 0 28) ≤ x1) →
    jm_in x1 24 ∧
    jm_in x1 24 ∧
    l_M_fills_42 x1 (h.1 47 0 x1.toNatClampNeg) (h.1 45 0 x1.toNatClampNeg) h r)) : l_M_fills_28 x1 h r := by
  refine jm_E_n 4 (x' := (if (h.1 8 0 28) ≤ x1 then 101 else 32, [some (jm_r 8 0), some (jm_i x1), none, none, none, none], [], h)) rfl ?_
  refine jm_E_ite (fun hc => ?_) (fun hc => ?_)
  · replace H := H.1 hc
    exact jm_E_ret rfl (by rw [H]; rfl)
  · replace H := H.2 hc
    refine jm_E_n 3 (x' := (35, [some (jm_r 8 0), some (jm_i x1), none, none, none, none], [jm_i x1, jm_r 47 0], h)) rfl ?_
    refine jm_E_iald rfl rfl H.1 ?_
    replace H := H.2
    refine jm_E_eq (x := (36, [some (jm_r 8 0), some (jm_i x1), none, none, none, none], [jm_i (h.1 47 0 x1.toNatClampNeg)], h)) rfl ?_
    refine jm_E_n 4 (x' := (40, [some (jm_r 8 0), some (jm_i x1), some (jm_i (h.1 47 0 x1.toNatClampNeg)), none, none, none], [jm_i x1, jm_r 45 0], h)) rfl ?_
    refine jm_E_iald rfl rfl H.1 ?_
    replace H := H.2
    refine jm_E_eq (x := (41, [some (jm_r 8 0), some (jm_i x1), some (jm_i (h.1 47 0 x1.toNatClampNeg)), none, none, none], [jm_i (h.1 45 0 x1.toNatClampNeg)], h)) rfl ?_
    refine jm_E_n 1 (x' := (42, [some (jm_r 8 0), some (jm_i x1), some (jm_i (h.1 47 0 x1.toNatClampNeg)), some (jm_i (h.1 45 0 x1.toNatClampNeg)), none, none], [], h)) rfl ?_
    exact H
set_option maxRecDepth 100000 in
theorem wp_M_fills_42 {x1 : Int32} {x2 : Int32} {x3 : Int32} {h : jm_H} {r : jm_Rs} (H :
  jm_in x1 24 ∧
  ((h.1 46 0 x1.toNatClampNeg) < x3 →
    l_M_fills_28 (x1 + 1) h r) ∧
  (¬ ((h.1 46 0 x1.toNatClampNeg) < x3) →
    jm_in x3 24 ∧
    ((h.1 50 0 x3.toNatClampNeg) ≤ x2 →
      jm_in x3 24 ∧
      l_M_fills_67 x1 x2 x3 (h.1 50 0 x3.toNatClampNeg) (h.1 50 0 x3.toNatClampNeg) (jm_sI h 50 0 x3.toNatClampNeg ((h.1 50 0 x3.toNatClampNeg) - (h.1 50 0 x3.toNatClampNeg))) r) ∧
    (¬ ((h.1 50 0 x3.toNatClampNeg) ≤ x2) →
      jm_in x3 24 ∧
      l_M_fills_67 x1 x2 x3 (h.1 50 0 x3.toNatClampNeg) x2 (jm_sI h 50 0 x3.toNatClampNeg ((h.1 50 0 x3.toNatClampNeg) - x2)) r))) : l_M_fills_42 x1 x2 x3 h r := by
  refine jm_E_n 4 (x' := (46, [some (jm_r 8 0), some (jm_i x1), some (jm_i x2), some (jm_i x3), none, none], [jm_i x1, jm_r 46 0, jm_i x3], h)) rfl ?_
  refine jm_E_iald rfl rfl H.1 ?_
  replace H := H.2
  refine jm_E_eq (x := (47, [some (jm_r 8 0), some (jm_i x1), some (jm_i x2), some (jm_i x3), none, none], [jm_i (h.1 46 0 x1.toNatClampNeg), jm_i x3], h)) rfl ?_
  refine jm_E_n 1 (x' := (if (h.1 46 0 x1.toNatClampNeg) < x3 then 99 else 48, [some (jm_r 8 0), some (jm_i x1), some (jm_i x2), some (jm_i x3), none, none], [], h)) rfl ?_
  refine jm_E_ite (fun hc => ?_) (fun hc => ?_)
  · replace H := H.1 hc
    refine jm_E_n 2 (x' := (28, [some (jm_r 8 0), some (jm_i (x1 + 1)), some (jm_i x2), some (jm_i x3), none, none], [], h)) rfl ?_
    exact jm_E_weak (jm_le_s (jm_le_s (jm_le_n (jm_le_n (jm_le_n (jm_le_n jm_le_nil)))))) H
  · replace H := H.2 hc
    refine jm_E_n 3 (x' := (51, [some (jm_r 8 0), some (jm_i x1), some (jm_i x2), some (jm_i x3), none, none], [jm_i x3, jm_r 50 0], h)) rfl ?_
    refine jm_E_iald rfl rfl H.1 ?_
    replace H := H.2
    refine jm_E_eq (x := (52, [some (jm_r 8 0), some (jm_i x1), some (jm_i x2), some (jm_i x3), none, none], [jm_i (h.1 50 0 x3.toNatClampNeg)], h)) rfl ?_
    refine jm_E_n 4 (x' := (if (h.1 50 0 x3.toNatClampNeg) ≤ x2 then 58 else 56, [some (jm_r 8 0), some (jm_i x1), some (jm_i x2), some (jm_i x3), some (jm_i (h.1 50 0 x3.toNatClampNeg)), none], [], h)) rfl ?_
    refine jm_E_ite (fun hc => ?_) (fun hc => ?_)
    · replace H := H.1 hc
      refine jm_E_n 8 (x' := (66, [some (jm_r 8 0), some (jm_i x1), some (jm_i x2), some (jm_i x3), some (jm_i (h.1 50 0 x3.toNatClampNeg)), some (jm_i (h.1 50 0 x3.toNatClampNeg))], [jm_i ((h.1 50 0 x3.toNatClampNeg) - (h.1 50 0 x3.toNatClampNeg)), jm_i x3, jm_r 50 0], h)) rfl ?_
      refine jm_E_iast rfl rfl H.1 ?_
      replace H := H.2
      refine jm_E_eq (x := (67, [some (jm_r 8 0), some (jm_i x1), some (jm_i x2), some (jm_i x3), some (jm_i (h.1 50 0 x3.toNatClampNeg)), some (jm_i (h.1 50 0 x3.toNatClampNeg))], [], (jm_sI h 50 0 x3.toNatClampNeg ((h.1 50 0 x3.toNatClampNeg) - (h.1 50 0 x3.toNatClampNeg))))) rfl ?_
      exact H
    · replace H := H.2 hc
      refine jm_E_n 9 (x' := (66, [some (jm_r 8 0), some (jm_i x1), some (jm_i x2), some (jm_i x3), some (jm_i (h.1 50 0 x3.toNatClampNeg)), some (jm_i x2)], [jm_i ((h.1 50 0 x3.toNatClampNeg) - x2), jm_i x3, jm_r 50 0], h)) rfl ?_
      refine jm_E_iast rfl rfl H.1 ?_
      replace H := H.2
      refine jm_E_eq (x := (67, [some (jm_r 8 0), some (jm_i x1), some (jm_i x2), some (jm_i x3), some (jm_i (h.1 50 0 x3.toNatClampNeg)), some (jm_i x2)], [], (jm_sI h 50 0 x3.toNatClampNeg ((h.1 50 0 x3.toNatClampNeg) - x2)))) rfl ?_
      exact H
set_option maxRecDepth 100000 in
theorem wp_M_fills_67 {x1 : Int32} {x2 : Int32} {x3 : Int32} {x4 : Int32} {x5 : Int32} {h : jm_H} {r : jm_Rs} (H :
  ∃ (v1 : Int32) (h1 : jm_H), m_M_canBe x1 x3 (x2 - x5) h v1 h1 ∧
  (v1 = 0 →
    jm_in x3 24 ∧
    l_M_fills_67 x1 x2 x3 x4 (x5 + (-1)) (jm_sI h1 50 0 x3.toNatClampNeg (x4 - (x5 + (-1)))) r) ∧
  (¬ (v1 = 0) →
    jm_in ((24 * x1) + x3) 576 ∧
    l_M_fills_42 x1 (x2 - x5) (x3 + 1) (jm_sI h1 49 0 (((24 * x1) + x3).toNatClampNeg) x5) r)) : l_M_fills_67 x1 x2 x3 x4 x5 h r := by
  refine jm_E_n 6 (x' := (73, [some (jm_r 8 0), some (jm_i x1), some (jm_i x2), some (jm_i x3), some (jm_i x4), some (jm_i x5)], [jm_i (x2 - x5), jm_i x3, jm_i x1, jm_r 8 0], h)) rfl ?_
  obtain ⟨v1, h1, hR, H⟩ := H
  refine jm_E_call rfl (Nat.le_of_ble_eq_true rfl) (Nat.le_of_ble_eq_true rfl) rfl hR trivial ?_
  refine jm_E_eq (x := (74, [some (jm_r 8 0), some (jm_i x1), some (jm_i x2), some (jm_i x3), some (jm_i x4), some (jm_i x5)], [jm_i v1], h1)) rfl ?_
  refine jm_E_n 1 (x' := (if v1 = 0 then 75 else 84, [some (jm_r 8 0), some (jm_i x1), some (jm_i x2), some (jm_i x3), some (jm_i x4), some (jm_i x5)], [], h1)) rfl ?_
  refine jm_E_ite (fun hc => ?_) (fun hc => ?_)
  · replace H := H.1 hc
    refine jm_E_n 7 (x' := (82, [some (jm_r 8 0), some (jm_i x1), some (jm_i x2), some (jm_i x3), some (jm_i x4), some (jm_i (x5 + (-1)))], [jm_i (x4 - (x5 + (-1))), jm_i x3, jm_r 50 0], h1)) rfl ?_
    refine jm_E_iast rfl rfl H.1 ?_
    replace H := H.2
    refine jm_E_eq (x := (83, [some (jm_r 8 0), some (jm_i x1), some (jm_i x2), some (jm_i x3), some (jm_i x4), some (jm_i (x5 + (-1)))], [], (jm_sI h1 50 0 x3.toNatClampNeg (x4 - (x5 + (-1)))))) rfl ?_
    refine jm_E_n 1 (x' := (67, [some (jm_r 8 0), some (jm_i x1), some (jm_i x2), some (jm_i x3), some (jm_i x4), some (jm_i (x5 + (-1)))], [], (jm_sI h1 50 0 x3.toNatClampNeg (x4 - (x5 + (-1)))))) rfl ?_
    exact H
  · replace H := H.2 hc
    refine jm_E_n 8 (x' := (92, [some (jm_r 8 0), some (jm_i x1), some (jm_i x2), some (jm_i x3), some (jm_i x4), some (jm_i x5)], [jm_i x5, jm_i ((24 * x1) + x3), jm_r 49 0], h1)) rfl ?_
    refine jm_E_iast rfl rfl H.1 ?_
    replace H := H.2
    refine jm_E_eq (x := (93, [some (jm_r 8 0), some (jm_i x1), some (jm_i x2), some (jm_i x3), some (jm_i x4), some (jm_i x5)], [], (jm_sI h1 49 0 (((24 * x1) + x3).toNatClampNeg) x5))) rfl ?_
    refine jm_E_n 6 (x' := (42, [some (jm_r 8 0), some (jm_i x1), some (jm_i (x2 - x5)), some (jm_i (x3 + 1)), some (jm_i x4), some (jm_i x5)], [], (jm_sI h1 49 0 (((24 * x1) + x3).toNatClampNeg) x5))) rfl ?_
    exact jm_E_weak (jm_le_s (jm_le_s (jm_le_s (jm_le_s (jm_le_n (jm_le_n jm_le_nil)))))) H
set_option maxRecDepth 100000 in
theorem wp_M_fills  {h : jm_H} {r : jm_Rs} (H :
  l_M_fills_2 0 h r) : jm_R 136 [jm_r 8 0] h r := by
  refine jm_R_of hz_136 (Nat.le_of_ble_eq_true rfl) ?_
  show jm_E cod_136 (0, [some (jm_r 8 0), none, none, none, none, none], [], h) r
  refine jm_E_n 2 (x' := (2, [some (jm_r 8 0), some (jm_i 0), none, none, none, none], [], h)) rfl ?_
  exact H
set_option maxRecDepth 100000 in
theorem wp_M_tidies_2 {x1 : Int32} {h : jm_H} {r : jm_Rs} (H :
  ((h.1 8 0 28) ≤ x1 →
    r = (some (jm_i 0), h)) ∧
  (¬ ((h.1 8 0 28) ≤ x1) →
    l_M_tidies_8 x1 0 h r)) : l_M_tidies_2 x1 h r := by
  refine jm_E_n 4 (x' := (if (h.1 8 0 28) ≤ x1 then 92 else 6, [some (jm_r 8 0), some (jm_i x1), none, none, none], [], h)) rfl ?_
  refine jm_E_ite (fun hc => ?_) (fun hc => ?_)
  · replace H := H.1 hc
    refine jm_E_n 1 (x' := (93, [some (jm_r 8 0), some (jm_i x1), none, none, none], [jm_i 0], h)) rfl ?_
    exact jm_E_ret rfl (by rw [H]; rfl)
  · replace H := H.2 hc
    refine jm_E_n 2 (x' := (8, [some (jm_r 8 0), some (jm_i x1), some (jm_i 0), none, none], [], h)) rfl ?_
    exact H
set_option maxRecDepth 100000 in
theorem wp_M_tidies_8 {x1 : Int32} {x2 : Int32} {h : jm_H} {r : jm_Rs} (H :
  ((h.1 8 0 26) ≤ x2 →
    l_M_tidies_2 (x1 + 1) h r) ∧
  (¬ ((h.1 8 0 26) ≤ x2) →
    jm_in ((24 * x1) + x2) 576 ∧
    l_M_tidies_23 x1 x2 (h.1 49 0 (((24 * x1) + x2).toNatClampNeg)) 0 h r)) : l_M_tidies_8 x1 x2 h r := by
  refine jm_E_n 4 (x' := (if (h.1 8 0 26) ≤ x2 then 90 else 12, [some (jm_r 8 0), some (jm_i x1), some (jm_i x2), none, none], [], h)) rfl ?_
  refine jm_E_ite (fun hc => ?_) (fun hc => ?_)
  · replace H := H.1 hc
    refine jm_E_n 2 (x' := (2, [some (jm_r 8 0), some (jm_i (x1 + 1)), some (jm_i x2), none, none], [], h)) rfl ?_
    exact jm_E_weak (jm_le_s (jm_le_s (jm_le_n (jm_le_n (jm_le_n jm_le_nil))))) H
  · replace H := H.2 hc
    refine jm_E_n 7 (x' := (19, [some (jm_r 8 0), some (jm_i x1), some (jm_i x2), none, none], [jm_i ((24 * x1) + x2), jm_r 49 0], h)) rfl ?_
    refine jm_E_iald rfl rfl H.1 ?_
    replace H := H.2
    refine jm_E_eq (x := (20, [some (jm_r 8 0), some (jm_i x1), some (jm_i x2), none, none], [jm_i (h.1 49 0 (((24 * x1) + x2).toNatClampNeg))], h)) rfl ?_
    refine jm_E_n 3 (x' := (23, [some (jm_r 8 0), some (jm_i x1), some (jm_i x2), some (jm_i (h.1 49 0 (((24 * x1) + x2).toNatClampNeg))), some (jm_i 0)], [], h)) rfl ?_
    exact H
set_option maxRecDepth 100000 in
theorem wp_M_tidies_23 {x1 : Int32} {x2 : Int32} {x3 : Int32} {x4 : Int32} {h : jm_H} {r : jm_Rs} (H :
  ((h.1 8 0 26) ≤ x4 →
    l_M_tidies_8 x1 (x2 + 1) h r) ∧
  (¬ ((h.1 8 0 26) ≤ x4) →
    (x3 ≤ 0 →
      l_M_tidies_8 x1 (x2 + 1) h r) ∧
    (¬ (x3 ≤ 0) →
      (x4 = x2 →
        l_M_tidies_23 x1 x2 x3 (x4 + 1) h r) ∧
      (¬ (x4 = x2) →
        jm_in ((24 * x1) + x4) 576 ∧
        ((h.1 49 0 (((24 * x1) + x4).toNatClampNeg)) ≤ 0 →
          l_M_tidies_23 x1 x2 x3 (x4 + 1) h r) ∧
        (¬ ((h.1 49 0 (((24 * x1) + x4).toNatClampNeg)) ≤ 0) →
          jm_in x4 24 ∧
          ((h.1 50 0 x4.toNatClampNeg) < x3 →
            l_M_tidies_23 x1 x2 x3 (x4 + 1) h r) ∧
          (¬ ((h.1 50 0 x4.toNatClampNeg) < x3) →
            jm_in ((24 * x1) + x2) 576 ∧
            jm_in ((24 * x1) + x4) 576 ∧
            jm_in ((24 * x1) + x4) 576 ∧
            jm_in x2 24 ∧
            jm_in x2 24 ∧
            jm_in x4 24 ∧
            jm_in x4 24 ∧
            r = (some (jm_i 1), (jm_sI (jm_sI (jm_sI (jm_sI h 49 0 (((24 * x1) + x2).toNatClampNeg) 0) 49 0 (((24 * x1) + x4).toNatClampNeg) (((jm_sI h 49 0 (((24 * x1) + x2).toNatClampNeg) 0).1 49 0 (((24 * x1) + x4).toNatClampNeg)) + x3)) 50 0 x2.toNatClampNeg ((h.1 50 0 x2.toNatClampNeg) + x3)) 50 0 x4.toNatClampNeg (((jm_sI (jm_sI (jm_sI h 49 0 (((24 * x1) + x2).toNatClampNeg) 0) 49 0 (((24 * x1) + x4).toNatClampNeg) (((jm_sI h 49 0 (((24 * x1) + x2).toNatClampNeg) 0).1 49 0 (((24 * x1) + x4).toNatClampNeg)) + x3)) 50 0 x2.toNatClampNeg ((h.1 50 0 x2.toNatClampNeg) + x3)).1 50 0 x4.toNatClampNeg) - x3))))))))) : l_M_tidies_23 x1 x2 x3 x4 h r := by
  refine jm_E_n 4 (x' := (if (h.1 8 0 26) ≤ x4 then 88 else 27, [some (jm_r 8 0), some (jm_i x1), some (jm_i x2), some (jm_i x3), some (jm_i x4)], [], h)) rfl ?_
  refine jm_E_ite (fun hc => ?_) (fun hc => ?_)
  · replace H := H.1 hc
    refine jm_E_n 2 (x' := (8, [some (jm_r 8 0), some (jm_i x1), some (jm_i (x2 + 1)), some (jm_i x3), some (jm_i x4)], [], h)) rfl ?_
    exact jm_E_weak (jm_le_s (jm_le_s (jm_le_s (jm_le_n (jm_le_n jm_le_nil))))) H
  · replace H := H.2 hc
    refine jm_E_n 2 (x' := (if x3 ≤ 0 then 88 else 29, [some (jm_r 8 0), some (jm_i x1), some (jm_i x2), some (jm_i x3), some (jm_i x4)], [], h)) rfl ?_
    refine jm_E_ite (fun hc => ?_) (fun hc => ?_)
    · replace H := H.1 hc
      refine jm_E_n 2 (x' := (8, [some (jm_r 8 0), some (jm_i x1), some (jm_i (x2 + 1)), some (jm_i x3), some (jm_i x4)], [], h)) rfl ?_
      exact jm_E_weak (jm_le_s (jm_le_s (jm_le_s (jm_le_n (jm_le_n jm_le_nil))))) H
    · replace H := H.2 hc
      refine jm_E_n 3 (x' := (if x4 = x2 then 86 else 32, [some (jm_r 8 0), some (jm_i x1), some (jm_i x2), some (jm_i x3), some (jm_i x4)], [], h)) rfl ?_
      refine jm_E_ite (fun hc => ?_) (fun hc => ?_)
      · replace H := H.1 hc
        refine jm_E_n 2 (x' := (23, [some (jm_r 8 0), some (jm_i x1), some (jm_i x2), some (jm_i x3), some (jm_i (x4 + 1))], [], h)) rfl ?_
        exact H
      · replace H := H.2 hc
        refine jm_E_n 7 (x' := (39, [some (jm_r 8 0), some (jm_i x1), some (jm_i x2), some (jm_i x3), some (jm_i x4)], [jm_i ((24 * x1) + x4), jm_r 49 0], h)) rfl ?_
        refine jm_E_iald rfl rfl H.1 ?_
        replace H := H.2
        refine jm_E_eq (x := (40, [some (jm_r 8 0), some (jm_i x1), some (jm_i x2), some (jm_i x3), some (jm_i x4)], [jm_i (h.1 49 0 (((24 * x1) + x4).toNatClampNeg))], h)) rfl ?_
        refine jm_E_n 1 (x' := (if (h.1 49 0 (((24 * x1) + x4).toNatClampNeg)) ≤ 0 then 86 else 41, [some (jm_r 8 0), some (jm_i x1), some (jm_i x2), some (jm_i x3), some (jm_i x4)], [], h)) rfl ?_
        refine jm_E_ite (fun hc => ?_) (fun hc => ?_)
        · replace H := H.1 hc
          refine jm_E_n 2 (x' := (23, [some (jm_r 8 0), some (jm_i x1), some (jm_i x2), some (jm_i x3), some (jm_i (x4 + 1))], [], h)) rfl ?_
          exact H
        · replace H := H.2 hc
          refine jm_E_n 3 (x' := (44, [some (jm_r 8 0), some (jm_i x1), some (jm_i x2), some (jm_i x3), some (jm_i x4)], [jm_i x4, jm_r 50 0], h)) rfl ?_
          refine jm_E_iald rfl rfl H.1 ?_
          replace H := H.2
          refine jm_E_eq (x := (45, [some (jm_r 8 0), some (jm_i x1), some (jm_i x2), some (jm_i x3), some (jm_i x4)], [jm_i (h.1 50 0 x4.toNatClampNeg)], h)) rfl ?_
          refine jm_E_n 2 (x' := (if (h.1 50 0 x4.toNatClampNeg) < x3 then 86 else 47, [some (jm_r 8 0), some (jm_i x1), some (jm_i x2), some (jm_i x3), some (jm_i x4)], [], h)) rfl ?_
          refine jm_E_ite (fun hc => ?_) (fun hc => ?_)
          · replace H := H.1 hc
            refine jm_E_n 2 (x' := (23, [some (jm_r 8 0), some (jm_i x1), some (jm_i x2), some (jm_i x3), some (jm_i (x4 + 1))], [], h)) rfl ?_
            exact H
          · replace H := H.2 hc
            refine jm_E_n 8 (x' := (55, [some (jm_r 8 0), some (jm_i x1), some (jm_i x2), some (jm_i x3), some (jm_i x4)], [jm_i 0, jm_i ((24 * x1) + x2), jm_r 49 0], h)) rfl ?_
            refine jm_E_iast rfl rfl H.1 ?_
            replace H := H.2
            refine jm_E_eq (x := (56, [some (jm_r 8 0), some (jm_i x1), some (jm_i x2), some (jm_i x3), some (jm_i x4)], [], (jm_sI h 49 0 (((24 * x1) + x2).toNatClampNeg) 0))) rfl ?_
            refine jm_E_n 8 (x' := (64, [some (jm_r 8 0), some (jm_i x1), some (jm_i x2), some (jm_i x3), some (jm_i x4)], [jm_i ((24 * x1) + x4), jm_r 49 0, jm_i ((24 * x1) + x4), jm_r 49 0], (jm_sI h 49 0 (((24 * x1) + x2).toNatClampNeg) 0))) rfl ?_
            refine jm_E_iald rfl rfl H.1 ?_
            replace H := H.2
            refine jm_E_eq (x := (65, [some (jm_r 8 0), some (jm_i x1), some (jm_i x2), some (jm_i x3), some (jm_i x4)], [jm_i ((jm_sI h 49 0 (((24 * x1) + x2).toNatClampNeg) 0).1 49 0 (((24 * x1) + x4).toNatClampNeg)), jm_i ((24 * x1) + x4), jm_r 49 0], (jm_sI h 49 0 (((24 * x1) + x2).toNatClampNeg) 0))) rfl ?_
            refine jm_E_n 2 (x' := (67, [some (jm_r 8 0), some (jm_i x1), some (jm_i x2), some (jm_i x3), some (jm_i x4)], [jm_i (((jm_sI h 49 0 (((24 * x1) + x2).toNatClampNeg) 0).1 49 0 (((24 * x1) + x4).toNatClampNeg)) + x3), jm_i ((24 * x1) + x4), jm_r 49 0], (jm_sI h 49 0 (((24 * x1) + x2).toNatClampNeg) 0))) rfl ?_
            refine jm_E_iast rfl rfl H.1 ?_
            replace H := H.2
            refine jm_E_eq (x := (68, [some (jm_r 8 0), some (jm_i x1), some (jm_i x2), some (jm_i x3), some (jm_i x4)], [], (jm_sI (jm_sI h 49 0 (((24 * x1) + x2).toNatClampNeg) 0) 49 0 (((24 * x1) + x4).toNatClampNeg) (((jm_sI h 49 0 (((24 * x1) + x2).toNatClampNeg) 0).1 49 0 (((24 * x1) + x4).toNatClampNeg)) + x3)))) rfl ?_
            refine jm_E_n 4 (x' := (72, [some (jm_r 8 0), some (jm_i x1), some (jm_i x2), some (jm_i x3), some (jm_i x4)], [jm_i x2, jm_r 50 0, jm_i x2, jm_r 50 0], (jm_sI (jm_sI h 49 0 (((24 * x1) + x2).toNatClampNeg) 0) 49 0 (((24 * x1) + x4).toNatClampNeg) (((jm_sI h 49 0 (((24 * x1) + x2).toNatClampNeg) 0).1 49 0 (((24 * x1) + x4).toNatClampNeg)) + x3)))) rfl ?_
            refine jm_E_iald rfl rfl H.1 ?_
            replace H := H.2
            refine jm_E_eq (x := (73, [some (jm_r 8 0), some (jm_i x1), some (jm_i x2), some (jm_i x3), some (jm_i x4)], [jm_i (h.1 50 0 x2.toNatClampNeg), jm_i x2, jm_r 50 0], (jm_sI (jm_sI h 49 0 (((24 * x1) + x2).toNatClampNeg) 0) 49 0 (((24 * x1) + x4).toNatClampNeg) (((jm_sI h 49 0 (((24 * x1) + x2).toNatClampNeg) 0).1 49 0 (((24 * x1) + x4).toNatClampNeg)) + x3)))) rfl ?_
            refine jm_E_n 2 (x' := (75, [some (jm_r 8 0), some (jm_i x1), some (jm_i x2), some (jm_i x3), some (jm_i x4)], [jm_i ((h.1 50 0 x2.toNatClampNeg) + x3), jm_i x2, jm_r 50 0], (jm_sI (jm_sI h 49 0 (((24 * x1) + x2).toNatClampNeg) 0) 49 0 (((24 * x1) + x4).toNatClampNeg) (((jm_sI h 49 0 (((24 * x1) + x2).toNatClampNeg) 0).1 49 0 (((24 * x1) + x4).toNatClampNeg)) + x3)))) rfl ?_
            refine jm_E_iast rfl rfl H.1 ?_
            replace H := H.2
            refine jm_E_eq (x := (76, [some (jm_r 8 0), some (jm_i x1), some (jm_i x2), some (jm_i x3), some (jm_i x4)], [], (jm_sI (jm_sI (jm_sI h 49 0 (((24 * x1) + x2).toNatClampNeg) 0) 49 0 (((24 * x1) + x4).toNatClampNeg) (((jm_sI h 49 0 (((24 * x1) + x2).toNatClampNeg) 0).1 49 0 (((24 * x1) + x4).toNatClampNeg)) + x3)) 50 0 x2.toNatClampNeg ((h.1 50 0 x2.toNatClampNeg) + x3)))) rfl ?_
            refine jm_E_n 4 (x' := (80, [some (jm_r 8 0), some (jm_i x1), some (jm_i x2), some (jm_i x3), some (jm_i x4)], [jm_i x4, jm_r 50 0, jm_i x4, jm_r 50 0], (jm_sI (jm_sI (jm_sI h 49 0 (((24 * x1) + x2).toNatClampNeg) 0) 49 0 (((24 * x1) + x4).toNatClampNeg) (((jm_sI h 49 0 (((24 * x1) + x2).toNatClampNeg) 0).1 49 0 (((24 * x1) + x4).toNatClampNeg)) + x3)) 50 0 x2.toNatClampNeg ((h.1 50 0 x2.toNatClampNeg) + x3)))) rfl ?_
            refine jm_E_iald rfl rfl H.1 ?_
            replace H := H.2
            refine jm_E_eq (x := (81, [some (jm_r 8 0), some (jm_i x1), some (jm_i x2), some (jm_i x3), some (jm_i x4)], [jm_i ((jm_sI (jm_sI (jm_sI h 49 0 (((24 * x1) + x2).toNatClampNeg) 0) 49 0 (((24 * x1) + x4).toNatClampNeg) (((jm_sI h 49 0 (((24 * x1) + x2).toNatClampNeg) 0).1 49 0 (((24 * x1) + x4).toNatClampNeg)) + x3)) 50 0 x2.toNatClampNeg ((h.1 50 0 x2.toNatClampNeg) + x3)).1 50 0 x4.toNatClampNeg), jm_i x4, jm_r 50 0], (jm_sI (jm_sI (jm_sI h 49 0 (((24 * x1) + x2).toNatClampNeg) 0) 49 0 (((24 * x1) + x4).toNatClampNeg) (((jm_sI h 49 0 (((24 * x1) + x2).toNatClampNeg) 0).1 49 0 (((24 * x1) + x4).toNatClampNeg)) + x3)) 50 0 x2.toNatClampNeg ((h.1 50 0 x2.toNatClampNeg) + x3)))) rfl ?_
            refine jm_E_n 2 (x' := (83, [some (jm_r 8 0), some (jm_i x1), some (jm_i x2), some (jm_i x3), some (jm_i x4)], [jm_i (((jm_sI (jm_sI (jm_sI h 49 0 (((24 * x1) + x2).toNatClampNeg) 0) 49 0 (((24 * x1) + x4).toNatClampNeg) (((jm_sI h 49 0 (((24 * x1) + x2).toNatClampNeg) 0).1 49 0 (((24 * x1) + x4).toNatClampNeg)) + x3)) 50 0 x2.toNatClampNeg ((h.1 50 0 x2.toNatClampNeg) + x3)).1 50 0 x4.toNatClampNeg) - x3), jm_i x4, jm_r 50 0], (jm_sI (jm_sI (jm_sI h 49 0 (((24 * x1) + x2).toNatClampNeg) 0) 49 0 (((24 * x1) + x4).toNatClampNeg) (((jm_sI h 49 0 (((24 * x1) + x2).toNatClampNeg) 0).1 49 0 (((24 * x1) + x4).toNatClampNeg)) + x3)) 50 0 x2.toNatClampNeg ((h.1 50 0 x2.toNatClampNeg) + x3)))) rfl ?_
            refine jm_E_iast rfl rfl H.1 ?_
            replace H := H.2
            refine jm_E_eq (x := (84, [some (jm_r 8 0), some (jm_i x1), some (jm_i x2), some (jm_i x3), some (jm_i x4)], [], (jm_sI (jm_sI (jm_sI (jm_sI h 49 0 (((24 * x1) + x2).toNatClampNeg) 0) 49 0 (((24 * x1) + x4).toNatClampNeg) (((jm_sI h 49 0 (((24 * x1) + x2).toNatClampNeg) 0).1 49 0 (((24 * x1) + x4).toNatClampNeg)) + x3)) 50 0 x2.toNatClampNeg ((h.1 50 0 x2.toNatClampNeg) + x3)) 50 0 x4.toNatClampNeg (((jm_sI (jm_sI (jm_sI h 49 0 (((24 * x1) + x2).toNatClampNeg) 0) 49 0 (((24 * x1) + x4).toNatClampNeg) (((jm_sI h 49 0 (((24 * x1) + x2).toNatClampNeg) 0).1 49 0 (((24 * x1) + x4).toNatClampNeg)) + x3)) 50 0 x2.toNatClampNeg ((h.1 50 0 x2.toNatClampNeg) + x3)).1 50 0 x4.toNatClampNeg) - x3)))) rfl ?_
            refine jm_E_n 1 (x' := (85, [some (jm_r 8 0), some (jm_i x1), some (jm_i x2), some (jm_i x3), some (jm_i x4)], [jm_i 1], (jm_sI (jm_sI (jm_sI (jm_sI h 49 0 (((24 * x1) + x2).toNatClampNeg) 0) 49 0 (((24 * x1) + x4).toNatClampNeg) (((jm_sI h 49 0 (((24 * x1) + x2).toNatClampNeg) 0).1 49 0 (((24 * x1) + x4).toNatClampNeg)) + x3)) 50 0 x2.toNatClampNeg ((h.1 50 0 x2.toNatClampNeg) + x3)) 50 0 x4.toNatClampNeg (((jm_sI (jm_sI (jm_sI h 49 0 (((24 * x1) + x2).toNatClampNeg) 0) 49 0 (((24 * x1) + x4).toNatClampNeg) (((jm_sI h 49 0 (((24 * x1) + x2).toNatClampNeg) 0).1 49 0 (((24 * x1) + x4).toNatClampNeg)) + x3)) 50 0 x2.toNatClampNeg ((h.1 50 0 x2.toNatClampNeg) + x3)).1 50 0 x4.toNatClampNeg) - x3)))) rfl ?_
            exact jm_E_ret rfl (by rw [H]; rfl)
set_option maxRecDepth 100000 in
theorem wp_M_tidies  {h : jm_H} {r : jm_Rs} (H :
  l_M_tidies_2 0 h r) : jm_R 137 [jm_r 8 0] h r := by
  refine jm_R_of hz_137 (Nat.le_of_ble_eq_true rfl) ?_
  show jm_E cod_137 (0, [some (jm_r 8 0), none, none, none, none], [], h) r
  refine jm_E_n 2 (x' := (2, [some (jm_r 8 0), some (jm_i 0), none, none, none], [], h)) rfl ?_
  exact H
set_option maxRecDepth 100000 in
theorem wp_M_lays_9  {h : jm_H} {r : jm_Rs} (H :
  ∃ (v3 : Int32) (h3 : jm_H), m_M_tidies h v3 h3 ∧
  (v3 = 0 →
    r = (none, h3)) ∧
  (¬ (v3 = 0) →
    l_M_lays_9 (jm_sI h3 8 0 35 ((h3.1 8 0 35) + 1)) r)) : l_M_lays_9  h r := by
  refine jm_E_n 1 (x' := (10, [some (jm_r 8 0), none, none], [jm_r 8 0], h)) rfl ?_
  obtain ⟨v3, h3, hR, H⟩ := H
  refine jm_E_call rfl (Nat.le_of_ble_eq_true rfl) (Nat.le_of_ble_eq_true rfl) rfl hR trivial ?_
  refine jm_E_eq (x := (11, [some (jm_r 8 0), none, none], [jm_i v3], h3)) rfl ?_
  refine jm_E_n 1 (x' := (if v3 = 0 then 19 else 12, [some (jm_r 8 0), none, none], [], h3)) rfl ?_
  refine jm_E_ite (fun hc => ?_) (fun hc => ?_)
  · replace H := H.1 hc
    exact jm_E_ret rfl (by rw [H]; rfl)
  · replace H := H.2 hc
    refine jm_E_n 7 (x' := (9, [some (jm_r 8 0), none, none], [], (jm_sI h3 8 0 35 ((h3.1 8 0 35) + 1)))) rfl ?_
    exact H
set_option maxRecDepth 100000 in
theorem wp_M_lays {a0 : Int32} {a1 : Int32} {h : jm_H} {r : jm_Rs} (H :
  ∃ h1 : jm_H, m_M_setsUp a0 a1 h h1 ∧
  ∃ h2 : jm_H, m_M_fills h1 h2 ∧
  l_M_lays_9 (jm_sI h2 8 0 35 0) r) : jm_R 138 [jm_r 8 0, jm_i a0, jm_i a1] h r := by
  refine jm_R_of hz_138 (Nat.le_of_ble_eq_true rfl) ?_
  show jm_E cod_138 (0, [some (jm_r 8 0), some (jm_i a0), some (jm_i a1)], [], h) r
  refine jm_E_n 3 (x' := (3, [some (jm_r 8 0), some (jm_i a0), some (jm_i a1)], [jm_i a1, jm_i a0, jm_r 8 0], h)) rfl ?_
  obtain ⟨h1, hR, H⟩ := H
  refine jm_E_call rfl (Nat.le_of_ble_eq_true rfl) (Nat.le_of_ble_eq_true rfl) rfl hR trivial ?_
  refine jm_E_eq (x := (4, [some (jm_r 8 0), some (jm_i a0), some (jm_i a1)], [], h1)) rfl ?_
  refine jm_E_n 1 (x' := (5, [some (jm_r 8 0), some (jm_i a0), some (jm_i a1)], [jm_r 8 0], h1)) rfl ?_
  obtain ⟨h2, hR, H⟩ := H
  refine jm_E_call rfl (Nat.le_of_ble_eq_true rfl) (Nat.le_of_ble_eq_true rfl) rfl hR trivial ?_
  refine jm_E_eq (x := (6, [some (jm_r 8 0), some (jm_i a0), some (jm_i a1)], [], h2)) rfl ?_
  refine jm_E_n 3 (x' := (9, [some (jm_r 8 0), some (jm_i a0), some (jm_i a1)], [], (jm_sI h2 8 0 35 0))) rfl ?_
  exact jm_E_weak (jm_le_s (jm_le_n (jm_le_n jm_le_nil))) H
set_option maxRecDepth 100000 in
theorem wp_M_piecesThere_4 {x1 : Int32} {x2 : Int32} {h : jm_H} {r : jm_Rs} (H :
  (576 ≤ x2 →
    r = (some (jm_i x1), h)) ∧
  (¬ (576 ≤ x2) →
    jm_in x2 576 ∧
    ((h.1 49 0 x2.toNatClampNeg) ≤ 0 →
      l_M_piecesThere_4 (x1 + 0) (x2 + 1) h r) ∧
    (¬ ((h.1 49 0 x2.toNatClampNeg) ≤ 0) →
      l_M_piecesThere_4 (x1 + 1) (x2 + 1) h r))) : l_M_piecesThere_4 x1 x2 h r := by
  refine jm_E_n 3 (x' := (if 576 ≤ x2 then 20 else 7, [some (jm_r 8 0), some (jm_i x1), some (jm_i x2)], [], h)) rfl ?_
  refine jm_E_ite (fun hc => ?_) (fun hc => ?_)
  · replace H := H.1 hc
    refine jm_E_n 1 (x' := (21, [some (jm_r 8 0), some (jm_i x1), some (jm_i x2)], [jm_i x1], h)) rfl ?_
    exact jm_E_ret rfl (by rw [H]; rfl)
  · replace H := H.2 hc
    refine jm_E_n 4 (x' := (11, [some (jm_r 8 0), some (jm_i x1), some (jm_i x2)], [jm_i x2, jm_r 49 0, jm_i x1], h)) rfl ?_
    refine jm_E_iald rfl rfl H.1 ?_
    replace H := H.2
    refine jm_E_eq (x := (12, [some (jm_r 8 0), some (jm_i x1), some (jm_i x2)], [jm_i (h.1 49 0 x2.toNatClampNeg), jm_i x1], h)) rfl ?_
    refine jm_E_n 1 (x' := (if (h.1 49 0 x2.toNatClampNeg) ≤ 0 then 15 else 13, [some (jm_r 8 0), some (jm_i x1), some (jm_i x2)], [jm_i x1], h)) rfl ?_
    refine jm_E_ite (fun hc => ?_) (fun hc => ?_)
    · replace H := H.1 hc
      refine jm_E_n 5 (x' := (4, [some (jm_r 8 0), some (jm_i (x1 + 0)), some (jm_i (x2 + 1))], [], h)) rfl ?_
      exact H
    · replace H := H.2 hc
      refine jm_E_n 6 (x' := (4, [some (jm_r 8 0), some (jm_i (x1 + 1)), some (jm_i (x2 + 1))], [], h)) rfl ?_
      exact H
set_option maxRecDepth 100000 in
theorem wp_M_piecesThere  {h : jm_H} {r : jm_Rs} (H :
  l_M_piecesThere_4 0 0 h r) : jm_R 139 [jm_r 8 0] h r := by
  refine jm_R_of hz_139 (Nat.le_of_ble_eq_true rfl) ?_
  show jm_E cod_139 (0, [some (jm_r 8 0), none, none], [], h) r
  refine jm_E_n 4 (x' := (4, [some (jm_r 8 0), some (jm_i 0), some (jm_i 0)], [], h)) rfl ?_
  exact H
set_option maxRecDepth 100000 in
theorem wp_M_piecesBy {a0 : Int32} {a1 : Int32} {h : jm_H} {r : jm_Rs} (H :
  ∃ h1 : jm_H, m_M_anew h h1 ∧
  ∃ (v2 : Int32) (h2 : jm_H), m_M_lengthWhy a0 a1 h1 v2 h2 ∧
  (v2 = 0 →
    ∃ (v3 : Int32) (h3 : jm_H), m_M_isGood a0 a1 h2 v3 h3 ∧
    (v3 = 0 →
      ∃ (v4 : Int32) (h4 : jm_H), m_M_no 5 h3 v4 h4 ∧
      r = (some (jm_i v4), h4)) ∧
    (¬ (v3 = 0) →
      ∃ h5 : jm_H, m_M_lays a0 a1 h3 h5 ∧
      ∃ (v6 : Int32) (h6 : jm_H), m_M_piecesThere h5 v6 h6 ∧
      r = (some (jm_i v6), h6))) ∧
  (¬ (v2 = 0) →
    ∃ (v7 : Int32) (h7 : jm_H), m_M_no v2 h2 v7 h7 ∧
    r = (some (jm_i v7), h7))) : jm_R 140 [jm_r 8 0, jm_i a0, jm_i a1] h r := by
  refine jm_R_of hz_140 (Nat.le_of_ble_eq_true rfl) ?_
  show jm_E cod_140 (0, [some (jm_r 8 0), some (jm_i a0), some (jm_i a1), none], [], h) r
  refine jm_E_n 1 (x' := (1, [some (jm_r 8 0), some (jm_i a0), some (jm_i a1), none], [jm_r 8 0], h)) rfl ?_
  obtain ⟨h1, hR, H⟩ := H
  refine jm_E_call rfl (Nat.le_of_ble_eq_true rfl) (Nat.le_of_ble_eq_true rfl) rfl hR trivial ?_
  refine jm_E_eq (x := (2, [some (jm_r 8 0), some (jm_i a0), some (jm_i a1), none], [], h1)) rfl ?_
  refine jm_E_n 3 (x' := (5, [some (jm_r 8 0), some (jm_i a0), some (jm_i a1), none], [jm_i a1, jm_i a0, jm_r 8 0], h1)) rfl ?_
  obtain ⟨v2, h2, hR, H⟩ := H
  refine jm_E_call rfl (Nat.le_of_ble_eq_true rfl) (Nat.le_of_ble_eq_true rfl) rfl hR trivial ?_
  refine jm_E_eq (x := (6, [some (jm_r 8 0), some (jm_i a0), some (jm_i a1), none], [jm_i v2], h2)) rfl ?_
  refine jm_E_n 3 (x' := (if v2 = 0 then 13 else 9, [some (jm_r 8 0), some (jm_i a0), some (jm_i a1), some (jm_i v2)], [], h2)) rfl ?_
  refine jm_E_ite (fun hc => ?_) (fun hc => ?_)
  · replace H := H.1 hc
    refine jm_E_n 3 (x' := (16, [some (jm_r 8 0), some (jm_i a0), some (jm_i a1), some (jm_i v2)], [jm_i a1, jm_i a0, jm_r 8 0], h2)) rfl ?_
    obtain ⟨v3, h3, hR, H⟩ := H
    refine jm_E_call rfl (Nat.le_of_ble_eq_true rfl) (Nat.le_of_ble_eq_true rfl) rfl hR trivial ?_
    refine jm_E_eq (x := (17, [some (jm_r 8 0), some (jm_i a0), some (jm_i a1), some (jm_i v2)], [jm_i v3], h3)) rfl ?_
    refine jm_E_n 1 (x' := (if v3 = 0 then 18 else 22, [some (jm_r 8 0), some (jm_i a0), some (jm_i a1), some (jm_i v2)], [], h3)) rfl ?_
    refine jm_E_ite (fun hc => ?_) (fun hc => ?_)
    · replace H := H.1 hc
      refine jm_E_n 2 (x' := (20, [some (jm_r 8 0), some (jm_i a0), some (jm_i a1), some (jm_i v2)], [jm_i 5, jm_r 8 0], h3)) rfl ?_
      obtain ⟨v4, h4, hR, H⟩ := H
      refine jm_E_call rfl (Nat.le_of_ble_eq_true rfl) (Nat.le_of_ble_eq_true rfl) rfl hR trivial ?_
      refine jm_E_eq (x := (21, [some (jm_r 8 0), some (jm_i a0), some (jm_i a1), some (jm_i v2)], [jm_i v4], h4)) rfl ?_
      exact jm_E_ret rfl (by rw [H]; rfl)
    · replace H := H.2 hc
      refine jm_E_n 3 (x' := (25, [some (jm_r 8 0), some (jm_i a0), some (jm_i a1), some (jm_i v2)], [jm_i a1, jm_i a0, jm_r 8 0], h3)) rfl ?_
      obtain ⟨h5, hR, H⟩ := H
      refine jm_E_call rfl (Nat.le_of_ble_eq_true rfl) (Nat.le_of_ble_eq_true rfl) rfl hR trivial ?_
      refine jm_E_eq (x := (26, [some (jm_r 8 0), some (jm_i a0), some (jm_i a1), some (jm_i v2)], [], h5)) rfl ?_
      refine jm_E_n 1 (x' := (27, [some (jm_r 8 0), some (jm_i a0), some (jm_i a1), some (jm_i v2)], [jm_r 8 0], h5)) rfl ?_
      obtain ⟨v6, h6, hR, H⟩ := H
      refine jm_E_call rfl (Nat.le_of_ble_eq_true rfl) (Nat.le_of_ble_eq_true rfl) rfl hR trivial ?_
      refine jm_E_eq (x := (28, [some (jm_r 8 0), some (jm_i a0), some (jm_i a1), some (jm_i v2)], [jm_i v6], h6)) rfl ?_
      exact jm_E_ret rfl (by rw [H]; rfl)
  · replace H := H.2 hc
    refine jm_E_n 2 (x' := (11, [some (jm_r 8 0), some (jm_i a0), some (jm_i a1), some (jm_i v2)], [jm_i v2, jm_r 8 0], h2)) rfl ?_
    obtain ⟨v7, h7, hR, H⟩ := H
    refine jm_E_call rfl (Nat.le_of_ble_eq_true rfl) (Nat.le_of_ble_eq_true rfl) rfl hR trivial ?_
    refine jm_E_eq (x := (12, [some (jm_r 8 0), some (jm_i a0), some (jm_i a1), some (jm_i v2)], [jm_i v7], h7)) rfl ?_
    exact jm_E_ret rfl (by rw [H]; rfl)
set_option maxRecDepth 100000 in
theorem wp_M_fewestBy_16 {x1 : Int32} {x2 : Int32} {x3 : Int32} {x4 : Int32} {h : jm_H} {r : jm_Rs} (H :
  (x4 < 4 →
    r = (some (jm_i x2), h)) ∧
  (¬ (x4 < 4) →
    ∃ (v4 : Int32) (h4 : jm_H), m_M_isGood x1 x4 h v4 h4 ∧
    (v4 = 0 →
      l_M_fewestBy_16 x1 x2 x3 (x4 + (-1)) h4 r) ∧
    (¬ (v4 = 0) →
      ∃ h5 : jm_H, m_M_lays x1 x4 h4 h5 ∧
      ∃ (v6 : Int32) (h6 : jm_H), m_M_piecesThere h5 v6 h6 ∧
      (x2 = (-2) →
        l_M_fewestBy_16 x1 x4 v6 (x4 + (-1)) h6 r) ∧
      (¬ (x2 = (-2)) →
        (x3 ≤ v6 →
          l_M_fewestBy_16 x1 x2 x3 (x4 + (-1)) h6 r) ∧
        (¬ (x3 ≤ v6) →
          l_M_fewestBy_16 x1 x4 v6 (x4 + (-1)) h6 r))))) : l_M_fewestBy_16 x1 x2 x3 x4 h r := by
  refine jm_E_n 3 (x' := (if x4 < 4 then 43 else 19, [some (jm_r 8 0), some (jm_i x1), some (jm_i x2), some (jm_i x3), some (jm_i x4), none], [], h)) rfl ?_
  refine jm_E_ite (fun hc => ?_) (fun hc => ?_)
  · replace H := H.1 hc
    refine jm_E_n 1 (x' := (44, [some (jm_r 8 0), some (jm_i x1), some (jm_i x2), some (jm_i x3), some (jm_i x4), none], [jm_i x2], h)) rfl ?_
    exact jm_E_ret rfl (by rw [H]; rfl)
  · replace H := H.2 hc
    refine jm_E_n 3 (x' := (22, [some (jm_r 8 0), some (jm_i x1), some (jm_i x2), some (jm_i x3), some (jm_i x4), none], [jm_i x4, jm_i x1, jm_r 8 0], h)) rfl ?_
    obtain ⟨v4, h4, hR, H⟩ := H
    refine jm_E_call rfl (Nat.le_of_ble_eq_true rfl) (Nat.le_of_ble_eq_true rfl) rfl hR trivial ?_
    refine jm_E_eq (x := (23, [some (jm_r 8 0), some (jm_i x1), some (jm_i x2), some (jm_i x3), some (jm_i x4), none], [jm_i v4], h4)) rfl ?_
    refine jm_E_n 1 (x' := (if v4 = 0 then 41 else 24, [some (jm_r 8 0), some (jm_i x1), some (jm_i x2), some (jm_i x3), some (jm_i x4), none], [], h4)) rfl ?_
    refine jm_E_ite (fun hc => ?_) (fun hc => ?_)
    · replace H := H.1 hc
      refine jm_E_n 2 (x' := (16, [some (jm_r 8 0), some (jm_i x1), some (jm_i x2), some (jm_i x3), some (jm_i (x4 + (-1))), none], [], h4)) rfl ?_
      exact H
    · replace H := H.2 hc
      refine jm_E_n 3 (x' := (27, [some (jm_r 8 0), some (jm_i x1), some (jm_i x2), some (jm_i x3), some (jm_i x4), none], [jm_i x4, jm_i x1, jm_r 8 0], h4)) rfl ?_
      obtain ⟨h5, hR, H⟩ := H
      refine jm_E_call rfl (Nat.le_of_ble_eq_true rfl) (Nat.le_of_ble_eq_true rfl) rfl hR trivial ?_
      refine jm_E_eq (x := (28, [some (jm_r 8 0), some (jm_i x1), some (jm_i x2), some (jm_i x3), some (jm_i x4), none], [], h5)) rfl ?_
      refine jm_E_n 1 (x' := (29, [some (jm_r 8 0), some (jm_i x1), some (jm_i x2), some (jm_i x3), some (jm_i x4), none], [jm_r 8 0], h5)) rfl ?_
      obtain ⟨v6, h6, hR, H⟩ := H
      refine jm_E_call rfl (Nat.le_of_ble_eq_true rfl) (Nat.le_of_ble_eq_true rfl) rfl hR trivial ?_
      refine jm_E_eq (x := (30, [some (jm_r 8 0), some (jm_i x1), some (jm_i x2), some (jm_i x3), some (jm_i x4), none], [jm_i v6], h6)) rfl ?_
      refine jm_E_n 4 (x' := (if x2 = (-2) then 37 else 34, [some (jm_r 8 0), some (jm_i x1), some (jm_i x2), some (jm_i x3), some (jm_i x4), some (jm_i v6)], [], h6)) rfl ?_
      refine jm_E_ite (fun hc => ?_) (fun hc => ?_)
      · replace H := H.1 hc
        refine jm_E_n 6 (x' := (16, [some (jm_r 8 0), some (jm_i x1), some (jm_i x4), some (jm_i v6), some (jm_i (x4 + (-1))), some (jm_i v6)], [], h6)) rfl ?_
        exact jm_E_weak (jm_le_s (jm_le_s (jm_le_s (jm_le_s (jm_le_s (jm_le_n jm_le_nil)))))) H
      · replace H := H.2 hc
        refine jm_E_n 3 (x' := (if x3 ≤ v6 then 41 else 37, [some (jm_r 8 0), some (jm_i x1), some (jm_i x2), some (jm_i x3), some (jm_i x4), some (jm_i v6)], [], h6)) rfl ?_
        refine jm_E_ite (fun hc => ?_) (fun hc => ?_)
        · replace H := H.1 hc
          refine jm_E_n 2 (x' := (16, [some (jm_r 8 0), some (jm_i x1), some (jm_i x2), some (jm_i x3), some (jm_i (x4 + (-1))), some (jm_i v6)], [], h6)) rfl ?_
          exact jm_E_weak (jm_le_s (jm_le_s (jm_le_s (jm_le_s (jm_le_s (jm_le_n jm_le_nil)))))) H
        · replace H := H.2 hc
          refine jm_E_n 6 (x' := (16, [some (jm_r 8 0), some (jm_i x1), some (jm_i x4), some (jm_i v6), some (jm_i (x4 + (-1))), some (jm_i v6)], [], h6)) rfl ?_
          exact jm_E_weak (jm_le_s (jm_le_s (jm_le_s (jm_le_s (jm_le_s (jm_le_n jm_le_nil)))))) H
set_option maxRecDepth 100000 in
theorem wp_M_fewestBy {a0 : Int32} {h : jm_H} {r : jm_Rs} (H :
  ∃ h1 : jm_H, m_M_anew h h1 ∧
  ∃ (v2 : Int32) (h2 : jm_H), m_M_isMode a0 h1 v2 h2 ∧
  (v2 = 0 →
    ∃ (v3 : Int32) (h3 : jm_H), m_M_no 1 h2 v3 h3 ∧
    r = (some (jm_i v3), h3)) ∧
  (¬ (v2 = 0) →
    l_M_fewestBy_16 a0 (-2) 0 96 h2 r)) : jm_R 141 [jm_r 8 0, jm_i a0] h r := by
  refine jm_R_of hz_141 (Nat.le_of_ble_eq_true rfl) ?_
  show jm_E cod_141 (0, [some (jm_r 8 0), some (jm_i a0), none, none, none, none], [], h) r
  refine jm_E_n 1 (x' := (1, [some (jm_r 8 0), some (jm_i a0), none, none, none, none], [jm_r 8 0], h)) rfl ?_
  obtain ⟨h1, hR, H⟩ := H
  refine jm_E_call rfl (Nat.le_of_ble_eq_true rfl) (Nat.le_of_ble_eq_true rfl) rfl hR trivial ?_
  refine jm_E_eq (x := (2, [some (jm_r 8 0), some (jm_i a0), none, none, none, none], [], h1)) rfl ?_
  refine jm_E_n 2 (x' := (4, [some (jm_r 8 0), some (jm_i a0), none, none, none, none], [jm_i a0, jm_r 8 0], h1)) rfl ?_
  obtain ⟨v2, h2, hR, H⟩ := H
  refine jm_E_call rfl (Nat.le_of_ble_eq_true rfl) (Nat.le_of_ble_eq_true rfl) rfl hR trivial ?_
  refine jm_E_eq (x := (5, [some (jm_r 8 0), some (jm_i a0), none, none, none, none], [jm_i v2], h2)) rfl ?_
  refine jm_E_n 1 (x' := (if v2 = 0 then 6 else 10, [some (jm_r 8 0), some (jm_i a0), none, none, none, none], [], h2)) rfl ?_
  refine jm_E_ite (fun hc => ?_) (fun hc => ?_)
  · replace H := H.1 hc
    refine jm_E_n 2 (x' := (8, [some (jm_r 8 0), some (jm_i a0), none, none, none, none], [jm_i 1, jm_r 8 0], h2)) rfl ?_
    obtain ⟨v3, h3, hR, H⟩ := H
    refine jm_E_call rfl (Nat.le_of_ble_eq_true rfl) (Nat.le_of_ble_eq_true rfl) rfl hR trivial ?_
    refine jm_E_eq (x := (9, [some (jm_r 8 0), some (jm_i a0), none, none, none, none], [jm_i v3], h3)) rfl ?_
    exact jm_E_ret rfl (by rw [H]; rfl)
  · replace H := H.2 hc
    refine jm_E_n 6 (x' := (16, [some (jm_r 8 0), some (jm_i a0), some (jm_i (-2)), some (jm_i 0), some (jm_i 96), none], [], h2)) rfl ?_
    exact H
set_option maxRecDepth 100000 in
theorem wp_M_headroom_29 {x1 : Int32} {x2 : Int32} {x3 : Int32} {h : jm_H} {r : jm_Rs} (H :
  (x3 < 0 →
    r = (some (jm_i (-2)), h)) ∧
  (¬ (x3 < 0) →
    l_M_headroom_33 x1 x2 x3 0 h r)) : l_M_headroom_29 x1 x2 x3 h r := by
  refine jm_E_n 2 (x' := (if x3 < 0 then 66 else 31, [some (jm_r 8 0), some (jm_i x1), some (jm_i x2), some (jm_i x3), none], [], h)) rfl ?_
  refine jm_E_ite (fun hc => ?_) (fun hc => ?_)
  · replace H := H.1 hc
    refine jm_E_n 1 (x' := (67, [some (jm_r 8 0), some (jm_i x1), some (jm_i x2), some (jm_i x3), none], [jm_i (-2)], h)) rfl ?_
    exact jm_E_ret rfl (by rw [H]; rfl)
  · replace H := H.2 hc
    refine jm_E_n 2 (x' := (33, [some (jm_r 8 0), some (jm_i x1), some (jm_i x2), some (jm_i x3), some (jm_i 0)], [], h)) rfl ?_
    exact H
set_option maxRecDepth 100000 in
theorem wp_M_headroom_33 {x1 : Int32} {x2 : Int32} {x3 : Int32} {x4 : Int32} {h : jm_H} {r : jm_Rs} (H :
  ((h.1 8 0 28) ≤ x4 →
    ∃ (v7 : Int32) (h7 : jm_H), m_M_overAll h v7 h7 ∧
    (0 < v7 →
      l_M_headroom_29 x1 x2 (x3 + (-1)) h7 r) ∧
    (¬ (0 < v7) →
      r = (some (jm_i x3), h7))) ∧
  (¬ ((h.1 8 0 28) ≤ x4) →
    jm_in ((24 * x1) + x4) 72 ∧
    ((h.1 43 0 (((24 * x1) + x4).toNatClampNeg)) = x2 →
      jm_in x4 24 ∧
      l_M_headroom_33 x1 x2 x3 (x4 + 1) (jm_sI h 47 0 x4.toNatClampNeg x3) r) ∧
    (¬ ((h.1 43 0 (((24 * x1) + x4).toNatClampNeg)) = x2) →
      jm_in x4 24 ∧
      jm_in x4 24 ∧
      l_M_headroom_33 x1 x2 x3 (x4 + 1) (jm_sI h 47 0 x4.toNatClampNeg (h.1 47 0 x4.toNatClampNeg)) r))) : l_M_headroom_33 x1 x2 x3 x4 h r := by
  refine jm_E_n 4 (x' := (if (h.1 8 0 28) ≤ x4 then 59 else 37, [some (jm_r 8 0), some (jm_i x1), some (jm_i x2), some (jm_i x3), some (jm_i x4)], [], h)) rfl ?_
  refine jm_E_ite (fun hc => ?_) (fun hc => ?_)
  · replace H := H.1 hc
    refine jm_E_n 1 (x' := (60, [some (jm_r 8 0), some (jm_i x1), some (jm_i x2), some (jm_i x3), some (jm_i x4)], [jm_r 8 0], h)) rfl ?_
    obtain ⟨v7, h7, hR, H⟩ := H
    refine jm_E_call rfl (Nat.le_of_ble_eq_true rfl) (Nat.le_of_ble_eq_true rfl) rfl hR trivial ?_
    refine jm_E_eq (x := (61, [some (jm_r 8 0), some (jm_i x1), some (jm_i x2), some (jm_i x3), some (jm_i x4)], [jm_i v7], h7)) rfl ?_
    refine jm_E_n 1 (x' := (if 0 < v7 then 64 else 62, [some (jm_r 8 0), some (jm_i x1), some (jm_i x2), some (jm_i x3), some (jm_i x4)], [], h7)) rfl ?_
    refine jm_E_ite (fun hc => ?_) (fun hc => ?_)
    · replace H := H.1 hc
      refine jm_E_n 2 (x' := (29, [some (jm_r 8 0), some (jm_i x1), some (jm_i x2), some (jm_i (x3 + (-1))), some (jm_i x4)], [], h7)) rfl ?_
      exact jm_E_weak (jm_le_s (jm_le_s (jm_le_s (jm_le_s (jm_le_n jm_le_nil))))) H
    · replace H := H.2 hc
      refine jm_E_n 1 (x' := (63, [some (jm_r 8 0), some (jm_i x1), some (jm_i x2), some (jm_i x3), some (jm_i x4)], [jm_i x3], h7)) rfl ?_
      exact jm_E_ret rfl (by rw [H]; rfl)
  · replace H := H.2 hc
    refine jm_E_n 10 (x' := (47, [some (jm_r 8 0), some (jm_i x1), some (jm_i x2), some (jm_i x3), some (jm_i x4)], [jm_i ((24 * x1) + x4), jm_r 43 0, jm_i x4, jm_r 47 0], h)) rfl ?_
    refine jm_E_iald rfl rfl H.1 ?_
    replace H := H.2
    refine jm_E_eq (x := (48, [some (jm_r 8 0), some (jm_i x1), some (jm_i x2), some (jm_i x3), some (jm_i x4)], [jm_i (h.1 43 0 (((24 * x1) + x4).toNatClampNeg)), jm_i x4, jm_r 47 0], h)) rfl ?_
    refine jm_E_n 2 (x' := (if (h.1 43 0 (((24 * x1) + x4).toNatClampNeg)) = x2 then 50 else 52, [some (jm_r 8 0), some (jm_i x1), some (jm_i x2), some (jm_i x3), some (jm_i x4)], [jm_i x4, jm_r 47 0], h)) rfl ?_
    refine jm_E_ite (fun hc => ?_) (fun hc => ?_)
    · replace H := H.1 hc
      refine jm_E_n 2 (x' := (56, [some (jm_r 8 0), some (jm_i x1), some (jm_i x2), some (jm_i x3), some (jm_i x4)], [jm_i x3, jm_i x4, jm_r 47 0], h)) rfl ?_
      refine jm_E_iast rfl rfl H.1 ?_
      replace H := H.2
      refine jm_E_eq (x := (57, [some (jm_r 8 0), some (jm_i x1), some (jm_i x2), some (jm_i x3), some (jm_i x4)], [], (jm_sI h 47 0 x4.toNatClampNeg x3))) rfl ?_
      refine jm_E_n 2 (x' := (33, [some (jm_r 8 0), some (jm_i x1), some (jm_i x2), some (jm_i x3), some (jm_i (x4 + 1))], [], (jm_sI h 47 0 x4.toNatClampNeg x3))) rfl ?_
      exact H
    · replace H := H.2 hc
      refine jm_E_n 3 (x' := (55, [some (jm_r 8 0), some (jm_i x1), some (jm_i x2), some (jm_i x3), some (jm_i x4)], [jm_i x4, jm_r 47 0, jm_i x4, jm_r 47 0], h)) rfl ?_
      refine jm_E_iald rfl rfl H.1 ?_
      replace H := H.2
      refine jm_E_eq (x := (56, [some (jm_r 8 0), some (jm_i x1), some (jm_i x2), some (jm_i x3), some (jm_i x4)], [jm_i (h.1 47 0 x4.toNatClampNeg), jm_i x4, jm_r 47 0], h)) rfl ?_
      refine jm_E_iast rfl rfl H.1 ?_
      replace H := H.2
      refine jm_E_eq (x := (57, [some (jm_r 8 0), some (jm_i x1), some (jm_i x2), some (jm_i x3), some (jm_i x4)], [], (jm_sI h 47 0 x4.toNatClampNeg (h.1 47 0 x4.toNatClampNeg)))) rfl ?_
      refine jm_E_n 2 (x' := (33, [some (jm_r 8 0), some (jm_i x1), some (jm_i x2), some (jm_i x3), some (jm_i (x4 + 1))], [], (jm_sI h 47 0 x4.toNatClampNeg (h.1 47 0 x4.toNatClampNeg)))) rfl ?_
      exact H
set_option maxRecDepth 100000 in
theorem wp_M_headroom {a0 : Int32} {a1 : Int32} {h : jm_H} {r : jm_Rs} (H :
  ∃ h1 : jm_H, m_M_anew h h1 ∧
  ∃ (v2 : Int32) (h2 : jm_H), m_M_isMode a0 h1 v2 h2 ∧
  (v2 = 0 →
    ∃ (v3 : Int32) (h3 : jm_H), m_M_no 1 h2 v3 h3 ∧
    r = (some (jm_i v3), h3)) ∧
  (¬ (v2 = 0) →
    jm_in a0 6 ∧
    ∃ (v4 : Int32) (h4 : jm_H), m_M_in a1 0 ((h2.1 36 0 a0.toNatClampNeg) - 1) h2 v4 h4 ∧
    (v4 = 0 →
      ∃ (v5 : Int32) (h5 : jm_H), m_M_no 1 h4 v5 h5 ∧
      r = (some (jm_i v5), h5)) ∧
    (¬ (v4 = 0) →
      jm_in a0 6 ∧
      ∃ h6 : jm_H, m_M_setsUp a0 (h4.1 34 0 a0.toNatClampNeg) h4 h6 ∧
      l_M_headroom_29 a0 a1 60 h6 r))) : jm_R 142 [jm_r 8 0, jm_i a0, jm_i a1] h r := by
  refine jm_R_of hz_142 (Nat.le_of_ble_eq_true rfl) ?_
  show jm_E cod_142 (0, [some (jm_r 8 0), some (jm_i a0), some (jm_i a1), none, none], [], h) r
  refine jm_E_n 1 (x' := (1, [some (jm_r 8 0), some (jm_i a0), some (jm_i a1), none, none], [jm_r 8 0], h)) rfl ?_
  obtain ⟨h1, hR, H⟩ := H
  refine jm_E_call rfl (Nat.le_of_ble_eq_true rfl) (Nat.le_of_ble_eq_true rfl) rfl hR trivial ?_
  refine jm_E_eq (x := (2, [some (jm_r 8 0), some (jm_i a0), some (jm_i a1), none, none], [], h1)) rfl ?_
  refine jm_E_n 2 (x' := (4, [some (jm_r 8 0), some (jm_i a0), some (jm_i a1), none, none], [jm_i a0, jm_r 8 0], h1)) rfl ?_
  obtain ⟨v2, h2, hR, H⟩ := H
  refine jm_E_call rfl (Nat.le_of_ble_eq_true rfl) (Nat.le_of_ble_eq_true rfl) rfl hR trivial ?_
  refine jm_E_eq (x := (5, [some (jm_r 8 0), some (jm_i a0), some (jm_i a1), none, none], [jm_i v2], h2)) rfl ?_
  refine jm_E_n 1 (x' := (if v2 = 0 then 16 else 6, [some (jm_r 8 0), some (jm_i a0), some (jm_i a1), none, none], [], h2)) rfl ?_
  refine jm_E_ite (fun hc => ?_) (fun hc => ?_)
  · replace H := H.1 hc
    refine jm_E_n 2 (x' := (18, [some (jm_r 8 0), some (jm_i a0), some (jm_i a1), none, none], [jm_i 1, jm_r 8 0], h2)) rfl ?_
    obtain ⟨v3, h3, hR, H⟩ := H
    refine jm_E_call rfl (Nat.le_of_ble_eq_true rfl) (Nat.le_of_ble_eq_true rfl) rfl hR trivial ?_
    refine jm_E_eq (x := (19, [some (jm_r 8 0), some (jm_i a0), some (jm_i a1), none, none], [jm_i v3], h3)) rfl ?_
    exact jm_E_ret rfl (by rw [H]; rfl)
  · replace H := H.2 hc
    refine jm_E_n 5 (x' := (11, [some (jm_r 8 0), some (jm_i a0), some (jm_i a1), none, none], [jm_i a0, jm_r 36 0, jm_i 0, jm_i a1], h2)) rfl ?_
    refine jm_E_iald rfl rfl H.1 ?_
    replace H := H.2
    refine jm_E_eq (x := (12, [some (jm_r 8 0), some (jm_i a0), some (jm_i a1), none, none], [jm_i (h2.1 36 0 a0.toNatClampNeg), jm_i 0, jm_i a1], h2)) rfl ?_
    refine jm_E_n 2 (x' := (14, [some (jm_r 8 0), some (jm_i a0), some (jm_i a1), none, none], [jm_i ((h2.1 36 0 a0.toNatClampNeg) - 1), jm_i 0, jm_i a1], h2)) rfl ?_
    obtain ⟨v4, h4, hR, H⟩ := H
    refine jm_E_call rfl (Nat.le_of_ble_eq_true rfl) (Nat.le_of_ble_eq_true rfl) trivial hR trivial ?_
    refine jm_E_eq (x := (15, [some (jm_r 8 0), some (jm_i a0), some (jm_i a1), none, none], [jm_i v4], h4)) rfl ?_
    refine jm_E_n 1 (x' := (if v4 = 0 then 16 else 20, [some (jm_r 8 0), some (jm_i a0), some (jm_i a1), none, none], [], h4)) rfl ?_
    refine jm_E_ite (fun hc => ?_) (fun hc => ?_)
    · replace H := H.1 hc
      refine jm_E_n 2 (x' := (18, [some (jm_r 8 0), some (jm_i a0), some (jm_i a1), none, none], [jm_i 1, jm_r 8 0], h4)) rfl ?_
      obtain ⟨v5, h5, hR, H⟩ := H
      refine jm_E_call rfl (Nat.le_of_ble_eq_true rfl) (Nat.le_of_ble_eq_true rfl) rfl hR trivial ?_
      refine jm_E_eq (x := (19, [some (jm_r 8 0), some (jm_i a0), some (jm_i a1), none, none], [jm_i v5], h5)) rfl ?_
      exact jm_E_ret rfl (by rw [H]; rfl)
    · replace H := H.2 hc
      refine jm_E_n 5 (x' := (25, [some (jm_r 8 0), some (jm_i a0), some (jm_i a1), none, none], [jm_i a0, jm_r 34 0, jm_i a0, jm_r 8 0], h4)) rfl ?_
      refine jm_E_iald rfl rfl H.1 ?_
      replace H := H.2
      refine jm_E_eq (x := (26, [some (jm_r 8 0), some (jm_i a0), some (jm_i a1), none, none], [jm_i (h4.1 34 0 a0.toNatClampNeg), jm_i a0, jm_r 8 0], h4)) rfl ?_
      obtain ⟨h6, hR, H⟩ := H
      refine jm_E_call rfl (Nat.le_of_ble_eq_true rfl) (Nat.le_of_ble_eq_true rfl) rfl hR trivial ?_
      refine jm_E_eq (x := (27, [some (jm_r 8 0), some (jm_i a0), some (jm_i a1), none, none], [], h6)) rfl ?_
      refine jm_E_n 2 (x' := (29, [some (jm_r 8 0), some (jm_i a0), some (jm_i a1), some (jm_i 60), none], [], h6)) rfl ?_
      exact H
set_option maxRecDepth 100000 in
theorem wp_M_reserveUpTo_24 {x1 : Int32} {x2 : Int32} {h : jm_H} {r : jm_Rs} (H :
  (x2 < 0 →
    r = (some (jm_i (-2)), h)) ∧
  (¬ (x2 < 0) →
    jm_in x1 6 ∧
    ∃ (v5 : Int32) (h5 : jm_H), m_M_overAll (jm_sI h 8 0 27 ((h.1 34 0 x1.toNatClampNeg) - x2)) v5 h5 ∧
    (0 < v5 →
      l_M_reserveUpTo_24 x1 (x2 + (-1)) h5 r) ∧
    (¬ (0 < v5) →
      r = (some (jm_i x2), h5)))) : l_M_reserveUpTo_24 x1 x2 h r := by
  refine jm_E_n 2 (x' := (if x2 < 0 then 41 else 26, [some (jm_r 8 0), some (jm_i x1), some (jm_i x2)], [], h)) rfl ?_
  refine jm_E_ite (fun hc => ?_) (fun hc => ?_)
  · replace H := H.1 hc
    refine jm_E_n 1 (x' := (42, [some (jm_r 8 0), some (jm_i x1), some (jm_i x2)], [jm_i (-2)], h)) rfl ?_
    exact jm_E_ret rfl (by rw [H]; rfl)
  · replace H := H.2 hc
    refine jm_E_n 4 (x' := (30, [some (jm_r 8 0), some (jm_i x1), some (jm_i x2)], [jm_i x1, jm_r 34 0, jm_r 8 0], h)) rfl ?_
    refine jm_E_iald rfl rfl H.1 ?_
    replace H := H.2
    refine jm_E_eq (x := (31, [some (jm_r 8 0), some (jm_i x1), some (jm_i x2)], [jm_i (h.1 34 0 x1.toNatClampNeg), jm_r 8 0], h)) rfl ?_
    refine jm_E_n 4 (x' := (35, [some (jm_r 8 0), some (jm_i x1), some (jm_i x2)], [jm_r 8 0], (jm_sI h 8 0 27 ((h.1 34 0 x1.toNatClampNeg) - x2)))) rfl ?_
    obtain ⟨v5, h5, hR, H⟩ := H
    refine jm_E_call rfl (Nat.le_of_ble_eq_true rfl) (Nat.le_of_ble_eq_true rfl) rfl hR trivial ?_
    refine jm_E_eq (x := (36, [some (jm_r 8 0), some (jm_i x1), some (jm_i x2)], [jm_i v5], h5)) rfl ?_
    refine jm_E_n 1 (x' := (if 0 < v5 then 39 else 37, [some (jm_r 8 0), some (jm_i x1), some (jm_i x2)], [], h5)) rfl ?_
    refine jm_E_ite (fun hc => ?_) (fun hc => ?_)
    · replace H := H.1 hc
      refine jm_E_n 2 (x' := (24, [some (jm_r 8 0), some (jm_i x1), some (jm_i (x2 + (-1)))], [], h5)) rfl ?_
      exact H
    · replace H := H.2 hc
      refine jm_E_n 1 (x' := (38, [some (jm_r 8 0), some (jm_i x1), some (jm_i x2)], [jm_i x2], h5)) rfl ?_
      exact jm_E_ret rfl (by rw [H]; rfl)
set_option maxRecDepth 100000 in
theorem wp_M_reserveUpTo {a0 : Int32} {h : jm_H} {r : jm_Rs} (H :
  ∃ h1 : jm_H, m_M_anew h h1 ∧
  ∃ (v2 : Int32) (h2 : jm_H), m_M_isMode a0 h1 v2 h2 ∧
  (v2 = 0 →
    ∃ (v3 : Int32) (h3 : jm_H), m_M_no 1 h2 v3 h3 ∧
    r = (some (jm_i v3), h3)) ∧
  (¬ (v2 = 0) →
    jm_in a0 6 ∧
    ∃ h4 : jm_H, m_M_setsUp a0 (h2.1 34 0 a0.toNatClampNeg) h2 h4 ∧
    jm_in a0 6 ∧
    l_M_reserveUpTo_24 a0 ((h4.1 34 0 a0.toNatClampNeg) - 1) h4 r)) : jm_R 143 [jm_r 8 0, jm_i a0] h r := by
  refine jm_R_of hz_143 (Nat.le_of_ble_eq_true rfl) ?_
  show jm_E cod_143 (0, [some (jm_r 8 0), some (jm_i a0), none], [], h) r
  refine jm_E_n 1 (x' := (1, [some (jm_r 8 0), some (jm_i a0), none], [jm_r 8 0], h)) rfl ?_
  obtain ⟨h1, hR, H⟩ := H
  refine jm_E_call rfl (Nat.le_of_ble_eq_true rfl) (Nat.le_of_ble_eq_true rfl) rfl hR trivial ?_
  refine jm_E_eq (x := (2, [some (jm_r 8 0), some (jm_i a0), none], [], h1)) rfl ?_
  refine jm_E_n 2 (x' := (4, [some (jm_r 8 0), some (jm_i a0), none], [jm_i a0, jm_r 8 0], h1)) rfl ?_
  obtain ⟨v2, h2, hR, H⟩ := H
  refine jm_E_call rfl (Nat.le_of_ble_eq_true rfl) (Nat.le_of_ble_eq_true rfl) rfl hR trivial ?_
  refine jm_E_eq (x := (5, [some (jm_r 8 0), some (jm_i a0), none], [jm_i v2], h2)) rfl ?_
  refine jm_E_n 1 (x' := (if v2 = 0 then 6 else 10, [some (jm_r 8 0), some (jm_i a0), none], [], h2)) rfl ?_
  refine jm_E_ite (fun hc => ?_) (fun hc => ?_)
  · replace H := H.1 hc
    refine jm_E_n 2 (x' := (8, [some (jm_r 8 0), some (jm_i a0), none], [jm_i 1, jm_r 8 0], h2)) rfl ?_
    obtain ⟨v3, h3, hR, H⟩ := H
    refine jm_E_call rfl (Nat.le_of_ble_eq_true rfl) (Nat.le_of_ble_eq_true rfl) rfl hR trivial ?_
    refine jm_E_eq (x := (9, [some (jm_r 8 0), some (jm_i a0), none], [jm_i v3], h3)) rfl ?_
    exact jm_E_ret rfl (by rw [H]; rfl)
  · replace H := H.2 hc
    refine jm_E_n 5 (x' := (15, [some (jm_r 8 0), some (jm_i a0), none], [jm_i a0, jm_r 34 0, jm_i a0, jm_r 8 0], h2)) rfl ?_
    refine jm_E_iald rfl rfl H.1 ?_
    replace H := H.2
    refine jm_E_eq (x := (16, [some (jm_r 8 0), some (jm_i a0), none], [jm_i (h2.1 34 0 a0.toNatClampNeg), jm_i a0, jm_r 8 0], h2)) rfl ?_
    obtain ⟨h4, hR, H⟩ := H
    refine jm_E_call rfl (Nat.le_of_ble_eq_true rfl) (Nat.le_of_ble_eq_true rfl) rfl hR trivial ?_
    refine jm_E_eq (x := (17, [some (jm_r 8 0), some (jm_i a0), none], [], h4)) rfl ?_
    refine jm_E_n 3 (x' := (20, [some (jm_r 8 0), some (jm_i a0), none], [jm_i a0, jm_r 34 0], h4)) rfl ?_
    refine jm_E_iald rfl rfl H.1 ?_
    replace H := H.2
    refine jm_E_eq (x := (21, [some (jm_r 8 0), some (jm_i a0), none], [jm_i (h4.1 34 0 a0.toNatClampNeg)], h4)) rfl ?_
    refine jm_E_n 3 (x' := (24, [some (jm_r 8 0), some (jm_i a0), some (jm_i ((h4.1 34 0 a0.toNatClampNeg) - 1))], [], h4)) rfl ?_
    exact H
set_option maxRecDepth 100000 in
theorem wp_M_isLaid_41 {x1 : Int32} {x2 : Int32} {h : jm_H} {r : jm_Rs} (H :
  (576 ≤ x2 →
    l_M_isLaid_60 x1 0 h r) ∧
  (¬ (576 ≤ x2) →
    jm_in x2 576 ∧
    jm_in ((576 * x1) + x2) 1728 ∧
    l_M_isLaid_41 x1 (x2 + 1) (jm_sI h 53 0 (((576 * x1) + x2).toNatClampNeg) (h.1 49 0 x2.toNatClampNeg)) r)) : l_M_isLaid_41 x1 x2 h r := by
  refine jm_E_n 3 (x' := (if 576 ≤ x2 then 58 else 44, [some (jm_r 8 0), some (jm_i x1), some (jm_i x2), none], [], h)) rfl ?_
  refine jm_E_ite (fun hc => ?_) (fun hc => ?_)
  · replace H := H.1 hc
    refine jm_E_n 2 (x' := (60, [some (jm_r 8 0), some (jm_i x1), some (jm_i 0), none], [], h)) rfl ?_
    exact H
  · replace H := H.2 hc
    refine jm_E_n 10 (x' := (54, [some (jm_r 8 0), some (jm_i x1), some (jm_i x2), none], [jm_i x2, jm_r 49 0, jm_i ((576 * x1) + x2), jm_r 53 0], h)) rfl ?_
    refine jm_E_iald rfl rfl H.1 ?_
    replace H := H.2
    refine jm_E_eq (x := (55, [some (jm_r 8 0), some (jm_i x1), some (jm_i x2), none], [jm_i (h.1 49 0 x2.toNatClampNeg), jm_i ((576 * x1) + x2), jm_r 53 0], h)) rfl ?_
    refine jm_E_iast rfl rfl H.1 ?_
    replace H := H.2
    refine jm_E_eq (x := (56, [some (jm_r 8 0), some (jm_i x1), some (jm_i x2), none], [], (jm_sI h 53 0 (((576 * x1) + x2).toNatClampNeg) (h.1 49 0 x2.toNatClampNeg)))) rfl ?_
    refine jm_E_n 2 (x' := (41, [some (jm_r 8 0), some (jm_i x1), some (jm_i (x2 + 1)), none], [], (jm_sI h 53 0 (((576 * x1) + x2).toNatClampNeg) (h.1 49 0 x2.toNatClampNeg)))) rfl ?_
    exact H
set_option maxRecDepth 100000 in
theorem wp_M_isLaid_60 {x1 : Int32} {x2 : Int32} {h : jm_H} {r : jm_Rs} (H :
  (24 ≤ x2 →
    jm_in x1 3 ∧
    ((h.1 52 0 x1.toNatClampNeg) = 1 →
      r = (some (jm_i 1), h)) ∧
    (¬ ((h.1 52 0 x1.toNatClampNeg) = 1) →
      r = (some (jm_i 0), h))) ∧
  (¬ (24 ≤ x2) →
    jm_in ((24 * x1) + x2) 72 ∧
    l_M_isLaid_75 x1 x2 0 (jm_sI h 55 0 (((24 * x1) + x2).toNatClampNeg) (h.1 8 0 27)) r)) : l_M_isLaid_60 x1 x2 h r := by
  refine jm_E_n 3 (x' := (if 24 ≤ x2 then 101 else 63, [some (jm_r 8 0), some (jm_i x1), some (jm_i x2), none], [], h)) rfl ?_
  refine jm_E_ite (fun hc => ?_) (fun hc => ?_)
  · replace H := H.1 hc
    refine jm_E_n 3 (x' := (104, [some (jm_r 8 0), some (jm_i x1), some (jm_i x2), none], [jm_i x1, jm_r 52 0], h)) rfl ?_
    refine jm_E_iald rfl rfl H.1 ?_
    replace H := H.2
    refine jm_E_eq (x := (105, [some (jm_r 8 0), some (jm_i x1), some (jm_i x2), none], [jm_i (h.1 52 0 x1.toNatClampNeg)], h)) rfl ?_
    refine jm_E_n 2 (x' := (if (h.1 52 0 x1.toNatClampNeg) = 1 then 107 else 109, [some (jm_r 8 0), some (jm_i x1), some (jm_i x2), none], [], h)) rfl ?_
    refine jm_E_ite (fun hc => ?_) (fun hc => ?_)
    · replace H := H.1 hc
      refine jm_E_n 2 (x' := (110, [some (jm_r 8 0), some (jm_i x1), some (jm_i x2), none], [jm_i 1], h)) rfl ?_
      exact jm_E_ret rfl (by rw [H]; rfl)
    · replace H := H.2 hc
      refine jm_E_n 1 (x' := (110, [some (jm_r 8 0), some (jm_i x1), some (jm_i x2), none], [jm_i 0], h)) rfl ?_
      exact jm_E_ret rfl (by rw [H]; rfl)
  · replace H := H.2 hc
    refine jm_E_n 9 (x' := (72, [some (jm_r 8 0), some (jm_i x1), some (jm_i x2), none], [jm_i (h.1 8 0 27), jm_i ((24 * x1) + x2), jm_r 55 0], h)) rfl ?_
    refine jm_E_iast rfl rfl H.1 ?_
    replace H := H.2
    refine jm_E_eq (x := (73, [some (jm_r 8 0), some (jm_i x1), some (jm_i x2), none], [], (jm_sI h 55 0 (((24 * x1) + x2).toNatClampNeg) (h.1 8 0 27)))) rfl ?_
    refine jm_E_n 2 (x' := (75, [some (jm_r 8 0), some (jm_i x1), some (jm_i x2), some (jm_i 0)], [], (jm_sI h 55 0 (((24 * x1) + x2).toNatClampNeg) (h.1 8 0 27)))) rfl ?_
    exact H
set_option maxRecDepth 100000 in
theorem wp_M_isLaid_75 {x1 : Int32} {x2 : Int32} {x3 : Int32} {h : jm_H} {r : jm_Rs} (H :
  (24 ≤ x3 →
    l_M_isLaid_60 x1 (x2 + 1) h r) ∧
  (¬ (24 ≤ x3) →
    jm_in ((24 * x1) + x2) 72 ∧
    jm_in ((24 * x3) + x2) 576 ∧
    jm_in ((24 * x1) + x2) 72 ∧
    l_M_isLaid_75 x1 x2 (x3 + 1) (jm_sI h 55 0 (((24 * x1) + x2).toNatClampNeg) ((h.1 55 0 (((24 * x1) + x2).toNatClampNeg)) - (h.1 49 0 (((24 * x3) + x2).toNatClampNeg)))) r)) : l_M_isLaid_75 x1 x2 x3 h r := by
  refine jm_E_n 3 (x' := (if 24 ≤ x3 then 99 else 78, [some (jm_r 8 0), some (jm_i x1), some (jm_i x2), some (jm_i x3)], [], h)) rfl ?_
  refine jm_E_ite (fun hc => ?_) (fun hc => ?_)
  · replace H := H.1 hc
    refine jm_E_n 2 (x' := (60, [some (jm_r 8 0), some (jm_i x1), some (jm_i (x2 + 1)), some (jm_i x3)], [], h)) rfl ?_
    exact jm_E_weak (jm_le_s (jm_le_s (jm_le_s (jm_le_n jm_le_nil)))) H
  · replace H := H.2 hc
    refine jm_E_n 8 (x' := (86, [some (jm_r 8 0), some (jm_i x1), some (jm_i x2), some (jm_i x3)], [jm_i ((24 * x1) + x2), jm_r 55 0, jm_i ((24 * x1) + x2), jm_r 55 0], h)) rfl ?_
    refine jm_E_iald rfl rfl H.1 ?_
    replace H := H.2
    refine jm_E_eq (x := (87, [some (jm_r 8 0), some (jm_i x1), some (jm_i x2), some (jm_i x3)], [jm_i (h.1 55 0 (((24 * x1) + x2).toNatClampNeg)), jm_i ((24 * x1) + x2), jm_r 55 0], h)) rfl ?_
    refine jm_E_n 7 (x' := (94, [some (jm_r 8 0), some (jm_i x1), some (jm_i x2), some (jm_i x3)], [jm_i ((24 * x3) + x2), jm_r 49 0, jm_i (h.1 55 0 (((24 * x1) + x2).toNatClampNeg)), jm_i ((24 * x1) + x2), jm_r 55 0], h)) rfl ?_
    refine jm_E_iald rfl rfl H.1 ?_
    replace H := H.2
    refine jm_E_eq (x := (95, [some (jm_r 8 0), some (jm_i x1), some (jm_i x2), some (jm_i x3)], [jm_i (h.1 49 0 (((24 * x3) + x2).toNatClampNeg)), jm_i (h.1 55 0 (((24 * x1) + x2).toNatClampNeg)), jm_i ((24 * x1) + x2), jm_r 55 0], h)) rfl ?_
    refine jm_E_n 1 (x' := (96, [some (jm_r 8 0), some (jm_i x1), some (jm_i x2), some (jm_i x3)], [jm_i ((h.1 55 0 (((24 * x1) + x2).toNatClampNeg)) - (h.1 49 0 (((24 * x3) + x2).toNatClampNeg))), jm_i ((24 * x1) + x2), jm_r 55 0], h)) rfl ?_
    refine jm_E_iast rfl rfl H.1 ?_
    replace H := H.2
    refine jm_E_eq (x := (97, [some (jm_r 8 0), some (jm_i x1), some (jm_i x2), some (jm_i x3)], [], (jm_sI h 55 0 (((24 * x1) + x2).toNatClampNeg) ((h.1 55 0 (((24 * x1) + x2).toNatClampNeg)) - (h.1 49 0 (((24 * x3) + x2).toNatClampNeg)))))) rfl ?_
    refine jm_E_n 2 (x' := (75, [some (jm_r 8 0), some (jm_i x1), some (jm_i x2), some (jm_i (x3 + 1))], [], (jm_sI h 55 0 (((24 * x1) + x2).toNatClampNeg) ((h.1 55 0 (((24 * x1) + x2).toNatClampNeg)) - (h.1 49 0 (((24 * x3) + x2).toNatClampNeg)))))) rfl ?_
    exact H
set_option maxRecDepth 100000 in
theorem wp_M_isLaid {a0 : Int32} {h : jm_H} {r : jm_Rs} (H :
  jm_in a0 3 ∧
  ((h.1 52 0 a0.toNatClampNeg) = 0 →
    jm_in a0 6 ∧
    ∃ (v1 : Int32) (h1 : jm_H), m_M_isGood a0 (h.1 34 0 a0.toNatClampNeg) h v1 h1 ∧
    (v1 = 0 →
      jm_in a0 3 ∧
      jm_in a0 3 ∧
      (((jm_sI h1 52 0 a0.toNatClampNeg 2).1 52 0 a0.toNatClampNeg) = 1 →
        jm_in a0 6 ∧
        ∃ h2 : jm_H, m_M_lays a0 (h1.1 34 0 a0.toNatClampNeg) (jm_sI h1 52 0 a0.toNatClampNeg 2) h2 ∧
        jm_in a0 3 ∧
        l_M_isLaid_41 a0 0 (jm_sI h2 54 0 a0.toNatClampNeg (h2.1 8 0 35)) r) ∧
      (¬ (((jm_sI h1 52 0 a0.toNatClampNeg 2).1 52 0 a0.toNatClampNeg) = 1) →
        jm_in a0 3 ∧
        (((jm_sI h1 52 0 a0.toNatClampNeg 2).1 52 0 a0.toNatClampNeg) = 1 →
          r = (some (jm_i 1), (jm_sI h1 52 0 a0.toNatClampNeg 2))) ∧
        (¬ (((jm_sI h1 52 0 a0.toNatClampNeg 2).1 52 0 a0.toNatClampNeg) = 1) →
          r = (some (jm_i 0), (jm_sI h1 52 0 a0.toNatClampNeg 2))))) ∧
    (¬ (v1 = 0) →
      jm_in a0 3 ∧
      jm_in a0 3 ∧
      (((jm_sI h1 52 0 a0.toNatClampNeg 1).1 52 0 a0.toNatClampNeg) = 1 →
        jm_in a0 6 ∧
        ∃ h3 : jm_H, m_M_lays a0 (h1.1 34 0 a0.toNatClampNeg) (jm_sI h1 52 0 a0.toNatClampNeg 1) h3 ∧
        jm_in a0 3 ∧
        l_M_isLaid_41 a0 0 (jm_sI h3 54 0 a0.toNatClampNeg (h3.1 8 0 35)) r) ∧
      (¬ (((jm_sI h1 52 0 a0.toNatClampNeg 1).1 52 0 a0.toNatClampNeg) = 1) →
        jm_in a0 3 ∧
        (((jm_sI h1 52 0 a0.toNatClampNeg 1).1 52 0 a0.toNatClampNeg) = 1 →
          r = (some (jm_i 1), (jm_sI h1 52 0 a0.toNatClampNeg 1))) ∧
        (¬ (((jm_sI h1 52 0 a0.toNatClampNeg 1).1 52 0 a0.toNatClampNeg) = 1) →
          r = (some (jm_i 0), (jm_sI h1 52 0 a0.toNatClampNeg 1)))))) ∧
  (¬ ((h.1 52 0 a0.toNatClampNeg) = 0) →
    jm_in a0 3 ∧
    ((h.1 52 0 a0.toNatClampNeg) = 1 →
      r = (some (jm_i 1), h)) ∧
    (¬ ((h.1 52 0 a0.toNatClampNeg) = 1) →
      r = (some (jm_i 0), h)))) : jm_R 144 [jm_r 8 0, jm_i a0] h r := by
  refine jm_R_of hz_144 (Nat.le_of_ble_eq_true rfl) ?_
  show jm_E cod_144 (0, [some (jm_r 8 0), some (jm_i a0), none, none], [], h) r
  refine jm_E_n 3 (x' := (3, [some (jm_r 8 0), some (jm_i a0), none, none], [jm_i a0, jm_r 52 0], h)) rfl ?_
  refine jm_E_iald rfl rfl H.1 ?_
  replace H := H.2
  refine jm_E_eq (x := (4, [some (jm_r 8 0), some (jm_i a0), none, none], [jm_i (h.1 52 0 a0.toNatClampNeg)], h)) rfl ?_
  refine jm_E_n 1 (x' := (if (h.1 52 0 a0.toNatClampNeg) = 0 then 5 else 101, [some (jm_r 8 0), some (jm_i a0), none, none], [], h)) rfl ?_
  refine jm_E_ite (fun hc => ?_) (fun hc => ?_)
  · replace H := H.1 hc
    refine jm_E_n 8 (x' := (13, [some (jm_r 8 0), some (jm_i a0), none, none], [jm_i a0, jm_r 34 0, jm_i a0, jm_r 8 0, jm_i a0, jm_r 52 0], h)) rfl ?_
    refine jm_E_iald rfl rfl H.1 ?_
    replace H := H.2
    refine jm_E_eq (x := (14, [some (jm_r 8 0), some (jm_i a0), none, none], [jm_i (h.1 34 0 a0.toNatClampNeg), jm_i a0, jm_r 8 0, jm_i a0, jm_r 52 0], h)) rfl ?_
    obtain ⟨v1, h1, hR, H⟩ := H
    refine jm_E_call rfl (Nat.le_of_ble_eq_true rfl) (Nat.le_of_ble_eq_true rfl) rfl hR trivial ?_
    refine jm_E_eq (x := (15, [some (jm_r 8 0), some (jm_i a0), none, none], [jm_i v1, jm_i a0, jm_r 52 0], h1)) rfl ?_
    refine jm_E_n 1 (x' := (if v1 = 0 then 18 else 16, [some (jm_r 8 0), some (jm_i a0), none, none], [jm_i a0, jm_r 52 0], h1)) rfl ?_
    refine jm_E_ite (fun hc => ?_) (fun hc => ?_)
    · replace H := H.1 hc
      refine jm_E_n 1 (x' := (19, [some (jm_r 8 0), some (jm_i a0), none, none], [jm_i 2, jm_i a0, jm_r 52 0], h1)) rfl ?_
      refine jm_E_iast rfl rfl H.1 ?_
      replace H := H.2
      refine jm_E_eq (x := (20, [some (jm_r 8 0), some (jm_i a0), none, none], [], (jm_sI h1 52 0 a0.toNatClampNeg 2))) rfl ?_
      refine jm_E_n 3 (x' := (23, [some (jm_r 8 0), some (jm_i a0), none, none], [jm_i a0, jm_r 52 0], (jm_sI h1 52 0 a0.toNatClampNeg 2))) rfl ?_
      refine jm_E_iald rfl rfl H.1 ?_
      replace H := H.2
      refine jm_E_eq (x := (24, [some (jm_r 8 0), some (jm_i a0), none, none], [jm_i ((jm_sI h1 52 0 a0.toNatClampNeg 2).1 52 0 a0.toNatClampNeg)], (jm_sI h1 52 0 a0.toNatClampNeg 2))) rfl ?_
      refine jm_E_n 2 (x' := (if ((jm_sI h1 52 0 a0.toNatClampNeg 2).1 52 0 a0.toNatClampNeg) = 1 then 26 else 101, [some (jm_r 8 0), some (jm_i a0), none, none], [], (jm_sI h1 52 0 a0.toNatClampNeg 2))) rfl ?_
      refine jm_E_ite (fun hc => ?_) (fun hc => ?_)
      · replace H := H.1 hc
        refine jm_E_n 5 (x' := (31, [some (jm_r 8 0), some (jm_i a0), none, none], [jm_i a0, jm_r 34 0, jm_i a0, jm_r 8 0], (jm_sI h1 52 0 a0.toNatClampNeg 2))) rfl ?_
        refine jm_E_iald rfl rfl H.1 ?_
        replace H := H.2
        refine jm_E_eq (x := (32, [some (jm_r 8 0), some (jm_i a0), none, none], [jm_i (h1.1 34 0 a0.toNatClampNeg), jm_i a0, jm_r 8 0], (jm_sI h1 52 0 a0.toNatClampNeg 2))) rfl ?_
        obtain ⟨h2, hR, H⟩ := H
        refine jm_E_call rfl (Nat.le_of_ble_eq_true rfl) (Nat.le_of_ble_eq_true rfl) rfl hR trivial ?_
        refine jm_E_eq (x := (33, [some (jm_r 8 0), some (jm_i a0), none, none], [], h2)) rfl ?_
        refine jm_E_n 5 (x' := (38, [some (jm_r 8 0), some (jm_i a0), none, none], [jm_i (h2.1 8 0 35), jm_i a0, jm_r 54 0], h2)) rfl ?_
        refine jm_E_iast rfl rfl H.1 ?_
        replace H := H.2
        refine jm_E_eq (x := (39, [some (jm_r 8 0), some (jm_i a0), none, none], [], (jm_sI h2 54 0 a0.toNatClampNeg (h2.1 8 0 35)))) rfl ?_
        refine jm_E_n 2 (x' := (41, [some (jm_r 8 0), some (jm_i a0), some (jm_i 0), none], [], (jm_sI h2 54 0 a0.toNatClampNeg (h2.1 8 0 35)))) rfl ?_
        exact H
      · replace H := H.2 hc
        refine jm_E_n 3 (x' := (104, [some (jm_r 8 0), some (jm_i a0), none, none], [jm_i a0, jm_r 52 0], (jm_sI h1 52 0 a0.toNatClampNeg 2))) rfl ?_
        refine jm_E_iald rfl rfl H.1 ?_
        replace H := H.2
        refine jm_E_eq (x := (105, [some (jm_r 8 0), some (jm_i a0), none, none], [jm_i ((jm_sI h1 52 0 a0.toNatClampNeg 2).1 52 0 a0.toNatClampNeg)], (jm_sI h1 52 0 a0.toNatClampNeg 2))) rfl ?_
        refine jm_E_n 2 (x' := (if ((jm_sI h1 52 0 a0.toNatClampNeg 2).1 52 0 a0.toNatClampNeg) = 1 then 107 else 109, [some (jm_r 8 0), some (jm_i a0), none, none], [], (jm_sI h1 52 0 a0.toNatClampNeg 2))) rfl ?_
        refine jm_E_ite (fun hc => ?_) (fun hc => ?_)
        · replace H := H.1 hc
          refine jm_E_n 2 (x' := (110, [some (jm_r 8 0), some (jm_i a0), none, none], [jm_i 1], (jm_sI h1 52 0 a0.toNatClampNeg 2))) rfl ?_
          exact jm_E_ret rfl (by rw [H]; rfl)
        · replace H := H.2 hc
          refine jm_E_n 1 (x' := (110, [some (jm_r 8 0), some (jm_i a0), none, none], [jm_i 0], (jm_sI h1 52 0 a0.toNatClampNeg 2))) rfl ?_
          exact jm_E_ret rfl (by rw [H]; rfl)
    · replace H := H.2 hc
      refine jm_E_n 2 (x' := (19, [some (jm_r 8 0), some (jm_i a0), none, none], [jm_i 1, jm_i a0, jm_r 52 0], h1)) rfl ?_
      refine jm_E_iast rfl rfl H.1 ?_
      replace H := H.2
      refine jm_E_eq (x := (20, [some (jm_r 8 0), some (jm_i a0), none, none], [], (jm_sI h1 52 0 a0.toNatClampNeg 1))) rfl ?_
      refine jm_E_n 3 (x' := (23, [some (jm_r 8 0), some (jm_i a0), none, none], [jm_i a0, jm_r 52 0], (jm_sI h1 52 0 a0.toNatClampNeg 1))) rfl ?_
      refine jm_E_iald rfl rfl H.1 ?_
      replace H := H.2
      refine jm_E_eq (x := (24, [some (jm_r 8 0), some (jm_i a0), none, none], [jm_i ((jm_sI h1 52 0 a0.toNatClampNeg 1).1 52 0 a0.toNatClampNeg)], (jm_sI h1 52 0 a0.toNatClampNeg 1))) rfl ?_
      refine jm_E_n 2 (x' := (if ((jm_sI h1 52 0 a0.toNatClampNeg 1).1 52 0 a0.toNatClampNeg) = 1 then 26 else 101, [some (jm_r 8 0), some (jm_i a0), none, none], [], (jm_sI h1 52 0 a0.toNatClampNeg 1))) rfl ?_
      refine jm_E_ite (fun hc => ?_) (fun hc => ?_)
      · replace H := H.1 hc
        refine jm_E_n 5 (x' := (31, [some (jm_r 8 0), some (jm_i a0), none, none], [jm_i a0, jm_r 34 0, jm_i a0, jm_r 8 0], (jm_sI h1 52 0 a0.toNatClampNeg 1))) rfl ?_
        refine jm_E_iald rfl rfl H.1 ?_
        replace H := H.2
        refine jm_E_eq (x := (32, [some (jm_r 8 0), some (jm_i a0), none, none], [jm_i (h1.1 34 0 a0.toNatClampNeg), jm_i a0, jm_r 8 0], (jm_sI h1 52 0 a0.toNatClampNeg 1))) rfl ?_
        obtain ⟨h3, hR, H⟩ := H
        refine jm_E_call rfl (Nat.le_of_ble_eq_true rfl) (Nat.le_of_ble_eq_true rfl) rfl hR trivial ?_
        refine jm_E_eq (x := (33, [some (jm_r 8 0), some (jm_i a0), none, none], [], h3)) rfl ?_
        refine jm_E_n 5 (x' := (38, [some (jm_r 8 0), some (jm_i a0), none, none], [jm_i (h3.1 8 0 35), jm_i a0, jm_r 54 0], h3)) rfl ?_
        refine jm_E_iast rfl rfl H.1 ?_
        replace H := H.2
        refine jm_E_eq (x := (39, [some (jm_r 8 0), some (jm_i a0), none, none], [], (jm_sI h3 54 0 a0.toNatClampNeg (h3.1 8 0 35)))) rfl ?_
        refine jm_E_n 2 (x' := (41, [some (jm_r 8 0), some (jm_i a0), some (jm_i 0), none], [], (jm_sI h3 54 0 a0.toNatClampNeg (h3.1 8 0 35)))) rfl ?_
        exact H
      · replace H := H.2 hc
        refine jm_E_n 3 (x' := (104, [some (jm_r 8 0), some (jm_i a0), none, none], [jm_i a0, jm_r 52 0], (jm_sI h1 52 0 a0.toNatClampNeg 1))) rfl ?_
        refine jm_E_iald rfl rfl H.1 ?_
        replace H := H.2
        refine jm_E_eq (x := (105, [some (jm_r 8 0), some (jm_i a0), none, none], [jm_i ((jm_sI h1 52 0 a0.toNatClampNeg 1).1 52 0 a0.toNatClampNeg)], (jm_sI h1 52 0 a0.toNatClampNeg 1))) rfl ?_
        refine jm_E_n 2 (x' := (if ((jm_sI h1 52 0 a0.toNatClampNeg 1).1 52 0 a0.toNatClampNeg) = 1 then 107 else 109, [some (jm_r 8 0), some (jm_i a0), none, none], [], (jm_sI h1 52 0 a0.toNatClampNeg 1))) rfl ?_
        refine jm_E_ite (fun hc => ?_) (fun hc => ?_)
        · replace H := H.1 hc
          refine jm_E_n 2 (x' := (110, [some (jm_r 8 0), some (jm_i a0), none, none], [jm_i 1], (jm_sI h1 52 0 a0.toNatClampNeg 1))) rfl ?_
          exact jm_E_ret rfl (by rw [H]; rfl)
        · replace H := H.2 hc
          refine jm_E_n 1 (x' := (110, [some (jm_r 8 0), some (jm_i a0), none, none], [jm_i 0], (jm_sI h1 52 0 a0.toNatClampNeg 1))) rfl ?_
          exact jm_E_ret rfl (by rw [H]; rfl)
  · replace H := H.2 hc
    refine jm_E_n 3 (x' := (104, [some (jm_r 8 0), some (jm_i a0), none, none], [jm_i a0, jm_r 52 0], h)) rfl ?_
    refine jm_E_iald rfl rfl H.1 ?_
    replace H := H.2
    refine jm_E_eq (x := (105, [some (jm_r 8 0), some (jm_i a0), none, none], [jm_i (h.1 52 0 a0.toNatClampNeg)], h)) rfl ?_
    refine jm_E_n 2 (x' := (if (h.1 52 0 a0.toNatClampNeg) = 1 then 107 else 109, [some (jm_r 8 0), some (jm_i a0), none, none], [], h)) rfl ?_
    refine jm_E_ite (fun hc => ?_) (fun hc => ?_)
    · replace H := H.1 hc
      refine jm_E_n 2 (x' := (110, [some (jm_r 8 0), some (jm_i a0), none, none], [jm_i 1], h)) rfl ?_
      exact jm_E_ret rfl (by rw [H]; rfl)
    · replace H := H.2 hc
      refine jm_E_n 1 (x' := (110, [some (jm_r 8 0), some (jm_i a0), none, none], [jm_i 0], h)) rfl ?_
      exact jm_E_ret rfl (by rw [H]; rfl)
set_option maxRecDepth 100000 in
theorem wp_M_framesOf {a0 : Int32} {h : jm_H} {r : jm_Rs} (H :
  jm_in a0 6 ∧
  jm_in a0 6 ∧
  ¬ (h.1 34 0 a0.toNatClampNeg) = 0 ∧
  r = (some (jm_i ((h.1 37 0 a0.toNatClampNeg) / (h.1 34 0 a0.toNatClampNeg))), h)) : jm_R 145 [jm_r 8 0, jm_i a0] h r := by
  refine jm_R_of hz_145 (Nat.le_of_ble_eq_true rfl) ?_
  show jm_E cod_145 (0, [some (jm_r 8 0), some (jm_i a0)], [], h) r
  refine jm_E_n 3 (x' := (3, [some (jm_r 8 0), some (jm_i a0)], [jm_i a0, jm_r 37 0], h)) rfl ?_
  refine jm_E_iald rfl rfl H.1 ?_
  replace H := H.2
  refine jm_E_eq (x := (4, [some (jm_r 8 0), some (jm_i a0)], [jm_i (h.1 37 0 a0.toNatClampNeg)], h)) rfl ?_
  refine jm_E_n 3 (x' := (7, [some (jm_r 8 0), some (jm_i a0)], [jm_i a0, jm_r 34 0, jm_i (h.1 37 0 a0.toNatClampNeg)], h)) rfl ?_
  refine jm_E_iald rfl rfl H.1 ?_
  replace H := H.2
  refine jm_E_eq (x := (8, [some (jm_r 8 0), some (jm_i a0)], [jm_i (h.1 34 0 a0.toNatClampNeg), jm_i (h.1 37 0 a0.toNatClampNeg)], h)) rfl ?_
  refine jm_E_idiv rfl H.1 ?_
  replace H := H.2
  refine jm_E_eq (x := (9, [some (jm_r 8 0), some (jm_i a0)], [jm_i ((h.1 37 0 a0.toNatClampNeg) / (h.1 34 0 a0.toNatClampNeg))], h)) rfl ?_
  exact jm_E_ret rfl (by rw [H]; rfl)
set_option maxRecDepth 100000 in
theorem wp_M_has {a0 : Int32} {a1 : Int32} {a2 : Int32} {h : jm_H} {r : jm_Rs} (H :
  jm_in (((576 * a0) + (24 * a1)) + a2) 1728 ∧
  r = (some (jm_i (h.1 53 0 ((((576 * a0) + (24 * a1)) + a2).toNatClampNeg))), h)) : jm_R 146 [jm_r 8 0, jm_i a0, jm_i a1, jm_i a2] h r := by
  refine jm_R_of hz_146 (Nat.le_of_ble_eq_true rfl) ?_
  show jm_E cod_146 (0, [some (jm_r 8 0), some (jm_i a0), some (jm_i a1), some (jm_i a2)], [], h) r
  refine jm_E_n 11 (x' := (11, [some (jm_r 8 0), some (jm_i a0), some (jm_i a1), some (jm_i a2)], [jm_i (((576 * a0) + (24 * a1)) + a2), jm_r 53 0], h)) rfl ?_
  refine jm_E_iald rfl rfl H.1 ?_
  replace H := H.2
  refine jm_E_eq (x := (12, [some (jm_r 8 0), some (jm_i a0), some (jm_i a1), some (jm_i a2)], [jm_i (h.1 53 0 ((((576 * a0) + (24 * a1)) + a2).toNatClampNeg))], h)) rfl ?_
  exact jm_E_ret rfl (by rw [H]; rfl)
set_option maxRecDepth 100000 in
theorem wp_M_tableWhy {a0 : Int32} {a1 : Int32} {h : jm_H} {r : jm_Rs} (H :
  (a1 = 0 →
    r = (some (jm_i 1), h)) ∧
  (¬ (a1 = 0) →
    ∃ (v1 : Int32) (h1 : jm_H), m_M_isLaid a0 h v1 h1 ∧
    (v1 = 0 →
      r = (some (jm_i 5), h1)) ∧
    (¬ (v1 = 0) →
      r = (some (jm_i 0), h1)))) : jm_R 147 [jm_r 8 0, jm_i a0, jm_i a1] h r := by
  refine jm_R_of hz_147 (Nat.le_of_ble_eq_true rfl) ?_
  show jm_E cod_147 (0, [some (jm_r 8 0), some (jm_i a0), some (jm_i a1)], [], h) r
  refine jm_E_n 2 (x' := (if a1 = 0 then 2 else 4, [some (jm_r 8 0), some (jm_i a0), some (jm_i a1)], [], h)) rfl ?_
  refine jm_E_ite (fun hc => ?_) (fun hc => ?_)
  · replace H := H.1 hc
    refine jm_E_n 2 (x' := (11, [some (jm_r 8 0), some (jm_i a0), some (jm_i a1)], [jm_i 1], h)) rfl ?_
    exact jm_E_ret rfl (by rw [H]; rfl)
  · replace H := H.2 hc
    refine jm_E_n 2 (x' := (6, [some (jm_r 8 0), some (jm_i a0), some (jm_i a1)], [jm_i a0, jm_r 8 0], h)) rfl ?_
    obtain ⟨v1, h1, hR, H⟩ := H
    refine jm_E_call rfl (Nat.le_of_ble_eq_true rfl) (Nat.le_of_ble_eq_true rfl) rfl hR trivial ?_
    refine jm_E_eq (x := (7, [some (jm_r 8 0), some (jm_i a0), some (jm_i a1)], [jm_i v1], h1)) rfl ?_
    refine jm_E_n 1 (x' := (if v1 = 0 then 10 else 8, [some (jm_r 8 0), some (jm_i a0), some (jm_i a1)], [], h1)) rfl ?_
    refine jm_E_ite (fun hc => ?_) (fun hc => ?_)
    · replace H := H.1 hc
      refine jm_E_n 1 (x' := (11, [some (jm_r 8 0), some (jm_i a0), some (jm_i a1)], [jm_i 5], h1)) rfl ?_
      exact jm_E_ret rfl (by rw [H]; rfl)
    · replace H := H.2 hc
      refine jm_E_n 2 (x' := (11, [some (jm_r 8 0), some (jm_i a0), some (jm_i a1)], [jm_i 0], h1)) rfl ?_
      exact jm_E_ret rfl (by rw [H]; rfl)
set_option maxRecDepth 100000 in
theorem wp_M_isJob {a0 : Int32} {a1 : Int32} {h : jm_H} {r : jm_Rs} (H :
  ∃ (v1 : Int32) (h1 : jm_H), m_M_isMode a0 h v1 h1 ∧
  (v1 = 0 →
    r = (some (jm_i 0), h1)) ∧
  (¬ (v1 = 0) →
    jm_in a0 3 ∧
    ∃ (v2 : Int32) (h2 : jm_H), m_M_in a1 0 ((h1.1 42 0 a0.toNatClampNeg) - 1) h1 v2 h2 ∧
    (v2 = 0 →
      r = (some (jm_i 0), h2)) ∧
    (¬ (v2 = 0) →
      r = (some (jm_i 1), h2)))) : jm_R 148 [jm_r 8 0, jm_i a0, jm_i a1] h r := by
  refine jm_R_of hz_148 (Nat.le_of_ble_eq_true rfl) ?_
  show jm_E cod_148 (0, [some (jm_r 8 0), some (jm_i a0), some (jm_i a1)], [], h) r
  refine jm_E_n 2 (x' := (2, [some (jm_r 8 0), some (jm_i a0), some (jm_i a1)], [jm_i a0, jm_r 8 0], h)) rfl ?_
  obtain ⟨v1, h1, hR, H⟩ := H
  refine jm_E_call rfl (Nat.le_of_ble_eq_true rfl) (Nat.le_of_ble_eq_true rfl) rfl hR trivial ?_
  refine jm_E_eq (x := (3, [some (jm_r 8 0), some (jm_i a0), some (jm_i a1)], [jm_i v1], h1)) rfl ?_
  refine jm_E_n 1 (x' := (if v1 = 0 then 16 else 4, [some (jm_r 8 0), some (jm_i a0), some (jm_i a1)], [], h1)) rfl ?_
  refine jm_E_ite (fun hc => ?_) (fun hc => ?_)
  · replace H := H.1 hc
    refine jm_E_n 1 (x' := (17, [some (jm_r 8 0), some (jm_i a0), some (jm_i a1)], [jm_i 0], h1)) rfl ?_
    exact jm_E_ret rfl (by rw [H]; rfl)
  · replace H := H.2 hc
    refine jm_E_n 5 (x' := (9, [some (jm_r 8 0), some (jm_i a0), some (jm_i a1)], [jm_i a0, jm_r 42 0, jm_i 0, jm_i a1], h1)) rfl ?_
    refine jm_E_iald rfl rfl H.1 ?_
    replace H := H.2
    refine jm_E_eq (x := (10, [some (jm_r 8 0), some (jm_i a0), some (jm_i a1)], [jm_i (h1.1 42 0 a0.toNatClampNeg), jm_i 0, jm_i a1], h1)) rfl ?_
    refine jm_E_n 2 (x' := (12, [some (jm_r 8 0), some (jm_i a0), some (jm_i a1)], [jm_i ((h1.1 42 0 a0.toNatClampNeg) - 1), jm_i 0, jm_i a1], h1)) rfl ?_
    obtain ⟨v2, h2, hR, H⟩ := H
    refine jm_E_call rfl (Nat.le_of_ble_eq_true rfl) (Nat.le_of_ble_eq_true rfl) trivial hR trivial ?_
    refine jm_E_eq (x := (13, [some (jm_r 8 0), some (jm_i a0), some (jm_i a1)], [jm_i v2], h2)) rfl ?_
    refine jm_E_n 1 (x' := (if v2 = 0 then 16 else 14, [some (jm_r 8 0), some (jm_i a0), some (jm_i a1)], [], h2)) rfl ?_
    refine jm_E_ite (fun hc => ?_) (fun hc => ?_)
    · replace H := H.1 hc
      refine jm_E_n 1 (x' := (17, [some (jm_r 8 0), some (jm_i a0), some (jm_i a1)], [jm_i 0], h2)) rfl ?_
      exact jm_E_ret rfl (by rw [H]; rfl)
    · replace H := H.2 hc
      refine jm_E_n 2 (x' := (17, [some (jm_r 8 0), some (jm_i a0), some (jm_i a1)], [jm_i 1], h2)) rfl ?_
      exact jm_E_ret rfl (by rw [H]; rfl)
set_option maxRecDepth 100000 in
theorem wp_M_isFrame {a0 : Int32} {a1 : Int32} {h : jm_H} {r : jm_Rs} (H :
  ∃ (v1 : Int32) (h1 : jm_H), m_M_isMode a0 h v1 h1 ∧
  (v1 = 0 →
    r = (some (jm_i 0), h1)) ∧
  (¬ (v1 = 0) →
    ∃ (v2 : Int32) (h2 : jm_H), m_M_framesOf a0 h1 v2 h2 ∧
    ∃ (v3 : Int32) (h3 : jm_H), m_M_in a1 0 (v2 - 1) h2 v3 h3 ∧
    (v3 = 0 →
      r = (some (jm_i 0), h3)) ∧
    (¬ (v3 = 0) →
      r = (some (jm_i 1), h3)))) : jm_R 149 [jm_r 8 0, jm_i a0, jm_i a1] h r := by
  refine jm_R_of hz_149 (Nat.le_of_ble_eq_true rfl) ?_
  show jm_E cod_149 (0, [some (jm_r 8 0), some (jm_i a0), some (jm_i a1)], [], h) r
  refine jm_E_n 2 (x' := (2, [some (jm_r 8 0), some (jm_i a0), some (jm_i a1)], [jm_i a0, jm_r 8 0], h)) rfl ?_
  obtain ⟨v1, h1, hR, H⟩ := H
  refine jm_E_call rfl (Nat.le_of_ble_eq_true rfl) (Nat.le_of_ble_eq_true rfl) rfl hR trivial ?_
  refine jm_E_eq (x := (3, [some (jm_r 8 0), some (jm_i a0), some (jm_i a1)], [jm_i v1], h1)) rfl ?_
  refine jm_E_n 1 (x' := (if v1 = 0 then 15 else 4, [some (jm_r 8 0), some (jm_i a0), some (jm_i a1)], [], h1)) rfl ?_
  refine jm_E_ite (fun hc => ?_) (fun hc => ?_)
  · replace H := H.1 hc
    refine jm_E_n 1 (x' := (16, [some (jm_r 8 0), some (jm_i a0), some (jm_i a1)], [jm_i 0], h1)) rfl ?_
    exact jm_E_ret rfl (by rw [H]; rfl)
  · replace H := H.2 hc
    refine jm_E_n 4 (x' := (8, [some (jm_r 8 0), some (jm_i a0), some (jm_i a1)], [jm_i a0, jm_r 8 0, jm_i 0, jm_i a1], h1)) rfl ?_
    obtain ⟨v2, h2, hR, H⟩ := H
    refine jm_E_call rfl (Nat.le_of_ble_eq_true rfl) (Nat.le_of_ble_eq_true rfl) rfl hR trivial ?_
    refine jm_E_eq (x := (9, [some (jm_r 8 0), some (jm_i a0), some (jm_i a1)], [jm_i v2, jm_i 0, jm_i a1], h2)) rfl ?_
    refine jm_E_n 2 (x' := (11, [some (jm_r 8 0), some (jm_i a0), some (jm_i a1)], [jm_i (v2 - 1), jm_i 0, jm_i a1], h2)) rfl ?_
    obtain ⟨v3, h3, hR, H⟩ := H
    refine jm_E_call rfl (Nat.le_of_ble_eq_true rfl) (Nat.le_of_ble_eq_true rfl) trivial hR trivial ?_
    refine jm_E_eq (x := (12, [some (jm_r 8 0), some (jm_i a0), some (jm_i a1)], [jm_i v3], h3)) rfl ?_
    refine jm_E_n 1 (x' := (if v3 = 0 then 15 else 13, [some (jm_r 8 0), some (jm_i a0), some (jm_i a1)], [], h3)) rfl ?_
    refine jm_E_ite (fun hc => ?_) (fun hc => ?_)
    · replace H := H.1 hc
      refine jm_E_n 1 (x' := (16, [some (jm_r 8 0), some (jm_i a0), some (jm_i a1)], [jm_i 0], h3)) rfl ?_
      exact jm_E_ret rfl (by rw [H]; rfl)
    · replace H := H.2 hc
      refine jm_E_n 2 (x' := (16, [some (jm_r 8 0), some (jm_i a0), some (jm_i a1)], [jm_i 1], h3)) rfl ?_
      exact jm_E_ret rfl (by rw [H]; rfl)
set_option maxRecDepth 100000 in
theorem wp_M_hasTable {a0 : Int32} {h : jm_H} {r : jm_Rs} (H :
  ∃ h1 : jm_H, m_M_anew h h1 ∧
  ∃ (v2 : Int32) (h2 : jm_H), m_M_isMode a0 h1 v2 h2 ∧
  (v2 = 0 →
    ∃ (v3 : Int32) (h3 : jm_H), m_M_no 1 h2 v3 h3 ∧
    r = (some (jm_i v3), h3)) ∧
  (¬ (v2 = 0) →
    ∃ (v4 : Int32) (h4 : jm_H), m_M_isLaid a0 h2 v4 h4 ∧
    (v4 = 0 →
      r = (some (jm_i 0), h4)) ∧
    (¬ (v4 = 0) →
      r = (some (jm_i 1), h4)))) : jm_R 150 [jm_r 8 0, jm_i a0] h r := by
  refine jm_R_of hz_150 (Nat.le_of_ble_eq_true rfl) ?_
  show jm_E cod_150 (0, [some (jm_r 8 0), some (jm_i a0)], [], h) r
  refine jm_E_n 1 (x' := (1, [some (jm_r 8 0), some (jm_i a0)], [jm_r 8 0], h)) rfl ?_
  obtain ⟨h1, hR, H⟩ := H
  refine jm_E_call rfl (Nat.le_of_ble_eq_true rfl) (Nat.le_of_ble_eq_true rfl) rfl hR trivial ?_
  refine jm_E_eq (x := (2, [some (jm_r 8 0), some (jm_i a0)], [], h1)) rfl ?_
  refine jm_E_n 2 (x' := (4, [some (jm_r 8 0), some (jm_i a0)], [jm_i a0, jm_r 8 0], h1)) rfl ?_
  obtain ⟨v2, h2, hR, H⟩ := H
  refine jm_E_call rfl (Nat.le_of_ble_eq_true rfl) (Nat.le_of_ble_eq_true rfl) rfl hR trivial ?_
  refine jm_E_eq (x := (5, [some (jm_r 8 0), some (jm_i a0)], [jm_i v2], h2)) rfl ?_
  refine jm_E_n 1 (x' := (if v2 = 0 then 6 else 10, [some (jm_r 8 0), some (jm_i a0)], [], h2)) rfl ?_
  refine jm_E_ite (fun hc => ?_) (fun hc => ?_)
  · replace H := H.1 hc
    refine jm_E_n 2 (x' := (8, [some (jm_r 8 0), some (jm_i a0)], [jm_i 1, jm_r 8 0], h2)) rfl ?_
    obtain ⟨v3, h3, hR, H⟩ := H
    refine jm_E_call rfl (Nat.le_of_ble_eq_true rfl) (Nat.le_of_ble_eq_true rfl) rfl hR trivial ?_
    refine jm_E_eq (x := (9, [some (jm_r 8 0), some (jm_i a0)], [jm_i v3], h3)) rfl ?_
    refine jm_E_n 1 (x' := (17, [some (jm_r 8 0), some (jm_i a0)], [jm_i v3], h3)) rfl ?_
    exact jm_E_ret rfl (by rw [H]; rfl)
  · replace H := H.2 hc
    refine jm_E_n 2 (x' := (12, [some (jm_r 8 0), some (jm_i a0)], [jm_i a0, jm_r 8 0], h2)) rfl ?_
    obtain ⟨v4, h4, hR, H⟩ := H
    refine jm_E_call rfl (Nat.le_of_ble_eq_true rfl) (Nat.le_of_ble_eq_true rfl) rfl hR trivial ?_
    refine jm_E_eq (x := (13, [some (jm_r 8 0), some (jm_i a0)], [jm_i v4], h4)) rfl ?_
    refine jm_E_n 1 (x' := (if v4 = 0 then 16 else 14, [some (jm_r 8 0), some (jm_i a0)], [], h4)) rfl ?_
    refine jm_E_ite (fun hc => ?_) (fun hc => ?_)
    · replace H := H.1 hc
      refine jm_E_n 1 (x' := (17, [some (jm_r 8 0), some (jm_i a0)], [jm_i 0], h4)) rfl ?_
      exact jm_E_ret rfl (by rw [H]; rfl)
    · replace H := H.2 hc
      refine jm_E_n 2 (x' := (17, [some (jm_r 8 0), some (jm_i a0)], [jm_i 1], h4)) rfl ?_
      exact jm_E_ret rfl (by rw [H]; rfl)
set_option maxRecDepth 100000 in
theorem wp_M_pieces_19 {x1 : Int32} {x3 : Int32} {x4 : Int32} {h : jm_H} {r : jm_Rs} (H :
  (576 ≤ x4 →
    r = (some (jm_i x3), h)) ∧
  (¬ (576 ≤ x4) →
    jm_in ((576 * x1) + x4) 1728 ∧
    ((h.1 53 0 (((576 * x1) + x4).toNatClampNeg)) ≤ 0 →
      l_M_pieces_19 x1 (x3 + 0) (x4 + 1) h r) ∧
    (¬ ((h.1 53 0 (((576 * x1) + x4).toNatClampNeg)) ≤ 0) →
      l_M_pieces_19 x1 (x3 + 1) (x4 + 1) h r))) : l_M_pieces_19 x1 x3 x4 h r := by
  refine jm_E_n 3 (x' := (if 576 ≤ x4 then 39 else 22, [some (jm_r 8 0), some (jm_i x1), none, some (jm_i x3), some (jm_i x4)], [], h)) rfl ?_
  refine jm_E_ite (fun hc => ?_) (fun hc => ?_)
  · replace H := H.1 hc
    refine jm_E_n 1 (x' := (40, [some (jm_r 8 0), some (jm_i x1), none, some (jm_i x3), some (jm_i x4)], [jm_i x3], h)) rfl ?_
    exact jm_E_ret rfl (by rw [H]; rfl)
  · replace H := H.2 hc
    refine jm_E_n 8 (x' := (30, [some (jm_r 8 0), some (jm_i x1), none, some (jm_i x3), some (jm_i x4)], [jm_i ((576 * x1) + x4), jm_r 53 0, jm_i x3], h)) rfl ?_
    refine jm_E_iald rfl rfl H.1 ?_
    replace H := H.2
    refine jm_E_eq (x := (31, [some (jm_r 8 0), some (jm_i x1), none, some (jm_i x3), some (jm_i x4)], [jm_i (h.1 53 0 (((576 * x1) + x4).toNatClampNeg)), jm_i x3], h)) rfl ?_
    refine jm_E_n 1 (x' := (if (h.1 53 0 (((576 * x1) + x4).toNatClampNeg)) ≤ 0 then 34 else 32, [some (jm_r 8 0), some (jm_i x1), none, some (jm_i x3), some (jm_i x4)], [jm_i x3], h)) rfl ?_
    refine jm_E_ite (fun hc => ?_) (fun hc => ?_)
    · replace H := H.1 hc
      refine jm_E_n 5 (x' := (19, [some (jm_r 8 0), some (jm_i x1), none, some (jm_i (x3 + 0)), some (jm_i (x4 + 1))], [], h)) rfl ?_
      exact H
    · replace H := H.2 hc
      refine jm_E_n 6 (x' := (19, [some (jm_r 8 0), some (jm_i x1), none, some (jm_i (x3 + 1)), some (jm_i (x4 + 1))], [], h)) rfl ?_
      exact H
set_option maxRecDepth 100000 in
theorem wp_M_pieces {a0 : Int32} {h : jm_H} {r : jm_Rs} (H :
  ∃ h1 : jm_H, m_M_anew h h1 ∧
  ∃ (v2 : Int32) (h2 : jm_H), m_M_isMode a0 h1 v2 h2 ∧
  ∃ (v3 : Int32) (h3 : jm_H), m_M_tableWhy a0 v2 h2 v3 h3 ∧
  (v3 = 0 →
    l_M_pieces_19 a0 0 0 h3 r) ∧
  (¬ (v3 = 0) →
    ∃ (v4 : Int32) (h4 : jm_H), m_M_no v3 h3 v4 h4 ∧
    r = (some (jm_i v4), h4))) : jm_R 151 [jm_r 8 0, jm_i a0] h r := by
  refine jm_R_of hz_151 (Nat.le_of_ble_eq_true rfl) ?_
  show jm_E cod_151 (0, [some (jm_r 8 0), some (jm_i a0), none, none, none], [], h) r
  refine jm_E_n 1 (x' := (1, [some (jm_r 8 0), some (jm_i a0), none, none, none], [jm_r 8 0], h)) rfl ?_
  obtain ⟨h1, hR, H⟩ := H
  refine jm_E_call rfl (Nat.le_of_ble_eq_true rfl) (Nat.le_of_ble_eq_true rfl) rfl hR trivial ?_
  refine jm_E_eq (x := (2, [some (jm_r 8 0), some (jm_i a0), none, none, none], [], h1)) rfl ?_
  refine jm_E_n 4 (x' := (6, [some (jm_r 8 0), some (jm_i a0), none, none, none], [jm_i a0, jm_r 8 0, jm_i a0, jm_r 8 0], h1)) rfl ?_
  obtain ⟨v2, h2, hR, H⟩ := H
  refine jm_E_call rfl (Nat.le_of_ble_eq_true rfl) (Nat.le_of_ble_eq_true rfl) rfl hR trivial ?_
  refine jm_E_eq (x := (7, [some (jm_r 8 0), some (jm_i a0), none, none, none], [jm_i v2, jm_i a0, jm_r 8 0], h2)) rfl ?_
  obtain ⟨v3, h3, hR, H⟩ := H
  refine jm_E_call rfl (Nat.le_of_ble_eq_true rfl) (Nat.le_of_ble_eq_true rfl) rfl hR trivial ?_
  refine jm_E_eq (x := (8, [some (jm_r 8 0), some (jm_i a0), none, none, none], [jm_i v3], h3)) rfl ?_
  refine jm_E_n 3 (x' := (if v3 = 0 then 15 else 11, [some (jm_r 8 0), some (jm_i a0), some (jm_i v3), none, none], [], h3)) rfl ?_
  refine jm_E_ite (fun hc => ?_) (fun hc => ?_)
  · replace H := H.1 hc
    refine jm_E_n 4 (x' := (19, [some (jm_r 8 0), some (jm_i a0), some (jm_i v3), some (jm_i 0), some (jm_i 0)], [], h3)) rfl ?_
    exact jm_E_weak (jm_le_s (jm_le_s (jm_le_n (jm_le_s (jm_le_s jm_le_nil))))) H
  · replace H := H.2 hc
    refine jm_E_n 2 (x' := (13, [some (jm_r 8 0), some (jm_i a0), some (jm_i v3), none, none], [jm_i v3, jm_r 8 0], h3)) rfl ?_
    obtain ⟨v4, h4, hR, H⟩ := H
    refine jm_E_call rfl (Nat.le_of_ble_eq_true rfl) (Nat.le_of_ble_eq_true rfl) rfl hR trivial ?_
    refine jm_E_eq (x := (14, [some (jm_r 8 0), some (jm_i a0), some (jm_i v3), none, none], [jm_i v4], h4)) rfl ?_
    exact jm_E_ret rfl (by rw [H]; rfl)
set_option maxRecDepth 100000 in
theorem wp_M_swaps {a0 : Int32} {h : jm_H} {r : jm_Rs} (H :
  ∃ h1 : jm_H, m_M_anew h h1 ∧
  ∃ (v2 : Int32) (h2 : jm_H), m_M_isMode a0 h1 v2 h2 ∧
  ∃ (v3 : Int32) (h3 : jm_H), m_M_tableWhy a0 v2 h2 v3 h3 ∧
  (v3 = 0 →
    jm_in a0 3 ∧
    r = (some (jm_i (h3.1 54 0 a0.toNatClampNeg)), h3)) ∧
  (¬ (v3 = 0) →
    ∃ (v4 : Int32) (h4 : jm_H), m_M_no v3 h3 v4 h4 ∧
    r = (some (jm_i v4), h4))) : jm_R 152 [jm_r 8 0, jm_i a0] h r := by
  refine jm_R_of hz_152 (Nat.le_of_ble_eq_true rfl) ?_
  show jm_E cod_152 (0, [some (jm_r 8 0), some (jm_i a0), none], [], h) r
  refine jm_E_n 1 (x' := (1, [some (jm_r 8 0), some (jm_i a0), none], [jm_r 8 0], h)) rfl ?_
  obtain ⟨h1, hR, H⟩ := H
  refine jm_E_call rfl (Nat.le_of_ble_eq_true rfl) (Nat.le_of_ble_eq_true rfl) rfl hR trivial ?_
  refine jm_E_eq (x := (2, [some (jm_r 8 0), some (jm_i a0), none], [], h1)) rfl ?_
  refine jm_E_n 4 (x' := (6, [some (jm_r 8 0), some (jm_i a0), none], [jm_i a0, jm_r 8 0, jm_i a0, jm_r 8 0], h1)) rfl ?_
  obtain ⟨v2, h2, hR, H⟩ := H
  refine jm_E_call rfl (Nat.le_of_ble_eq_true rfl) (Nat.le_of_ble_eq_true rfl) rfl hR trivial ?_
  refine jm_E_eq (x := (7, [some (jm_r 8 0), some (jm_i a0), none], [jm_i v2, jm_i a0, jm_r 8 0], h2)) rfl ?_
  obtain ⟨v3, h3, hR, H⟩ := H
  refine jm_E_call rfl (Nat.le_of_ble_eq_true rfl) (Nat.le_of_ble_eq_true rfl) rfl hR trivial ?_
  refine jm_E_eq (x := (8, [some (jm_r 8 0), some (jm_i a0), none], [jm_i v3], h3)) rfl ?_
  refine jm_E_n 3 (x' := (if v3 = 0 then 15 else 11, [some (jm_r 8 0), some (jm_i a0), some (jm_i v3)], [], h3)) rfl ?_
  refine jm_E_ite (fun hc => ?_) (fun hc => ?_)
  · replace H := H.1 hc
    refine jm_E_n 3 (x' := (18, [some (jm_r 8 0), some (jm_i a0), some (jm_i v3)], [jm_i a0, jm_r 54 0], h3)) rfl ?_
    refine jm_E_iald rfl rfl H.1 ?_
    replace H := H.2
    refine jm_E_eq (x := (19, [some (jm_r 8 0), some (jm_i a0), some (jm_i v3)], [jm_i (h3.1 54 0 a0.toNatClampNeg)], h3)) rfl ?_
    exact jm_E_ret rfl (by rw [H]; rfl)
  · replace H := H.2 hc
    refine jm_E_n 2 (x' := (13, [some (jm_r 8 0), some (jm_i a0), some (jm_i v3)], [jm_i v3, jm_r 8 0], h3)) rfl ?_
    obtain ⟨v4, h4, hR, H⟩ := H
    refine jm_E_call rfl (Nat.le_of_ble_eq_true rfl) (Nat.le_of_ble_eq_true rfl) rfl hR trivial ?_
    refine jm_E_eq (x := (14, [some (jm_r 8 0), some (jm_i a0), some (jm_i v3)], [jm_i v4], h4)) rfl ?_
    refine jm_E_n 1 (x' := (19, [some (jm_r 8 0), some (jm_i a0), some (jm_i v3)], [jm_i v4], h4)) rfl ?_
    exact jm_E_ret rfl (by rw [H]; rfl)
set_option maxRecDepth 100000 in
theorem wp_M_share {a0 : Int32} {a1 : Int32} {a2 : Int32} {h : jm_H} {r : jm_Rs} (H :
  ∃ h1 : jm_H, m_M_anew h h1 ∧
  ∃ (v2 : Int32) (h2 : jm_H), m_M_isJob a0 a1 h1 v2 h2 ∧
  (v2 = 0 →
    ∃ (v3 : Int32) (h3 : jm_H), m_M_tableWhy a0 0 h2 v3 h3 ∧
    (v3 = 0 →
      ∃ (v4 : Int32) (h4 : jm_H), m_M_has a0 a1 a2 h3 v4 h4 ∧
      r = (some (jm_i v4), h4)) ∧
    (¬ (v3 = 0) →
      ∃ (v5 : Int32) (h5 : jm_H), m_M_no v3 h3 v5 h5 ∧
      r = (some (jm_i v5), h5))) ∧
  (¬ (v2 = 0) →
    ∃ (v6 : Int32) (h6 : jm_H), m_M_isFrame a0 a2 h2 v6 h6 ∧
    (v6 = 0 →
      ∃ (v7 : Int32) (h7 : jm_H), m_M_tableWhy a0 0 h6 v7 h7 ∧
      (v7 = 0 →
        ∃ (v8 : Int32) (h8 : jm_H), m_M_has a0 a1 a2 h7 v8 h8 ∧
        r = (some (jm_i v8), h8)) ∧
      (¬ (v7 = 0) →
        ∃ (v9 : Int32) (h9 : jm_H), m_M_no v7 h7 v9 h9 ∧
        r = (some (jm_i v9), h9))) ∧
    (¬ (v6 = 0) →
      ∃ (v10 : Int32) (h10 : jm_H), m_M_tableWhy a0 1 h6 v10 h10 ∧
      (v10 = 0 →
        ∃ (v11 : Int32) (h11 : jm_H), m_M_has a0 a1 a2 h10 v11 h11 ∧
        r = (some (jm_i v11), h11)) ∧
      (¬ (v10 = 0) →
        ∃ (v12 : Int32) (h12 : jm_H), m_M_no v10 h10 v12 h12 ∧
        r = (some (jm_i v12), h12))))) : jm_R 153 [jm_r 8 0, jm_i a0, jm_i a1, jm_i a2] h r := by
  refine jm_R_of hz_153 (Nat.le_of_ble_eq_true rfl) ?_
  show jm_E cod_153 (0, [some (jm_r 8 0), some (jm_i a0), some (jm_i a1), some (jm_i a2), none], [], h) r
  refine jm_E_n 1 (x' := (1, [some (jm_r 8 0), some (jm_i a0), some (jm_i a1), some (jm_i a2), none], [jm_r 8 0], h)) rfl ?_
  obtain ⟨h1, hR, H⟩ := H
  refine jm_E_call rfl (Nat.le_of_ble_eq_true rfl) (Nat.le_of_ble_eq_true rfl) rfl hR trivial ?_
  refine jm_E_eq (x := (2, [some (jm_r 8 0), some (jm_i a0), some (jm_i a1), some (jm_i a2), none], [], h1)) rfl ?_
  refine jm_E_n 5 (x' := (7, [some (jm_r 8 0), some (jm_i a0), some (jm_i a1), some (jm_i a2), none], [jm_i a1, jm_i a0, jm_r 8 0, jm_i a0, jm_r 8 0], h1)) rfl ?_
  obtain ⟨v2, h2, hR, H⟩ := H
  refine jm_E_call rfl (Nat.le_of_ble_eq_true rfl) (Nat.le_of_ble_eq_true rfl) rfl hR trivial ?_
  refine jm_E_eq (x := (8, [some (jm_r 8 0), some (jm_i a0), some (jm_i a1), some (jm_i a2), none], [jm_i v2, jm_i a0, jm_r 8 0], h2)) rfl ?_
  refine jm_E_n 1 (x' := (if v2 = 0 then 16 else 9, [some (jm_r 8 0), some (jm_i a0), some (jm_i a1), some (jm_i a2), none], [jm_i a0, jm_r 8 0], h2)) rfl ?_
  refine jm_E_ite (fun hc => ?_) (fun hc => ?_)
  · replace H := H.1 hc
    refine jm_E_n 1 (x' := (17, [some (jm_r 8 0), some (jm_i a0), some (jm_i a1), some (jm_i a2), none], [jm_i 0, jm_i a0, jm_r 8 0], h2)) rfl ?_
    obtain ⟨v3, h3, hR, H⟩ := H
    refine jm_E_call rfl (Nat.le_of_ble_eq_true rfl) (Nat.le_of_ble_eq_true rfl) rfl hR trivial ?_
    refine jm_E_eq (x := (18, [some (jm_r 8 0), some (jm_i a0), some (jm_i a1), some (jm_i a2), none], [jm_i v3], h3)) rfl ?_
    refine jm_E_n 3 (x' := (if v3 = 0 then 25 else 21, [some (jm_r 8 0), some (jm_i a0), some (jm_i a1), some (jm_i a2), some (jm_i v3)], [], h3)) rfl ?_
    refine jm_E_ite (fun hc => ?_) (fun hc => ?_)
    · replace H := H.1 hc
      refine jm_E_n 4 (x' := (29, [some (jm_r 8 0), some (jm_i a0), some (jm_i a1), some (jm_i a2), some (jm_i v3)], [jm_i a2, jm_i a1, jm_i a0, jm_r 8 0], h3)) rfl ?_
      obtain ⟨v4, h4, hR, H⟩ := H
      refine jm_E_call rfl (Nat.le_of_ble_eq_true rfl) (Nat.le_of_ble_eq_true rfl) rfl hR trivial ?_
      refine jm_E_eq (x := (30, [some (jm_r 8 0), some (jm_i a0), some (jm_i a1), some (jm_i a2), some (jm_i v3)], [jm_i v4], h4)) rfl ?_
      exact jm_E_ret rfl (by rw [H]; rfl)
    · replace H := H.2 hc
      refine jm_E_n 2 (x' := (23, [some (jm_r 8 0), some (jm_i a0), some (jm_i a1), some (jm_i a2), some (jm_i v3)], [jm_i v3, jm_r 8 0], h3)) rfl ?_
      obtain ⟨v5, h5, hR, H⟩ := H
      refine jm_E_call rfl (Nat.le_of_ble_eq_true rfl) (Nat.le_of_ble_eq_true rfl) rfl hR trivial ?_
      refine jm_E_eq (x := (24, [some (jm_r 8 0), some (jm_i a0), some (jm_i a1), some (jm_i a2), some (jm_i v3)], [jm_i v5], h5)) rfl ?_
      refine jm_E_n 1 (x' := (30, [some (jm_r 8 0), some (jm_i a0), some (jm_i a1), some (jm_i a2), some (jm_i v3)], [jm_i v5], h5)) rfl ?_
      exact jm_E_ret rfl (by rw [H]; rfl)
  · replace H := H.2 hc
    refine jm_E_n 3 (x' := (12, [some (jm_r 8 0), some (jm_i a0), some (jm_i a1), some (jm_i a2), none], [jm_i a2, jm_i a0, jm_r 8 0, jm_i a0, jm_r 8 0], h2)) rfl ?_
    obtain ⟨v6, h6, hR, H⟩ := H
    refine jm_E_call rfl (Nat.le_of_ble_eq_true rfl) (Nat.le_of_ble_eq_true rfl) rfl hR trivial ?_
    refine jm_E_eq (x := (13, [some (jm_r 8 0), some (jm_i a0), some (jm_i a1), some (jm_i a2), none], [jm_i v6, jm_i a0, jm_r 8 0], h6)) rfl ?_
    refine jm_E_n 1 (x' := (if v6 = 0 then 16 else 14, [some (jm_r 8 0), some (jm_i a0), some (jm_i a1), some (jm_i a2), none], [jm_i a0, jm_r 8 0], h6)) rfl ?_
    refine jm_E_ite (fun hc => ?_) (fun hc => ?_)
    · replace H := H.1 hc
      refine jm_E_n 1 (x' := (17, [some (jm_r 8 0), some (jm_i a0), some (jm_i a1), some (jm_i a2), none], [jm_i 0, jm_i a0, jm_r 8 0], h6)) rfl ?_
      obtain ⟨v7, h7, hR, H⟩ := H
      refine jm_E_call rfl (Nat.le_of_ble_eq_true rfl) (Nat.le_of_ble_eq_true rfl) rfl hR trivial ?_
      refine jm_E_eq (x := (18, [some (jm_r 8 0), some (jm_i a0), some (jm_i a1), some (jm_i a2), none], [jm_i v7], h7)) rfl ?_
      refine jm_E_n 3 (x' := (if v7 = 0 then 25 else 21, [some (jm_r 8 0), some (jm_i a0), some (jm_i a1), some (jm_i a2), some (jm_i v7)], [], h7)) rfl ?_
      refine jm_E_ite (fun hc => ?_) (fun hc => ?_)
      · replace H := H.1 hc
        refine jm_E_n 4 (x' := (29, [some (jm_r 8 0), some (jm_i a0), some (jm_i a1), some (jm_i a2), some (jm_i v7)], [jm_i a2, jm_i a1, jm_i a0, jm_r 8 0], h7)) rfl ?_
        obtain ⟨v8, h8, hR, H⟩ := H
        refine jm_E_call rfl (Nat.le_of_ble_eq_true rfl) (Nat.le_of_ble_eq_true rfl) rfl hR trivial ?_
        refine jm_E_eq (x := (30, [some (jm_r 8 0), some (jm_i a0), some (jm_i a1), some (jm_i a2), some (jm_i v7)], [jm_i v8], h8)) rfl ?_
        exact jm_E_ret rfl (by rw [H]; rfl)
      · replace H := H.2 hc
        refine jm_E_n 2 (x' := (23, [some (jm_r 8 0), some (jm_i a0), some (jm_i a1), some (jm_i a2), some (jm_i v7)], [jm_i v7, jm_r 8 0], h7)) rfl ?_
        obtain ⟨v9, h9, hR, H⟩ := H
        refine jm_E_call rfl (Nat.le_of_ble_eq_true rfl) (Nat.le_of_ble_eq_true rfl) rfl hR trivial ?_
        refine jm_E_eq (x := (24, [some (jm_r 8 0), some (jm_i a0), some (jm_i a1), some (jm_i a2), some (jm_i v7)], [jm_i v9], h9)) rfl ?_
        refine jm_E_n 1 (x' := (30, [some (jm_r 8 0), some (jm_i a0), some (jm_i a1), some (jm_i a2), some (jm_i v7)], [jm_i v9], h9)) rfl ?_
        exact jm_E_ret rfl (by rw [H]; rfl)
    · replace H := H.2 hc
      refine jm_E_n 2 (x' := (17, [some (jm_r 8 0), some (jm_i a0), some (jm_i a1), some (jm_i a2), none], [jm_i 1, jm_i a0, jm_r 8 0], h6)) rfl ?_
      obtain ⟨v10, h10, hR, H⟩ := H
      refine jm_E_call rfl (Nat.le_of_ble_eq_true rfl) (Nat.le_of_ble_eq_true rfl) rfl hR trivial ?_
      refine jm_E_eq (x := (18, [some (jm_r 8 0), some (jm_i a0), some (jm_i a1), some (jm_i a2), none], [jm_i v10], h10)) rfl ?_
      refine jm_E_n 3 (x' := (if v10 = 0 then 25 else 21, [some (jm_r 8 0), some (jm_i a0), some (jm_i a1), some (jm_i a2), some (jm_i v10)], [], h10)) rfl ?_
      refine jm_E_ite (fun hc => ?_) (fun hc => ?_)
      · replace H := H.1 hc
        refine jm_E_n 4 (x' := (29, [some (jm_r 8 0), some (jm_i a0), some (jm_i a1), some (jm_i a2), some (jm_i v10)], [jm_i a2, jm_i a1, jm_i a0, jm_r 8 0], h10)) rfl ?_
        obtain ⟨v11, h11, hR, H⟩ := H
        refine jm_E_call rfl (Nat.le_of_ble_eq_true rfl) (Nat.le_of_ble_eq_true rfl) rfl hR trivial ?_
        refine jm_E_eq (x := (30, [some (jm_r 8 0), some (jm_i a0), some (jm_i a1), some (jm_i a2), some (jm_i v10)], [jm_i v11], h11)) rfl ?_
        exact jm_E_ret rfl (by rw [H]; rfl)
      · replace H := H.2 hc
        refine jm_E_n 2 (x' := (23, [some (jm_r 8 0), some (jm_i a0), some (jm_i a1), some (jm_i a2), some (jm_i v10)], [jm_i v10, jm_r 8 0], h10)) rfl ?_
        obtain ⟨v12, h12, hR, H⟩ := H
        refine jm_E_call rfl (Nat.le_of_ble_eq_true rfl) (Nat.le_of_ble_eq_true rfl) rfl hR trivial ?_
        refine jm_E_eq (x := (24, [some (jm_r 8 0), some (jm_i a0), some (jm_i a1), some (jm_i a2), some (jm_i v10)], [jm_i v12], h12)) rfl ?_
        refine jm_E_n 1 (x' := (30, [some (jm_r 8 0), some (jm_i a0), some (jm_i a1), some (jm_i a2), some (jm_i v10)], [jm_i v12], h12)) rfl ?_
        exact jm_E_ret rfl (by rw [H]; rfl)
set_option maxRecDepth 100000 in
theorem wp_M_beginOf_9 {x1 : Int32} {x2 : Int32} {x3 : Int32} {x4 : Int32} {x5 : Int32} {h : jm_H} {r : jm_Rs} (H :
  jm_in x1 3 ∧
  ((h.1 42 0 x1.toNatClampNeg) ≤ x5 →
    r = (some (jm_i x4), h)) ∧
  (¬ ((h.1 42 0 x1.toNatClampNeg) ≤ x5) →
    ∃ (v1 : Int32) (h1 : jm_H), m_M_dueOf x1 x5 h v1 h1 ∧
    ∃ (v2 : Int32) (h2 : jm_H), m_M_dueOf x1 x2 h1 v2 h2 ∧
    (v1 < v2 →
      ∃ (v3 : Int32) (h3 : jm_H), m_M_has x1 x5 x3 h2 v3 h3 ∧
      l_M_beginOf_9 x1 x2 x3 (x4 + v3) (x5 + 1) h3 r) ∧
    (¬ (v1 < v2) →
      ∃ (v4 : Int32) (h4 : jm_H), m_M_dueOf x1 x5 h2 v4 h4 ∧
      ∃ (v5 : Int32) (h5 : jm_H), m_M_dueOf x1 x2 h4 v5 h5 ∧
      (v4 = v5 →
        (x2 ≤ x5 →
          l_M_beginOf_9 x1 x2 x3 (x4 + 0) (x5 + 1) h5 r) ∧
        (¬ (x2 ≤ x5) →
          ∃ (v6 : Int32) (h6 : jm_H), m_M_has x1 x5 x3 h5 v6 h6 ∧
          l_M_beginOf_9 x1 x2 x3 (x4 + v6) (x5 + 1) h6 r)) ∧
      (¬ (v4 = v5) →
        l_M_beginOf_9 x1 x2 x3 (x4 + 0) (x5 + 1) h5 r)))) : l_M_beginOf_9 x1 x2 x3 x4 x5 h r := by
  refine jm_E_n 4 (x' := (13, [some (jm_r 8 0), some (jm_i x1), some (jm_i x2), some (jm_i x3), some (jm_i x4), some (jm_i x5), none], [jm_i x1, jm_r 42 0, jm_i x5], h)) rfl ?_
  refine jm_E_iald rfl rfl H.1 ?_
  replace H := H.2
  refine jm_E_eq (x := (14, [some (jm_r 8 0), some (jm_i x1), some (jm_i x2), some (jm_i x3), some (jm_i x4), some (jm_i x5), none], [jm_i (h.1 42 0 x1.toNatClampNeg), jm_i x5], h)) rfl ?_
  refine jm_E_n 1 (x' := (if (h.1 42 0 x1.toNatClampNeg) ≤ x5 then 54 else 15, [some (jm_r 8 0), some (jm_i x1), some (jm_i x2), some (jm_i x3), some (jm_i x4), some (jm_i x5), none], [], h)) rfl ?_
  refine jm_E_ite (fun hc => ?_) (fun hc => ?_)
  · replace H := H.1 hc
    refine jm_E_n 1 (x' := (55, [some (jm_r 8 0), some (jm_i x1), some (jm_i x2), some (jm_i x3), some (jm_i x4), some (jm_i x5), none], [jm_i x4], h)) rfl ?_
    exact jm_E_ret rfl (by rw [H]; rfl)
  · replace H := H.2 hc
    refine jm_E_n 3 (x' := (18, [some (jm_r 8 0), some (jm_i x1), some (jm_i x2), some (jm_i x3), some (jm_i x4), some (jm_i x5), none], [jm_i x5, jm_i x1, jm_r 8 0], h)) rfl ?_
    obtain ⟨v1, h1, hR, H⟩ := H
    refine jm_E_call rfl (Nat.le_of_ble_eq_true rfl) (Nat.le_of_ble_eq_true rfl) rfl hR trivial ?_
    refine jm_E_eq (x := (19, [some (jm_r 8 0), some (jm_i x1), some (jm_i x2), some (jm_i x3), some (jm_i x4), some (jm_i x5), none], [jm_i v1], h1)) rfl ?_
    refine jm_E_n 3 (x' := (22, [some (jm_r 8 0), some (jm_i x1), some (jm_i x2), some (jm_i x3), some (jm_i x4), some (jm_i x5), none], [jm_i x2, jm_i x1, jm_r 8 0, jm_i v1], h1)) rfl ?_
    obtain ⟨v2, h2, hR, H⟩ := H
    refine jm_E_call rfl (Nat.le_of_ble_eq_true rfl) (Nat.le_of_ble_eq_true rfl) rfl hR trivial ?_
    refine jm_E_eq (x := (23, [some (jm_r 8 0), some (jm_i x1), some (jm_i x2), some (jm_i x3), some (jm_i x4), some (jm_i x5), none], [jm_i v2, jm_i v1], h2)) rfl ?_
    refine jm_E_n 1 (x' := (if v1 < v2 then 36 else 24, [some (jm_r 8 0), some (jm_i x1), some (jm_i x2), some (jm_i x3), some (jm_i x4), some (jm_i x5), none], [], h2)) rfl ?_
    refine jm_E_ite (fun hc => ?_) (fun hc => ?_)
    · replace H := H.1 hc
      refine jm_E_n 10 (x' := (47, [some (jm_r 8 0), some (jm_i x1), some (jm_i x2), some (jm_i x3), some (jm_i x4), some (jm_i x5), some (jm_i 1)], [jm_i x3, jm_i x5, jm_i x1, jm_r 8 0, jm_i x4], h2)) rfl ?_
      obtain ⟨v3, h3, hR, H⟩ := H
      refine jm_E_call rfl (Nat.le_of_ble_eq_true rfl) (Nat.le_of_ble_eq_true rfl) rfl hR trivial ?_
      refine jm_E_eq (x := (48, [some (jm_r 8 0), some (jm_i x1), some (jm_i x2), some (jm_i x3), some (jm_i x4), some (jm_i x5), some (jm_i 1)], [jm_i v3, jm_i x4], h3)) rfl ?_
      refine jm_E_n 5 (x' := (9, [some (jm_r 8 0), some (jm_i x1), some (jm_i x2), some (jm_i x3), some (jm_i (x4 + v3)), some (jm_i (x5 + 1)), some (jm_i 1)], [], h3)) rfl ?_
      exact jm_E_weak (jm_le_s (jm_le_s (jm_le_s (jm_le_s (jm_le_s (jm_le_s (jm_le_n jm_le_nil))))))) H
    · replace H := H.2 hc
      refine jm_E_n 3 (x' := (27, [some (jm_r 8 0), some (jm_i x1), some (jm_i x2), some (jm_i x3), some (jm_i x4), some (jm_i x5), none], [jm_i x5, jm_i x1, jm_r 8 0], h2)) rfl ?_
      obtain ⟨v4, h4, hR, H⟩ := H
      refine jm_E_call rfl (Nat.le_of_ble_eq_true rfl) (Nat.le_of_ble_eq_true rfl) rfl hR trivial ?_
      refine jm_E_eq (x := (28, [some (jm_r 8 0), some (jm_i x1), some (jm_i x2), some (jm_i x3), some (jm_i x4), some (jm_i x5), none], [jm_i v4], h4)) rfl ?_
      refine jm_E_n 3 (x' := (31, [some (jm_r 8 0), some (jm_i x1), some (jm_i x2), some (jm_i x3), some (jm_i x4), some (jm_i x5), none], [jm_i x2, jm_i x1, jm_r 8 0, jm_i v4], h4)) rfl ?_
      obtain ⟨v5, h5, hR, H⟩ := H
      refine jm_E_call rfl (Nat.le_of_ble_eq_true rfl) (Nat.le_of_ble_eq_true rfl) rfl hR trivial ?_
      refine jm_E_eq (x := (32, [some (jm_r 8 0), some (jm_i x1), some (jm_i x2), some (jm_i x3), some (jm_i x4), some (jm_i x5), none], [jm_i v5, jm_i v4], h5)) rfl ?_
      refine jm_E_n 1 (x' := (if v4 = v5 then 33 else 38, [some (jm_r 8 0), some (jm_i x1), some (jm_i x2), some (jm_i x3), some (jm_i x4), some (jm_i x5), none], [], h5)) rfl ?_
      refine jm_E_ite (fun hc => ?_) (fun hc => ?_)
      · replace H := H.1 hc
        refine jm_E_n 3 (x' := (if x2 ≤ x5 then 38 else 36, [some (jm_r 8 0), some (jm_i x1), some (jm_i x2), some (jm_i x3), some (jm_i x4), some (jm_i x5), none], [], h5)) rfl ?_
        refine jm_E_ite (fun hc => ?_) (fun hc => ?_)
        · replace H := H.1 hc
          refine jm_E_n 10 (x' := (9, [some (jm_r 8 0), some (jm_i x1), some (jm_i x2), some (jm_i x3), some (jm_i (x4 + 0)), some (jm_i (x5 + 1)), some (jm_i 0)], [], h5)) rfl ?_
          exact jm_E_weak (jm_le_s (jm_le_s (jm_le_s (jm_le_s (jm_le_s (jm_le_s (jm_le_n jm_le_nil))))))) H
        · replace H := H.2 hc
          refine jm_E_n 10 (x' := (47, [some (jm_r 8 0), some (jm_i x1), some (jm_i x2), some (jm_i x3), some (jm_i x4), some (jm_i x5), some (jm_i 1)], [jm_i x3, jm_i x5, jm_i x1, jm_r 8 0, jm_i x4], h5)) rfl ?_
          obtain ⟨v6, h6, hR, H⟩ := H
          refine jm_E_call rfl (Nat.le_of_ble_eq_true rfl) (Nat.le_of_ble_eq_true rfl) rfl hR trivial ?_
          refine jm_E_eq (x := (48, [some (jm_r 8 0), some (jm_i x1), some (jm_i x2), some (jm_i x3), some (jm_i x4), some (jm_i x5), some (jm_i 1)], [jm_i v6, jm_i x4], h6)) rfl ?_
          refine jm_E_n 5 (x' := (9, [some (jm_r 8 0), some (jm_i x1), some (jm_i x2), some (jm_i x3), some (jm_i (x4 + v6)), some (jm_i (x5 + 1)), some (jm_i 1)], [], h6)) rfl ?_
          exact jm_E_weak (jm_le_s (jm_le_s (jm_le_s (jm_le_s (jm_le_s (jm_le_s (jm_le_n jm_le_nil))))))) H
      · replace H := H.2 hc
        refine jm_E_n 10 (x' := (9, [some (jm_r 8 0), some (jm_i x1), some (jm_i x2), some (jm_i x3), some (jm_i (x4 + 0)), some (jm_i (x5 + 1)), some (jm_i 0)], [], h5)) rfl ?_
        exact jm_E_weak (jm_le_s (jm_le_s (jm_le_s (jm_le_s (jm_le_s (jm_le_s (jm_le_n jm_le_nil))))))) H
set_option maxRecDepth 100000 in
theorem wp_M_beginOf {a0 : Int32} {a1 : Int32} {a2 : Int32} {h : jm_H} {r : jm_Rs} (H :
  jm_in a0 6 ∧
  l_M_beginOf_9 a0 a1 a2 ((h.1 34 0 a0.toNatClampNeg) * a2) 0 h r) : jm_R 154 [jm_r 8 0, jm_i a0, jm_i a1, jm_i a2] h r := by
  refine jm_R_of hz_154 (Nat.le_of_ble_eq_true rfl) ?_
  show jm_E cod_154 (0, [some (jm_r 8 0), some (jm_i a0), some (jm_i a1), some (jm_i a2), none, none, none], [], h) r
  refine jm_E_n 3 (x' := (3, [some (jm_r 8 0), some (jm_i a0), some (jm_i a1), some (jm_i a2), none, none, none], [jm_i a0, jm_r 34 0], h)) rfl ?_
  refine jm_E_iald rfl rfl H.1 ?_
  replace H := H.2
  refine jm_E_eq (x := (4, [some (jm_r 8 0), some (jm_i a0), some (jm_i a1), some (jm_i a2), none, none, none], [jm_i (h.1 34 0 a0.toNatClampNeg)], h)) rfl ?_
  refine jm_E_n 5 (x' := (9, [some (jm_r 8 0), some (jm_i a0), some (jm_i a1), some (jm_i a2), some (jm_i ((h.1 34 0 a0.toNatClampNeg) * a2)), some (jm_i 0), none], [], h)) rfl ?_
  exact H
set_option maxRecDepth 100000 in
theorem wp_M_begins {a0 : Int32} {a1 : Int32} {a2 : Int32} {h : jm_H} {r : jm_Rs} (H :
  ∃ h1 : jm_H, m_M_anew h h1 ∧
  ∃ (v2 : Int32) (h2 : jm_H), m_M_isJob a0 a1 h1 v2 h2 ∧
  (v2 = 0 →
    ∃ (v3 : Int32) (h3 : jm_H), m_M_tableWhy a0 0 h2 v3 h3 ∧
    (v3 = 0 →
      ∃ (v4 : Int32) (h4 : jm_H), m_M_has a0 a1 a2 h3 v4 h4 ∧
      (v4 = 0 →
        r = (some (jm_i (-2)), h4)) ∧
      (¬ (v4 = 0) →
        ∃ (v5 : Int32) (h5 : jm_H), m_M_beginOf a0 a1 a2 h4 v5 h5 ∧
        r = (some (jm_i v5), h5))) ∧
    (¬ (v3 = 0) →
      ∃ (v6 : Int32) (h6 : jm_H), m_M_no v3 h3 v6 h6 ∧
      r = (some (jm_i v6), h6))) ∧
  (¬ (v2 = 0) →
    ∃ (v7 : Int32) (h7 : jm_H), m_M_isFrame a0 a2 h2 v7 h7 ∧
    (v7 = 0 →
      ∃ (v8 : Int32) (h8 : jm_H), m_M_tableWhy a0 0 h7 v8 h8 ∧
      (v8 = 0 →
        ∃ (v9 : Int32) (h9 : jm_H), m_M_has a0 a1 a2 h8 v9 h9 ∧
        (v9 = 0 →
          r = (some (jm_i (-2)), h9)) ∧
        (¬ (v9 = 0) →
          ∃ (v10 : Int32) (h10 : jm_H), m_M_beginOf a0 a1 a2 h9 v10 h10 ∧
          r = (some (jm_i v10), h10))) ∧
      (¬ (v8 = 0) →
        ∃ (v11 : Int32) (h11 : jm_H), m_M_no v8 h8 v11 h11 ∧
        r = (some (jm_i v11), h11))) ∧
    (¬ (v7 = 0) →
      ∃ (v12 : Int32) (h12 : jm_H), m_M_tableWhy a0 1 h7 v12 h12 ∧
      (v12 = 0 →
        ∃ (v13 : Int32) (h13 : jm_H), m_M_has a0 a1 a2 h12 v13 h13 ∧
        (v13 = 0 →
          r = (some (jm_i (-2)), h13)) ∧
        (¬ (v13 = 0) →
          ∃ (v14 : Int32) (h14 : jm_H), m_M_beginOf a0 a1 a2 h13 v14 h14 ∧
          r = (some (jm_i v14), h14))) ∧
      (¬ (v12 = 0) →
        ∃ (v15 : Int32) (h15 : jm_H), m_M_no v12 h12 v15 h15 ∧
        r = (some (jm_i v15), h15))))) : jm_R 155 [jm_r 8 0, jm_i a0, jm_i a1, jm_i a2] h r := by
  refine jm_R_of hz_155 (Nat.le_of_ble_eq_true rfl) ?_
  show jm_E cod_155 (0, [some (jm_r 8 0), some (jm_i a0), some (jm_i a1), some (jm_i a2), none], [], h) r
  refine jm_E_n 1 (x' := (1, [some (jm_r 8 0), some (jm_i a0), some (jm_i a1), some (jm_i a2), none], [jm_r 8 0], h)) rfl ?_
  obtain ⟨h1, hR, H⟩ := H
  refine jm_E_call rfl (Nat.le_of_ble_eq_true rfl) (Nat.le_of_ble_eq_true rfl) rfl hR trivial ?_
  refine jm_E_eq (x := (2, [some (jm_r 8 0), some (jm_i a0), some (jm_i a1), some (jm_i a2), none], [], h1)) rfl ?_
  refine jm_E_n 5 (x' := (7, [some (jm_r 8 0), some (jm_i a0), some (jm_i a1), some (jm_i a2), none], [jm_i a1, jm_i a0, jm_r 8 0, jm_i a0, jm_r 8 0], h1)) rfl ?_
  obtain ⟨v2, h2, hR, H⟩ := H
  refine jm_E_call rfl (Nat.le_of_ble_eq_true rfl) (Nat.le_of_ble_eq_true rfl) rfl hR trivial ?_
  refine jm_E_eq (x := (8, [some (jm_r 8 0), some (jm_i a0), some (jm_i a1), some (jm_i a2), none], [jm_i v2, jm_i a0, jm_r 8 0], h2)) rfl ?_
  refine jm_E_n 1 (x' := (if v2 = 0 then 16 else 9, [some (jm_r 8 0), some (jm_i a0), some (jm_i a1), some (jm_i a2), none], [jm_i a0, jm_r 8 0], h2)) rfl ?_
  refine jm_E_ite (fun hc => ?_) (fun hc => ?_)
  · replace H := H.1 hc
    refine jm_E_n 1 (x' := (17, [some (jm_r 8 0), some (jm_i a0), some (jm_i a1), some (jm_i a2), none], [jm_i 0, jm_i a0, jm_r 8 0], h2)) rfl ?_
    obtain ⟨v3, h3, hR, H⟩ := H
    refine jm_E_call rfl (Nat.le_of_ble_eq_true rfl) (Nat.le_of_ble_eq_true rfl) rfl hR trivial ?_
    refine jm_E_eq (x := (18, [some (jm_r 8 0), some (jm_i a0), some (jm_i a1), some (jm_i a2), none], [jm_i v3], h3)) rfl ?_
    refine jm_E_n 3 (x' := (if v3 = 0 then 25 else 21, [some (jm_r 8 0), some (jm_i a0), some (jm_i a1), some (jm_i a2), some (jm_i v3)], [], h3)) rfl ?_
    refine jm_E_ite (fun hc => ?_) (fun hc => ?_)
    · replace H := H.1 hc
      refine jm_E_n 4 (x' := (29, [some (jm_r 8 0), some (jm_i a0), some (jm_i a1), some (jm_i a2), some (jm_i v3)], [jm_i a2, jm_i a1, jm_i a0, jm_r 8 0], h3)) rfl ?_
      obtain ⟨v4, h4, hR, H⟩ := H
      refine jm_E_call rfl (Nat.le_of_ble_eq_true rfl) (Nat.le_of_ble_eq_true rfl) rfl hR trivial ?_
      refine jm_E_eq (x := (30, [some (jm_r 8 0), some (jm_i a0), some (jm_i a1), some (jm_i a2), some (jm_i v3)], [jm_i v4], h4)) rfl ?_
      refine jm_E_n 1 (x' := (if v4 = 0 then 31 else 33, [some (jm_r 8 0), some (jm_i a0), some (jm_i a1), some (jm_i a2), some (jm_i v3)], [], h4)) rfl ?_
      refine jm_E_ite (fun hc => ?_) (fun hc => ?_)
      · replace H := H.1 hc
        refine jm_E_n 2 (x' := (38, [some (jm_r 8 0), some (jm_i a0), some (jm_i a1), some (jm_i a2), some (jm_i v3)], [jm_i (-2)], h4)) rfl ?_
        exact jm_E_ret rfl (by rw [H]; rfl)
      · replace H := H.2 hc
        refine jm_E_n 4 (x' := (37, [some (jm_r 8 0), some (jm_i a0), some (jm_i a1), some (jm_i a2), some (jm_i v3)], [jm_i a2, jm_i a1, jm_i a0, jm_r 8 0], h4)) rfl ?_
        obtain ⟨v5, h5, hR, H⟩ := H
        refine jm_E_call rfl (Nat.le_of_ble_eq_true rfl) (Nat.le_of_ble_eq_true rfl) rfl hR trivial ?_
        refine jm_E_eq (x := (38, [some (jm_r 8 0), some (jm_i a0), some (jm_i a1), some (jm_i a2), some (jm_i v3)], [jm_i v5], h5)) rfl ?_
        exact jm_E_ret rfl (by rw [H]; rfl)
    · replace H := H.2 hc
      refine jm_E_n 2 (x' := (23, [some (jm_r 8 0), some (jm_i a0), some (jm_i a1), some (jm_i a2), some (jm_i v3)], [jm_i v3, jm_r 8 0], h3)) rfl ?_
      obtain ⟨v6, h6, hR, H⟩ := H
      refine jm_E_call rfl (Nat.le_of_ble_eq_true rfl) (Nat.le_of_ble_eq_true rfl) rfl hR trivial ?_
      refine jm_E_eq (x := (24, [some (jm_r 8 0), some (jm_i a0), some (jm_i a1), some (jm_i a2), some (jm_i v3)], [jm_i v6], h6)) rfl ?_
      exact jm_E_ret rfl (by rw [H]; rfl)
  · replace H := H.2 hc
    refine jm_E_n 3 (x' := (12, [some (jm_r 8 0), some (jm_i a0), some (jm_i a1), some (jm_i a2), none], [jm_i a2, jm_i a0, jm_r 8 0, jm_i a0, jm_r 8 0], h2)) rfl ?_
    obtain ⟨v7, h7, hR, H⟩ := H
    refine jm_E_call rfl (Nat.le_of_ble_eq_true rfl) (Nat.le_of_ble_eq_true rfl) rfl hR trivial ?_
    refine jm_E_eq (x := (13, [some (jm_r 8 0), some (jm_i a0), some (jm_i a1), some (jm_i a2), none], [jm_i v7, jm_i a0, jm_r 8 0], h7)) rfl ?_
    refine jm_E_n 1 (x' := (if v7 = 0 then 16 else 14, [some (jm_r 8 0), some (jm_i a0), some (jm_i a1), some (jm_i a2), none], [jm_i a0, jm_r 8 0], h7)) rfl ?_
    refine jm_E_ite (fun hc => ?_) (fun hc => ?_)
    · replace H := H.1 hc
      refine jm_E_n 1 (x' := (17, [some (jm_r 8 0), some (jm_i a0), some (jm_i a1), some (jm_i a2), none], [jm_i 0, jm_i a0, jm_r 8 0], h7)) rfl ?_
      obtain ⟨v8, h8, hR, H⟩ := H
      refine jm_E_call rfl (Nat.le_of_ble_eq_true rfl) (Nat.le_of_ble_eq_true rfl) rfl hR trivial ?_
      refine jm_E_eq (x := (18, [some (jm_r 8 0), some (jm_i a0), some (jm_i a1), some (jm_i a2), none], [jm_i v8], h8)) rfl ?_
      refine jm_E_n 3 (x' := (if v8 = 0 then 25 else 21, [some (jm_r 8 0), some (jm_i a0), some (jm_i a1), some (jm_i a2), some (jm_i v8)], [], h8)) rfl ?_
      refine jm_E_ite (fun hc => ?_) (fun hc => ?_)
      · replace H := H.1 hc
        refine jm_E_n 4 (x' := (29, [some (jm_r 8 0), some (jm_i a0), some (jm_i a1), some (jm_i a2), some (jm_i v8)], [jm_i a2, jm_i a1, jm_i a0, jm_r 8 0], h8)) rfl ?_
        obtain ⟨v9, h9, hR, H⟩ := H
        refine jm_E_call rfl (Nat.le_of_ble_eq_true rfl) (Nat.le_of_ble_eq_true rfl) rfl hR trivial ?_
        refine jm_E_eq (x := (30, [some (jm_r 8 0), some (jm_i a0), some (jm_i a1), some (jm_i a2), some (jm_i v8)], [jm_i v9], h9)) rfl ?_
        refine jm_E_n 1 (x' := (if v9 = 0 then 31 else 33, [some (jm_r 8 0), some (jm_i a0), some (jm_i a1), some (jm_i a2), some (jm_i v8)], [], h9)) rfl ?_
        refine jm_E_ite (fun hc => ?_) (fun hc => ?_)
        · replace H := H.1 hc
          refine jm_E_n 2 (x' := (38, [some (jm_r 8 0), some (jm_i a0), some (jm_i a1), some (jm_i a2), some (jm_i v8)], [jm_i (-2)], h9)) rfl ?_
          exact jm_E_ret rfl (by rw [H]; rfl)
        · replace H := H.2 hc
          refine jm_E_n 4 (x' := (37, [some (jm_r 8 0), some (jm_i a0), some (jm_i a1), some (jm_i a2), some (jm_i v8)], [jm_i a2, jm_i a1, jm_i a0, jm_r 8 0], h9)) rfl ?_
          obtain ⟨v10, h10, hR, H⟩ := H
          refine jm_E_call rfl (Nat.le_of_ble_eq_true rfl) (Nat.le_of_ble_eq_true rfl) rfl hR trivial ?_
          refine jm_E_eq (x := (38, [some (jm_r 8 0), some (jm_i a0), some (jm_i a1), some (jm_i a2), some (jm_i v8)], [jm_i v10], h10)) rfl ?_
          exact jm_E_ret rfl (by rw [H]; rfl)
      · replace H := H.2 hc
        refine jm_E_n 2 (x' := (23, [some (jm_r 8 0), some (jm_i a0), some (jm_i a1), some (jm_i a2), some (jm_i v8)], [jm_i v8, jm_r 8 0], h8)) rfl ?_
        obtain ⟨v11, h11, hR, H⟩ := H
        refine jm_E_call rfl (Nat.le_of_ble_eq_true rfl) (Nat.le_of_ble_eq_true rfl) rfl hR trivial ?_
        refine jm_E_eq (x := (24, [some (jm_r 8 0), some (jm_i a0), some (jm_i a1), some (jm_i a2), some (jm_i v8)], [jm_i v11], h11)) rfl ?_
        exact jm_E_ret rfl (by rw [H]; rfl)
    · replace H := H.2 hc
      refine jm_E_n 2 (x' := (17, [some (jm_r 8 0), some (jm_i a0), some (jm_i a1), some (jm_i a2), none], [jm_i 1, jm_i a0, jm_r 8 0], h7)) rfl ?_
      obtain ⟨v12, h12, hR, H⟩ := H
      refine jm_E_call rfl (Nat.le_of_ble_eq_true rfl) (Nat.le_of_ble_eq_true rfl) rfl hR trivial ?_
      refine jm_E_eq (x := (18, [some (jm_r 8 0), some (jm_i a0), some (jm_i a1), some (jm_i a2), none], [jm_i v12], h12)) rfl ?_
      refine jm_E_n 3 (x' := (if v12 = 0 then 25 else 21, [some (jm_r 8 0), some (jm_i a0), some (jm_i a1), some (jm_i a2), some (jm_i v12)], [], h12)) rfl ?_
      refine jm_E_ite (fun hc => ?_) (fun hc => ?_)
      · replace H := H.1 hc
        refine jm_E_n 4 (x' := (29, [some (jm_r 8 0), some (jm_i a0), some (jm_i a1), some (jm_i a2), some (jm_i v12)], [jm_i a2, jm_i a1, jm_i a0, jm_r 8 0], h12)) rfl ?_
        obtain ⟨v13, h13, hR, H⟩ := H
        refine jm_E_call rfl (Nat.le_of_ble_eq_true rfl) (Nat.le_of_ble_eq_true rfl) rfl hR trivial ?_
        refine jm_E_eq (x := (30, [some (jm_r 8 0), some (jm_i a0), some (jm_i a1), some (jm_i a2), some (jm_i v12)], [jm_i v13], h13)) rfl ?_
        refine jm_E_n 1 (x' := (if v13 = 0 then 31 else 33, [some (jm_r 8 0), some (jm_i a0), some (jm_i a1), some (jm_i a2), some (jm_i v12)], [], h13)) rfl ?_
        refine jm_E_ite (fun hc => ?_) (fun hc => ?_)
        · replace H := H.1 hc
          refine jm_E_n 2 (x' := (38, [some (jm_r 8 0), some (jm_i a0), some (jm_i a1), some (jm_i a2), some (jm_i v12)], [jm_i (-2)], h13)) rfl ?_
          exact jm_E_ret rfl (by rw [H]; rfl)
        · replace H := H.2 hc
          refine jm_E_n 4 (x' := (37, [some (jm_r 8 0), some (jm_i a0), some (jm_i a1), some (jm_i a2), some (jm_i v12)], [jm_i a2, jm_i a1, jm_i a0, jm_r 8 0], h13)) rfl ?_
          obtain ⟨v14, h14, hR, H⟩ := H
          refine jm_E_call rfl (Nat.le_of_ble_eq_true rfl) (Nat.le_of_ble_eq_true rfl) rfl hR trivial ?_
          refine jm_E_eq (x := (38, [some (jm_r 8 0), some (jm_i a0), some (jm_i a1), some (jm_i a2), some (jm_i v12)], [jm_i v14], h14)) rfl ?_
          exact jm_E_ret rfl (by rw [H]; rfl)
      · replace H := H.2 hc
        refine jm_E_n 2 (x' := (23, [some (jm_r 8 0), some (jm_i a0), some (jm_i a1), some (jm_i a2), some (jm_i v12)], [jm_i v12, jm_r 8 0], h12)) rfl ?_
        obtain ⟨v15, h15, hR, H⟩ := H
        refine jm_E_call rfl (Nat.le_of_ble_eq_true rfl) (Nat.le_of_ble_eq_true rfl) rfl hR trivial ?_
        refine jm_E_eq (x := (24, [some (jm_r 8 0), some (jm_i a0), some (jm_i a1), some (jm_i a2), some (jm_i v12)], [jm_i v15], h15)) rfl ?_
        exact jm_E_ret rfl (by rw [H]; rfl)
set_option maxRecDepth 100000 in
theorem wp_M_finishes_22 {x1 : Int32} {x2 : Int32} {x4 : Int32} {h : jm_H} {r : jm_Rs} (H :
  ∃ (v6 : Int32) (h6 : jm_H), m_M_has x1 x2 x4 h v6 h6 ∧
  (v6 = 0 →
    l_M_finishes_22 x1 x2 (x4 + (-1)) h6 r) ∧
  (¬ (v6 = 0) →
    ∃ (v7 : Int32) (h7 : jm_H), m_M_beginOf x1 x2 x4 h6 v7 h7 ∧
    ∃ (v8 : Int32) (h8 : jm_H), m_M_has x1 x2 x4 h7 v8 h8 ∧
    r = (some (jm_i (v7 + v8)), h8))) : l_M_finishes_22 x1 x2 x4 h r := by
  refine jm_E_n 4 (x' := (26, [some (jm_r 8 0), some (jm_i x1), some (jm_i x2), none, some (jm_i x4)], [jm_i x4, jm_i x2, jm_i x1, jm_r 8 0], h)) rfl ?_
  obtain ⟨v6, h6, hR, H⟩ := H
  refine jm_E_call rfl (Nat.le_of_ble_eq_true rfl) (Nat.le_of_ble_eq_true rfl) rfl hR trivial ?_
  refine jm_E_eq (x := (27, [some (jm_r 8 0), some (jm_i x1), some (jm_i x2), none, some (jm_i x4)], [jm_i v6], h6)) rfl ?_
  refine jm_E_n 1 (x' := (if v6 = 0 then 28 else 30, [some (jm_r 8 0), some (jm_i x1), some (jm_i x2), none, some (jm_i x4)], [], h6)) rfl ?_
  refine jm_E_ite (fun hc => ?_) (fun hc => ?_)
  · replace H := H.1 hc
    refine jm_E_n 2 (x' := (22, [some (jm_r 8 0), some (jm_i x1), some (jm_i x2), none, some (jm_i (x4 + (-1)))], [], h6)) rfl ?_
    exact H
  · replace H := H.2 hc
    refine jm_E_n 4 (x' := (34, [some (jm_r 8 0), some (jm_i x1), some (jm_i x2), none, some (jm_i x4)], [jm_i x4, jm_i x2, jm_i x1, jm_r 8 0], h6)) rfl ?_
    obtain ⟨v7, h7, hR, H⟩ := H
    refine jm_E_call rfl (Nat.le_of_ble_eq_true rfl) (Nat.le_of_ble_eq_true rfl) rfl hR trivial ?_
    refine jm_E_eq (x := (35, [some (jm_r 8 0), some (jm_i x1), some (jm_i x2), none, some (jm_i x4)], [jm_i v7], h7)) rfl ?_
    refine jm_E_n 4 (x' := (39, [some (jm_r 8 0), some (jm_i x1), some (jm_i x2), none, some (jm_i x4)], [jm_i x4, jm_i x2, jm_i x1, jm_r 8 0, jm_i v7], h7)) rfl ?_
    obtain ⟨v8, h8, hR, H⟩ := H
    refine jm_E_call rfl (Nat.le_of_ble_eq_true rfl) (Nat.le_of_ble_eq_true rfl) rfl hR trivial ?_
    refine jm_E_eq (x := (40, [some (jm_r 8 0), some (jm_i x1), some (jm_i x2), none, some (jm_i x4)], [jm_i v8, jm_i v7], h8)) rfl ?_
    refine jm_E_n 1 (x' := (41, [some (jm_r 8 0), some (jm_i x1), some (jm_i x2), none, some (jm_i x4)], [jm_i (v7 + v8)], h8)) rfl ?_
    exact jm_E_ret rfl (by rw [H]; rfl)
set_option maxRecDepth 100000 in
theorem wp_M_finishes {a0 : Int32} {a1 : Int32} {h : jm_H} {r : jm_Rs} (H :
  ∃ h1 : jm_H, m_M_anew h h1 ∧
  ∃ (v2 : Int32) (h2 : jm_H), m_M_isJob a0 a1 h1 v2 h2 ∧
  ∃ (v3 : Int32) (h3 : jm_H), m_M_tableWhy a0 v2 h2 v3 h3 ∧
  (v3 = 0 →
    ∃ (v4 : Int32) (h4 : jm_H), m_M_framesOf a0 h3 v4 h4 ∧
    l_M_finishes_22 a0 a1 (v4 - 1) h4 r) ∧
  (¬ (v3 = 0) →
    ∃ (v5 : Int32) (h5 : jm_H), m_M_no v3 h3 v5 h5 ∧
    r = (some (jm_i v5), h5))) : jm_R 156 [jm_r 8 0, jm_i a0, jm_i a1] h r := by
  refine jm_R_of hz_156 (Nat.le_of_ble_eq_true rfl) ?_
  show jm_E cod_156 (0, [some (jm_r 8 0), some (jm_i a0), some (jm_i a1), none, none], [], h) r
  refine jm_E_n 1 (x' := (1, [some (jm_r 8 0), some (jm_i a0), some (jm_i a1), none, none], [jm_r 8 0], h)) rfl ?_
  obtain ⟨h1, hR, H⟩ := H
  refine jm_E_call rfl (Nat.le_of_ble_eq_true rfl) (Nat.le_of_ble_eq_true rfl) rfl hR trivial ?_
  refine jm_E_eq (x := (2, [some (jm_r 8 0), some (jm_i a0), some (jm_i a1), none, none], [], h1)) rfl ?_
  refine jm_E_n 5 (x' := (7, [some (jm_r 8 0), some (jm_i a0), some (jm_i a1), none, none], [jm_i a1, jm_i a0, jm_r 8 0, jm_i a0, jm_r 8 0], h1)) rfl ?_
  obtain ⟨v2, h2, hR, H⟩ := H
  refine jm_E_call rfl (Nat.le_of_ble_eq_true rfl) (Nat.le_of_ble_eq_true rfl) rfl hR trivial ?_
  refine jm_E_eq (x := (8, [some (jm_r 8 0), some (jm_i a0), some (jm_i a1), none, none], [jm_i v2, jm_i a0, jm_r 8 0], h2)) rfl ?_
  obtain ⟨v3, h3, hR, H⟩ := H
  refine jm_E_call rfl (Nat.le_of_ble_eq_true rfl) (Nat.le_of_ble_eq_true rfl) rfl hR trivial ?_
  refine jm_E_eq (x := (9, [some (jm_r 8 0), some (jm_i a0), some (jm_i a1), none, none], [jm_i v3], h3)) rfl ?_
  refine jm_E_n 3 (x' := (if v3 = 0 then 16 else 12, [some (jm_r 8 0), some (jm_i a0), some (jm_i a1), some (jm_i v3), none], [], h3)) rfl ?_
  refine jm_E_ite (fun hc => ?_) (fun hc => ?_)
  · replace H := H.1 hc
    refine jm_E_n 2 (x' := (18, [some (jm_r 8 0), some (jm_i a0), some (jm_i a1), some (jm_i v3), none], [jm_i a0, jm_r 8 0], h3)) rfl ?_
    obtain ⟨v4, h4, hR, H⟩ := H
    refine jm_E_call rfl (Nat.le_of_ble_eq_true rfl) (Nat.le_of_ble_eq_true rfl) rfl hR trivial ?_
    refine jm_E_eq (x := (19, [some (jm_r 8 0), some (jm_i a0), some (jm_i a1), some (jm_i v3), none], [jm_i v4], h4)) rfl ?_
    refine jm_E_n 3 (x' := (22, [some (jm_r 8 0), some (jm_i a0), some (jm_i a1), some (jm_i v3), some (jm_i (v4 - 1))], [], h4)) rfl ?_
    exact jm_E_weak (jm_le_s (jm_le_s (jm_le_s (jm_le_n (jm_le_s jm_le_nil))))) H
  · replace H := H.2 hc
    refine jm_E_n 2 (x' := (14, [some (jm_r 8 0), some (jm_i a0), some (jm_i a1), some (jm_i v3), none], [jm_i v3, jm_r 8 0], h3)) rfl ?_
    obtain ⟨v5, h5, hR, H⟩ := H
    refine jm_E_call rfl (Nat.le_of_ble_eq_true rfl) (Nat.le_of_ble_eq_true rfl) rfl hR trivial ?_
    refine jm_E_eq (x := (15, [some (jm_r 8 0), some (jm_i a0), some (jm_i a1), some (jm_i v3), none], [jm_i v5], h5)) rfl ?_
    exact jm_E_ret rfl (by rw [H]; rfl)
set_option maxRecDepth 100000 in
theorem wp_M_slack {a0 : Int32} {a1 : Int32} {h : jm_H} {r : jm_Rs} (H :
  ∃ h1 : jm_H, m_M_anew h h1 ∧
  ∃ (v2 : Int32) (h2 : jm_H), m_M_isFrame a0 a1 h1 v2 h2 ∧
  ∃ (v3 : Int32) (h3 : jm_H), m_M_tableWhy a0 v2 h2 v3 h3 ∧
  (v3 = 0 →
    jm_in ((24 * a0) + a1) 72 ∧
    r = (some (jm_i (h3.1 55 0 (((24 * a0) + a1).toNatClampNeg))), h3)) ∧
  (¬ (v3 = 0) →
    ∃ (v4 : Int32) (h4 : jm_H), m_M_no v3 h3 v4 h4 ∧
    r = (some (jm_i v4), h4))) : jm_R 157 [jm_r 8 0, jm_i a0, jm_i a1] h r := by
  refine jm_R_of hz_157 (Nat.le_of_ble_eq_true rfl) ?_
  show jm_E cod_157 (0, [some (jm_r 8 0), some (jm_i a0), some (jm_i a1), none], [], h) r
  refine jm_E_n 1 (x' := (1, [some (jm_r 8 0), some (jm_i a0), some (jm_i a1), none], [jm_r 8 0], h)) rfl ?_
  obtain ⟨h1, hR, H⟩ := H
  refine jm_E_call rfl (Nat.le_of_ble_eq_true rfl) (Nat.le_of_ble_eq_true rfl) rfl hR trivial ?_
  refine jm_E_eq (x := (2, [some (jm_r 8 0), some (jm_i a0), some (jm_i a1), none], [], h1)) rfl ?_
  refine jm_E_n 5 (x' := (7, [some (jm_r 8 0), some (jm_i a0), some (jm_i a1), none], [jm_i a1, jm_i a0, jm_r 8 0, jm_i a0, jm_r 8 0], h1)) rfl ?_
  obtain ⟨v2, h2, hR, H⟩ := H
  refine jm_E_call rfl (Nat.le_of_ble_eq_true rfl) (Nat.le_of_ble_eq_true rfl) rfl hR trivial ?_
  refine jm_E_eq (x := (8, [some (jm_r 8 0), some (jm_i a0), some (jm_i a1), none], [jm_i v2, jm_i a0, jm_r 8 0], h2)) rfl ?_
  obtain ⟨v3, h3, hR, H⟩ := H
  refine jm_E_call rfl (Nat.le_of_ble_eq_true rfl) (Nat.le_of_ble_eq_true rfl) rfl hR trivial ?_
  refine jm_E_eq (x := (9, [some (jm_r 8 0), some (jm_i a0), some (jm_i a1), none], [jm_i v3], h3)) rfl ?_
  refine jm_E_n 3 (x' := (if v3 = 0 then 16 else 12, [some (jm_r 8 0), some (jm_i a0), some (jm_i a1), some (jm_i v3)], [], h3)) rfl ?_
  refine jm_E_ite (fun hc => ?_) (fun hc => ?_)
  · replace H := H.1 hc
    refine jm_E_n 7 (x' := (23, [some (jm_r 8 0), some (jm_i a0), some (jm_i a1), some (jm_i v3)], [jm_i ((24 * a0) + a1), jm_r 55 0], h3)) rfl ?_
    refine jm_E_iald rfl rfl H.1 ?_
    replace H := H.2
    refine jm_E_eq (x := (24, [some (jm_r 8 0), some (jm_i a0), some (jm_i a1), some (jm_i v3)], [jm_i (h3.1 55 0 (((24 * a0) + a1).toNatClampNeg))], h3)) rfl ?_
    exact jm_E_ret rfl (by rw [H]; rfl)
  · replace H := H.2 hc
    refine jm_E_n 2 (x' := (14, [some (jm_r 8 0), some (jm_i a0), some (jm_i a1), some (jm_i v3)], [jm_i v3, jm_r 8 0], h3)) rfl ?_
    obtain ⟨v4, h4, hR, H⟩ := H
    refine jm_E_call rfl (Nat.le_of_ble_eq_true rfl) (Nat.le_of_ble_eq_true rfl) rfl hR trivial ?_
    refine jm_E_eq (x := (15, [some (jm_r 8 0), some (jm_i a0), some (jm_i a1), some (jm_i v3)], [jm_i v4], h4)) rfl ?_
    refine jm_E_n 1 (x' := (24, [some (jm_r 8 0), some (jm_i a0), some (jm_i a1), some (jm_i v3)], [jm_i v4], h4)) rfl ?_
    exact jm_E_ret rfl (by rw [H]; rfl)
set_option maxRecDepth 100000 in
theorem wp_M_openOf_4 {x1 : Int32} {x2 : Int32} {x3 : Int32} {x4 : Int32} {h : jm_H} {r : jm_Rs} (H :
  jm_in x1 3 ∧
  ((h.1 42 0 x1.toNatClampNeg) ≤ x4 →
    r = (some (jm_i x3), h)) ∧
  (¬ ((h.1 42 0 x1.toNatClampNeg) ≤ x4) →
    l_M_openOf_14 x1 x2 x3 x4 0 x2 h r)) : l_M_openOf_4 x1 x2 x3 x4 h r := by
  refine jm_E_n 4 (x' := (8, [some (jm_r 8 0), some (jm_i x1), some (jm_i x2), some (jm_i x3), some (jm_i x4), none, none], [jm_i x1, jm_r 42 0, jm_i x4], h)) rfl ?_
  refine jm_E_iald rfl rfl H.1 ?_
  replace H := H.2
  refine jm_E_eq (x := (9, [some (jm_r 8 0), some (jm_i x1), some (jm_i x2), some (jm_i x3), some (jm_i x4), none, none], [jm_i (h.1 42 0 x1.toNatClampNeg), jm_i x4], h)) rfl ?_
  refine jm_E_n 1 (x' := (if (h.1 42 0 x1.toNatClampNeg) ≤ x4 then 56 else 10, [some (jm_r 8 0), some (jm_i x1), some (jm_i x2), some (jm_i x3), some (jm_i x4), none, none], [], h)) rfl ?_
  refine jm_E_ite (fun hc => ?_) (fun hc => ?_)
  · replace H := H.1 hc
    refine jm_E_n 1 (x' := (57, [some (jm_r 8 0), some (jm_i x1), some (jm_i x2), some (jm_i x3), some (jm_i x4), none, none], [jm_i x3], h)) rfl ?_
    exact jm_E_ret rfl (by rw [H]; rfl)
  · replace H := H.2 hc
    refine jm_E_n 4 (x' := (14, [some (jm_r 8 0), some (jm_i x1), some (jm_i x2), some (jm_i x3), some (jm_i x4), some (jm_i 0), some (jm_i x2)], [], h)) rfl ?_
    exact H
set_option maxRecDepth 100000 in
theorem wp_M_openOf_14 {x1 : Int32} {x2 : Int32} {x3 : Int32} {x4 : Int32} {x5 : Int32} {x6 : Int32} {h : jm_H} {r : jm_Rs} (H :
  ∃ (v1 : Int32) (h1 : jm_H), m_M_framesOf x1 h v1 h1 ∧
  (v1 ≤ x6 →
    (x5 ≤ 0 →
      l_M_openOf_4 x1 x2 (x3 ||| 0) (x4 + 1) h1 r) ∧
    (¬ (x5 ≤ 0) →
      jm_in ((24 * x1) + x4) 72 ∧
      jm_in x1 6 ∧
      (((h1.1 34 0 x1.toNatClampNeg) * x2) ≤ (h1.1 44 0 (((24 * x1) + x4).toNatClampNeg)) →
        l_M_openOf_4 x1 x2 (x3 ||| 0) (x4 + 1) h1 r) ∧
      (¬ (((h1.1 34 0 x1.toNatClampNeg) * x2) ≤ (h1.1 44 0 (((24 * x1) + x4).toNatClampNeg))) →
        l_M_openOf_4 x1 x2 (x3 ||| (1 <<< (x4 &&& 31))) (x4 + 1) h1 r))) ∧
  (¬ (v1 ≤ x6) →
    ∃ (v2 : Int32) (h2 : jm_H), m_M_has x1 x4 x6 h1 v2 h2 ∧
    l_M_openOf_14 x1 x2 x3 x4 (x5 + v2) (x6 + 1) h2 r)) : l_M_openOf_14 x1 x2 x3 x4 x5 x6 h r := by
  refine jm_E_n 3 (x' := (17, [some (jm_r 8 0), some (jm_i x1), some (jm_i x2), some (jm_i x3), some (jm_i x4), some (jm_i x5), some (jm_i x6)], [jm_i x1, jm_r 8 0, jm_i x6], h)) rfl ?_
  obtain ⟨v1, h1, hR, H⟩ := H
  refine jm_E_call rfl (Nat.le_of_ble_eq_true rfl) (Nat.le_of_ble_eq_true rfl) rfl hR trivial ?_
  refine jm_E_eq (x := (18, [some (jm_r 8 0), some (jm_i x1), some (jm_i x2), some (jm_i x3), some (jm_i x4), some (jm_i x5), some (jm_i x6)], [jm_i v1, jm_i x6], h1)) rfl ?_
  refine jm_E_n 1 (x' := (if v1 ≤ x6 then 29 else 19, [some (jm_r 8 0), some (jm_i x1), some (jm_i x2), some (jm_i x3), some (jm_i x4), some (jm_i x5), some (jm_i x6)], [], h1)) rfl ?_
  refine jm_E_ite (fun hc => ?_) (fun hc => ?_)
  · replace H := H.1 hc
    refine jm_E_n 3 (x' := (if x5 ≤ 0 then 51 else 32, [some (jm_r 8 0), some (jm_i x1), some (jm_i x2), some (jm_i x3), some (jm_i x4), some (jm_i x5), some (jm_i x6)], [jm_i x3], h1)) rfl ?_
    refine jm_E_ite (fun hc => ?_) (fun hc => ?_)
    · replace H := H.1 hc
      refine jm_E_n 5 (x' := (4, [some (jm_r 8 0), some (jm_i x1), some (jm_i x2), some (jm_i (x3 ||| 0)), some (jm_i (x4 + 1)), some (jm_i x5), some (jm_i x6)], [], h1)) rfl ?_
      exact jm_E_weak (jm_le_s (jm_le_s (jm_le_s (jm_le_s (jm_le_s (jm_le_n (jm_le_n jm_le_nil))))))) H
    · replace H := H.2 hc
      refine jm_E_n 7 (x' := (39, [some (jm_r 8 0), some (jm_i x1), some (jm_i x2), some (jm_i x3), some (jm_i x4), some (jm_i x5), some (jm_i x6)], [jm_i ((24 * x1) + x4), jm_r 44 0, jm_i x3], h1)) rfl ?_
      refine jm_E_iald rfl rfl H.1 ?_
      replace H := H.2
      refine jm_E_eq (x := (40, [some (jm_r 8 0), some (jm_i x1), some (jm_i x2), some (jm_i x3), some (jm_i x4), some (jm_i x5), some (jm_i x6)], [jm_i (h1.1 44 0 (((24 * x1) + x4).toNatClampNeg)), jm_i x3], h1)) rfl ?_
      refine jm_E_n 3 (x' := (43, [some (jm_r 8 0), some (jm_i x1), some (jm_i x2), some (jm_i x3), some (jm_i x4), some (jm_i x5), some (jm_i x6)], [jm_i x1, jm_r 34 0, jm_i (h1.1 44 0 (((24 * x1) + x4).toNatClampNeg)), jm_i x3], h1)) rfl ?_
      refine jm_E_iald rfl rfl H.1 ?_
      replace H := H.2
      refine jm_E_eq (x := (44, [some (jm_r 8 0), some (jm_i x1), some (jm_i x2), some (jm_i x3), some (jm_i x4), some (jm_i x5), some (jm_i x6)], [jm_i (h1.1 34 0 x1.toNatClampNeg), jm_i (h1.1 44 0 (((24 * x1) + x4).toNatClampNeg)), jm_i x3], h1)) rfl ?_
      refine jm_E_n 3 (x' := (if ((h1.1 34 0 x1.toNatClampNeg) * x2) ≤ (h1.1 44 0 (((24 * x1) + x4).toNatClampNeg)) then 51 else 47, [some (jm_r 8 0), some (jm_i x1), some (jm_i x2), some (jm_i x3), some (jm_i x4), some (jm_i x5), some (jm_i x6)], [jm_i x3], h1)) rfl ?_
      refine jm_E_ite (fun hc => ?_) (fun hc => ?_)
      · replace H := H.1 hc
        refine jm_E_n 5 (x' := (4, [some (jm_r 8 0), some (jm_i x1), some (jm_i x2), some (jm_i (x3 ||| 0)), some (jm_i (x4 + 1)), some (jm_i x5), some (jm_i x6)], [], h1)) rfl ?_
        exact jm_E_weak (jm_le_s (jm_le_s (jm_le_s (jm_le_s (jm_le_s (jm_le_n (jm_le_n jm_le_nil))))))) H
      · replace H := H.2 hc
        refine jm_E_n 8 (x' := (4, [some (jm_r 8 0), some (jm_i x1), some (jm_i x2), some (jm_i (x3 ||| (1 <<< (x4 &&& 31)))), some (jm_i (x4 + 1)), some (jm_i x5), some (jm_i x6)], [], h1)) rfl ?_
        exact jm_E_weak (jm_le_s (jm_le_s (jm_le_s (jm_le_s (jm_le_s (jm_le_n (jm_le_n jm_le_nil))))))) H
  · replace H := H.2 hc
    refine jm_E_n 5 (x' := (24, [some (jm_r 8 0), some (jm_i x1), some (jm_i x2), some (jm_i x3), some (jm_i x4), some (jm_i x5), some (jm_i x6)], [jm_i x6, jm_i x4, jm_i x1, jm_r 8 0, jm_i x5], h1)) rfl ?_
    obtain ⟨v2, h2, hR, H⟩ := H
    refine jm_E_call rfl (Nat.le_of_ble_eq_true rfl) (Nat.le_of_ble_eq_true rfl) rfl hR trivial ?_
    refine jm_E_eq (x := (25, [some (jm_r 8 0), some (jm_i x1), some (jm_i x2), some (jm_i x3), some (jm_i x4), some (jm_i x5), some (jm_i x6)], [jm_i v2, jm_i x5], h2)) rfl ?_
    refine jm_E_n 4 (x' := (14, [some (jm_r 8 0), some (jm_i x1), some (jm_i x2), some (jm_i x3), some (jm_i x4), some (jm_i (x5 + v2)), some (jm_i (x6 + 1))], [], h2)) rfl ?_
    exact H
set_option maxRecDepth 100000 in
theorem wp_M_openOf {a0 : Int32} {a1 : Int32} {h : jm_H} {r : jm_Rs} (H :
  l_M_openOf_4 a0 a1 0 0 h r) : jm_R 158 [jm_r 8 0, jm_i a0, jm_i a1] h r := by
  refine jm_R_of hz_158 (Nat.le_of_ble_eq_true rfl) ?_
  show jm_E cod_158 (0, [some (jm_r 8 0), some (jm_i a0), some (jm_i a1), none, none, none, none], [], h) r
  refine jm_E_n 4 (x' := (4, [some (jm_r 8 0), some (jm_i a0), some (jm_i a1), some (jm_i 0), some (jm_i 0), none, none], [], h)) rfl ?_
  exact H
