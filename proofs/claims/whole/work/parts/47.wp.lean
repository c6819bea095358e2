set_option maxRecDepth 100000 in
theorem wp_M_openAt {a0 : Int32} {a1 : Int32} {h : jm_H} {r : jm_Rs} (H :
  ∃ h1 : jm_H, m_M_anew h h1 ∧
  ∃ (v2 : Int32) (h2 : jm_H), m_M_isFrame a0 a1 h1 v2 h2 ∧
  ∃ (v3 : Int32) (h3 : jm_H), m_M_tableWhy a0 v2 h2 v3 h3 ∧
  (v3 = 0 →
    ∃ (v4 : Int32) (h4 : jm_H), m_M_openOf a0 a1 h3 v4 h4 ∧
    r = (some (jm_i v4), h4)) ∧
  (¬ (v3 = 0) →
    ∃ (v5 : Int32) (h5 : jm_H), m_M_no v3 h3 v5 h5 ∧
    r = (some (jm_i v5), h5))) : jm_R 159 [jm_r 8 0, jm_i a0, jm_i a1] h r := by
  refine jm_R_of hz_159 (Nat.le_of_ble_eq_true rfl) ?_
  show jm_E cod_159 (0, [some (jm_r 8 0), some (jm_i a0), some (jm_i a1), none], [], h) r
  refine jm_E_n 1 (x' := (1, [some (jm_r 8 0), some (jm_i a0), some (jm_i a1), none], [jm_r 8 0], h)) rfl ?_
  obtain ⟨h1, hR, H⟩ := H
  refine jm_E_call rfl (Nat.le_of_ble_eq_true rfl) (Nat.le_of_ble_eq_true rfl) rfl hR trivial ?_
  refine jm_E_eq (x := (2, [some (jm_r 8 0), some (jm_i a0), some (jm_i a1), none], [], h1)) rfl ?_
  refine jm_E_n 5 (x' := (7, [some (jm_r 8 0), some (jm_i a0), some (jm_i a1), none], [jm_i a1, jm_i a0, jm_r 8 0, jm_i a0, jm_r 8 0], h1)) rfl ?_
  obtain ⟨v2, h2, hR, H⟩ := H
  refine jm_E_call rfl (Nat.le_of_ble_eq_true rfl) (Nat.le_of_ble_eq_true rfl) rfl hR trivial ?_
  refine jm_E_eq (x := (8, [some (jm_r 8 0), some (jm_i a0), some (jm_i a1), none], [jm_i v2, jm_i a0, jm_r 8 0], h2)) rfl ?_
  obtain ⟨v3, h3, hR, H⟩ := H
  refine jm_E_call rfl (Nat.le_of_ble_eq_true rfl) (Nat.le_of_ble_eq_true rfl) rfl hR trivial ?_
  refine jm_E_eq (x := (9, [some (jm_r 8 0), some (jm_i a0), some (jm_i a1), none], [jm_i v3], h3)) rfl ?_
  refine jm_E_n 3 (x' := (if v3 = 0 then 16 else 12, [some (jm_r 8 0), some (jm_i a0), some (jm_i a1), some (jm_i v3)], [], h3)) rfl ?_
  refine jm_E_ite (fun hc => ?_) (fun hc => ?_)
  · replace H := H.1 hc
    refine jm_E_n 3 (x' := (19, [some (jm_r 8 0), some (jm_i a0), some (jm_i a1), some (jm_i v3)], [jm_i a1, jm_i a0, jm_r 8 0], h3)) rfl ?_
    obtain ⟨v4, h4, hR, H⟩ := H
    refine jm_E_call rfl (Nat.le_of_ble_eq_true rfl) (Nat.le_of_ble_eq_true rfl) rfl hR trivial ?_
    refine jm_E_eq (x := (20, [some (jm_r 8 0), some (jm_i a0), some (jm_i a1), some (jm_i v3)], [jm_i v4], h4)) rfl ?_
    exact jm_E_ret rfl (by rw [H]; rfl)
  · replace H := H.2 hc
    refine jm_E_n 2 (x' := (14, [some (jm_r 8 0), some (jm_i a0), some (jm_i a1), some (jm_i v3)], [jm_i v3, jm_r 8 0], h3)) rfl ?_
    obtain ⟨v5, h5, hR, H⟩ := H
    refine jm_E_call rfl (Nat.le_of_ble_eq_true rfl) (Nat.le_of_ble_eq_true rfl) rfl hR trivial ?_
    refine jm_E_eq (x := (15, [some (jm_r 8 0), some (jm_i a0), some (jm_i a1), some (jm_i v3)], [jm_i v5], h5)) rfl ?_
    refine jm_E_n 1 (x' := (20, [some (jm_r 8 0), some (jm_i a0), some (jm_i a1), some (jm_i v3)], [jm_i v5], h5)) rfl ?_
    exact jm_E_ret rfl (by rw [H]; rfl)
set_option maxRecDepth 100000 in
theorem wp_M_clockWhy {a0 : Int32} {h : jm_H} {r : jm_Rs} (H :
  ((h.1 8 0 6) = 0 →
    r = (some (jm_i 1), h)) ∧
  (¬ ((h.1 8 0 6) = 0) →
    (a0 = 0 →
      r = (some (jm_i 1), h)) ∧
    (¬ (a0 = 0) →
      ∃ (v1 : Int32) (h1 : jm_H), m_M_isLaid (h.1 56 0 1) h v1 h1 ∧
      (v1 = 0 →
        r = (some (jm_i 5), h1)) ∧
      (¬ (v1 = 0) →
        r = (some (jm_i 0), h1))))) : jm_R 161 [jm_r 8 0, jm_i a0] h r := by
  refine jm_R_of hz_161 (Nat.le_of_ble_eq_true rfl) ?_
  show jm_E cod_161 (0, [some (jm_r 8 0), some (jm_i a0)], [], h) r
  refine jm_E_n 3 (x' := (if (h.1 8 0 6) = 0 then 5 else 3, [some (jm_r 8 0), some (jm_i a0)], [], h)) rfl ?_
  refine jm_E_ite (fun hc => ?_) (fun hc => ?_)
  · replace H := H.1 hc
    refine jm_E_n 2 (x' := (17, [some (jm_r 8 0), some (jm_i a0)], [jm_i 1], h)) rfl ?_
    exact jm_E_ret rfl (by rw [H]; rfl)
  · replace H := H.2 hc
    refine jm_E_n 2 (x' := (if a0 = 0 then 5 else 7, [some (jm_r 8 0), some (jm_i a0)], [], h)) rfl ?_
    refine jm_E_ite (fun hc => ?_) (fun hc => ?_)
    · replace H := H.1 hc
      refine jm_E_n 2 (x' := (17, [some (jm_r 8 0), some (jm_i a0)], [jm_i 1], h)) rfl ?_
      exact jm_E_ret rfl (by rw [H]; rfl)
    · replace H := H.2 hc
      refine jm_E_n 4 (x' := (11, [some (jm_r 8 0), some (jm_i a0)], [jm_i 1, jm_r 56 0, jm_r 8 0], h)) rfl ?_
      refine jm_E_iald rfl rfl (by decide) ?_
      refine jm_E_eq (x := (12, [some (jm_r 8 0), some (jm_i a0)], [jm_i (h.1 56 0 1), jm_r 8 0], h)) rfl ?_
      obtain ⟨v1, h1, hR, H⟩ := H
      refine jm_E_call rfl (Nat.le_of_ble_eq_true rfl) (Nat.le_of_ble_eq_true rfl) rfl hR trivial ?_
      refine jm_E_eq (x := (13, [some (jm_r 8 0), some (jm_i a0)], [jm_i v1], h1)) rfl ?_
      refine jm_E_n 1 (x' := (if v1 = 0 then 16 else 14, [some (jm_r 8 0), some (jm_i a0)], [], h1)) rfl ?_
      refine jm_E_ite (fun hc => ?_) (fun hc => ?_)
      · replace H := H.1 hc
        refine jm_E_n 1 (x' := (17, [some (jm_r 8 0), some (jm_i a0)], [jm_i 5], h1)) rfl ?_
        exact jm_E_ret rfl (by rw [H]; rfl)
      · replace H := H.2 hc
        refine jm_E_n 2 (x' := (17, [some (jm_r 8 0), some (jm_i a0)], [jm_i 0], h1)) rfl ?_
        exact jm_E_ret rfl (by rw [H]; rfl)
set_option maxRecDepth 100000 in
theorem wp_M_turns  {h : jm_H} {r : jm_Rs} (H :
  ((h.1 8 0 47) = (-2) →
    r = (none, h)) ∧
  (¬ ((h.1 8 0 47) = (-2)) →
    ((h.1 8 0 44) = (h.1 8 0 48) →
      r = (none, (jm_sI (jm_sI h 8 0 45 (h.1 8 0 47)) 8 0 46 0))) ∧
    (¬ ((h.1 8 0 44) = (h.1 8 0 48)) →
      r = (none, h)))) : jm_R 162 [jm_r 8 0] h r := by
  refine jm_R_of hz_162 (Nat.le_of_ble_eq_true rfl) ?_
  show jm_E cod_162 (0, [some (jm_r 8 0)], [], h) r
  refine jm_E_n 4 (x' := (if (h.1 8 0 47) = (-2) then 16 else 4, [some (jm_r 8 0)], [], h)) rfl ?_
  refine jm_E_ite (fun hc => ?_) (fun hc => ?_)
  · replace H := H.1 hc
    exact jm_E_ret rfl (by rw [H]; rfl)
  · replace H := H.2 hc
    refine jm_E_n 5 (x' := (if (h.1 8 0 44) = (h.1 8 0 48) then 9 else 16, [some (jm_r 8 0)], [], h)) rfl ?_
    refine jm_E_ite (fun hc => ?_) (fun hc => ?_)
    · replace H := H.1 hc
      refine jm_E_n 7 (x' := (16, [some (jm_r 8 0)], [], (jm_sI (jm_sI h 8 0 45 (h.1 8 0 47)) 8 0 46 0))) rfl ?_
      exact jm_E_ret rfl (by rw [H]; rfl)
    · replace H := H.2 hc
      exact jm_E_ret rfl (by rw [H]; rfl)
set_option maxRecDepth 100000 in
theorem wp_M_looks {a0 : Int32} {a1 : Int32} {h : jm_H} {r : jm_Rs} (H :
  ∃ h1 : jm_H, m_M_turns (jm_sI (jm_sI (jm_sI (jm_sI (jm_sI h 8 0 47 a0) 8 0 48 a1) 8 0 44 (h.1 56 0 0)) 8 0 45 (h.1 56 0 1)) 8 0 46 (h.1 56 0 2)) h1 ∧
  r = (none, h1)) : jm_R 163 [jm_r 8 0, jm_i a0, jm_i a1] h r := by
  refine jm_R_of hz_163 (Nat.le_of_ble_eq_true rfl) ?_
  show jm_E cod_163 (0, [some (jm_r 8 0), some (jm_i a0), some (jm_i a1)], [], h) r
  refine jm_E_n 10 (x' := (10, [some (jm_r 8 0), some (jm_i a0), some (jm_i a1)], [jm_i 0, jm_r 56 0, jm_r 8 0], (jm_sI (jm_sI h 8 0 47 a0) 8 0 48 a1))) rfl ?_
  refine jm_E_iald rfl rfl (by decide) ?_
  refine jm_E_eq (x := (11, [some (jm_r 8 0), some (jm_i a0), some (jm_i a1)], [jm_i (h.1 56 0 0), jm_r 8 0], (jm_sI (jm_sI h 8 0 47 a0) 8 0 48 a1))) rfl ?_
  refine jm_E_n 5 (x' := (16, [some (jm_r 8 0), some (jm_i a0), some (jm_i a1)], [jm_i 1, jm_r 56 0, jm_r 8 0], (jm_sI (jm_sI (jm_sI h 8 0 47 a0) 8 0 48 a1) 8 0 44 (h.1 56 0 0)))) rfl ?_
  refine jm_E_iald rfl rfl (by decide) ?_
  refine jm_E_eq (x := (17, [some (jm_r 8 0), some (jm_i a0), some (jm_i a1)], [jm_i (h.1 56 0 1), jm_r 8 0], (jm_sI (jm_sI (jm_sI h 8 0 47 a0) 8 0 48 a1) 8 0 44 (h.1 56 0 0)))) rfl ?_
  refine jm_E_n 5 (x' := (22, [some (jm_r 8 0), some (jm_i a0), some (jm_i a1)], [jm_i 2, jm_r 56 0, jm_r 8 0], (jm_sI (jm_sI (jm_sI (jm_sI h 8 0 47 a0) 8 0 48 a1) 8 0 44 (h.1 56 0 0)) 8 0 45 (h.1 56 0 1)))) rfl ?_
  refine jm_E_iald rfl rfl (by decide) ?_
  refine jm_E_eq (x := (23, [some (jm_r 8 0), some (jm_i a0), some (jm_i a1)], [jm_i (h.1 56 0 2), jm_r 8 0], (jm_sI (jm_sI (jm_sI (jm_sI h 8 0 47 a0) 8 0 48 a1) 8 0 44 (h.1 56 0 0)) 8 0 45 (h.1 56 0 1)))) rfl ?_
  refine jm_E_n 2 (x' := (25, [some (jm_r 8 0), some (jm_i a0), some (jm_i a1)], [jm_r 8 0], (jm_sI (jm_sI (jm_sI (jm_sI (jm_sI h 8 0 47 a0) 8 0 48 a1) 8 0 44 (h.1 56 0 0)) 8 0 45 (h.1 56 0 1)) 8 0 46 (h.1 56 0 2)))) rfl ?_
  obtain ⟨h1, hR, H⟩ := H
  refine jm_E_call rfl (Nat.le_of_ble_eq_true rfl) (Nat.le_of_ble_eq_true rfl) rfl hR trivial ?_
  refine jm_E_eq (x := (26, [some (jm_r 8 0), some (jm_i a0), some (jm_i a1)], [], h1)) rfl ?_
  exact jm_E_ret rfl (by rw [H]; rfl)
set_option maxRecDepth 100000 in
theorem wp_M_looksAhead  {h : jm_H} {r : jm_Rs} (H :
  ∃ h1 : jm_H, m_M_looks (h.1 56 0 7) (h.1 56 0 8) h h1 ∧
  r = (none, h1)) : jm_R 164 [jm_r 8 0] h r := by
  refine jm_R_of hz_164 (Nat.le_of_ble_eq_true rfl) ?_
  show jm_E cod_164 (0, [some (jm_r 8 0)], [], h) r
  refine jm_E_n 4 (x' := (4, [some (jm_r 8 0)], [jm_i 7, jm_r 56 0, jm_r 8 0], h)) rfl ?_
  refine jm_E_iald rfl rfl (by decide) ?_
  refine jm_E_eq (x := (5, [some (jm_r 8 0)], [jm_i (h.1 56 0 7), jm_r 8 0], h)) rfl ?_
  refine jm_E_n 3 (x' := (8, [some (jm_r 8 0)], [jm_i 8, jm_r 56 0, jm_i (h.1 56 0 7), jm_r 8 0], h)) rfl ?_
  refine jm_E_iald rfl rfl (by decide) ?_
  refine jm_E_eq (x := (9, [some (jm_r 8 0)], [jm_i (h.1 56 0 8), jm_i (h.1 56 0 7), jm_r 8 0], h)) rfl ?_
  obtain ⟨h1, hR, H⟩ := H
  refine jm_E_call rfl (Nat.le_of_ble_eq_true rfl) (Nat.le_of_ble_eq_true rfl) rfl hR trivial ?_
  refine jm_E_eq (x := (10, [some (jm_r 8 0)], [], h1)) rfl ?_
  exact jm_E_ret rfl (by rw [H]; rfl)
set_option maxRecDepth 100000 in
theorem wp_M_seenEnd  {h : jm_H} {r : jm_Rs} (H :
  jm_in (h.1 8 0 45) 6 ∧
  r = (some (jm_i ((h.1 8 0 44) + (h.1 34 0 ((h.1 8 0 45).toNatClampNeg)))), h)) : jm_R 165 [jm_r 8 0] h r := by
  refine jm_R_of hz_165 (Nat.le_of_ble_eq_true rfl) ?_
  show jm_E cod_165 (0, [some (jm_r 8 0)], [], h) r
  refine jm_E_n 6 (x' := (6, [some (jm_r 8 0)], [jm_i (h.1 8 0 45), jm_r 34 0, jm_i (h.1 8 0 44)], h)) rfl ?_
  refine jm_E_iald rfl rfl H.1 ?_
  replace H := H.2
  refine jm_E_eq (x := (7, [some (jm_r 8 0)], [jm_i (h.1 34 0 ((h.1 8 0 45).toNatClampNeg)), jm_i (h.1 8 0 44)], h)) rfl ?_
  refine jm_E_n 1 (x' := (8, [some (jm_r 8 0)], [jm_i ((h.1 8 0 44) + (h.1 34 0 ((h.1 8 0 45).toNatClampNeg)))], h)) rfl ?_
  exact jm_E_ret rfl (by rw [H]; rfl)
set_option maxRecDepth 100000 in
theorem wp_M_seenSlack  {h : jm_H} {r : jm_Rs} (H :
  jm_in ((24 * (h.1 8 0 45)) + (h.1 8 0 46)) 72 ∧
  r = (some (jm_i (h.1 55 0 (((24 * (h.1 8 0 45)) + (h.1 8 0 46)).toNatClampNeg))), h)) : jm_R 166 [jm_r 8 0] h r := by
  refine jm_R_of hz_166 (Nat.le_of_ble_eq_true rfl) ?_
  show jm_E cod_166 (0, [some (jm_r 8 0)], [], h) r
  refine jm_E_n 9 (x' := (9, [some (jm_r 8 0)], [jm_i ((24 * (h.1 8 0 45)) + (h.1 8 0 46)), jm_r 55 0], h)) rfl ?_
  refine jm_E_iald rfl rfl H.1 ?_
  replace H := H.2
  refine jm_E_eq (x := (10, [some (jm_r 8 0)], [jm_i (h.1 55 0 (((24 * (h.1 8 0 45)) + (h.1 8 0 46)).toNatClampNeg))], h)) rfl ?_
  exact jm_E_ret rfl (by rw [H]; rfl)
set_option maxRecDepth 100000 in
theorem wp_M_goesOn  {h : jm_H} {r : jm_Rs} (H :
  ∃ (v1 : Int32) (h1 : jm_H), m_M_seenEnd h v1 h1 ∧
  ∃ (v2 : Int32) (h2 : jm_H), m_M_framesOf (h1.1 8 0 45) (jm_sI (jm_sI h1 8 0 44 v1) 8 0 46 ((h1.1 8 0 46) + 1)) v2 h2 ∧
  (((h1.1 8 0 46) + 1) = v2 →
    ∃ h3 : jm_H, m_M_turns (jm_sI h2 8 0 46 0) h3 ∧
    r = (none, h3)) ∧
  (¬ (((h1.1 8 0 46) + 1) = v2) →
    ∃ h4 : jm_H, m_M_turns h2 h4 ∧
    r = (none, h4))) : jm_R 167 [jm_r 8 0] h r := by
  refine jm_R_of hz_167 (Nat.le_of_ble_eq_true rfl) ?_
  show jm_E cod_167 (0, [some (jm_r 8 0)], [], h) r
  refine jm_E_n 2 (x' := (2, [some (jm_r 8 0)], [jm_r 8 0, jm_r 8 0], h)) rfl ?_
  obtain ⟨v1, h1, hR, H⟩ := H
  refine jm_E_call rfl (Nat.le_of_ble_eq_true rfl) (Nat.le_of_ble_eq_true rfl) rfl hR trivial ?_
  refine jm_E_eq (x := (3, [some (jm_r 8 0)], [jm_i v1, jm_r 8 0], h1)) rfl ?_
  refine jm_E_n 12 (x' := (15, [some (jm_r 8 0)], [jm_i (h1.1 8 0 45), jm_r 8 0, jm_i ((h1.1 8 0 46) + 1)], (jm_sI (jm_sI h1 8 0 44 v1) 8 0 46 ((h1.1 8 0 46) + 1)))) rfl ?_
  obtain ⟨v2, h2, hR, H⟩ := H
  refine jm_E_call rfl (Nat.le_of_ble_eq_true rfl) (Nat.le_of_ble_eq_true rfl) rfl hR trivial ?_
  refine jm_E_eq (x := (16, [some (jm_r 8 0)], [jm_i v2, jm_i ((h1.1 8 0 46) + 1)], h2)) rfl ?_
  refine jm_E_n 1 (x' := (if ((h1.1 8 0 46) + 1) = v2 then 17 else 20, [some (jm_r 8 0)], [], h2)) rfl ?_
  refine jm_E_ite (fun hc => ?_) (fun hc => ?_)
  · replace H := H.1 hc
    refine jm_E_n 4 (x' := (21, [some (jm_r 8 0)], [jm_r 8 0], (jm_sI h2 8 0 46 0))) rfl ?_
    obtain ⟨h3, hR, H⟩ := H
    refine jm_E_call rfl (Nat.le_of_ble_eq_true rfl) (Nat.le_of_ble_eq_true rfl) rfl hR trivial ?_
    refine jm_E_eq (x := (22, [some (jm_r 8 0)], [], h3)) rfl ?_
    exact jm_E_ret rfl (by rw [H]; rfl)
  · replace H := H.2 hc
    refine jm_E_n 1 (x' := (21, [some (jm_r 8 0)], [jm_r 8 0], h2)) rfl ?_
    obtain ⟨h4, hR, H⟩ := H
    refine jm_E_call rfl (Nat.le_of_ble_eq_true rfl) (Nat.le_of_ble_eq_true rfl) rfl hR trivial ?_
    refine jm_E_eq (x := (22, [some (jm_r 8 0)], [], h4)) rfl ?_
    exact jm_E_ret rfl (by rw [H]; rfl)
set_option maxRecDepth 100000 in
theorem wp_M_areInTime_9 {x2 : Int32} {x3 : Int32} {x4 : Int32} {x5 : Int32} {h : jm_H} {r : jm_Rs} (H :
  ((h.1 56 0 3) ≤ x5 →
    narrow .boolean (.int x4) = .int x4 ∧ r = (some (jm_i x4), h)) ∧
  (¬ ((h.1 56 0 3) ≤ x5) →
    (x4 = 0 →
      narrow .boolean (.int x4) = .int x4 ∧ r = (some (jm_i x4), h)) ∧
    (¬ (x4 = 0) →
      l_M_areInTime_17 x2 x3 x5 h r))) : l_M_areInTime_9 x2 x3 x4 x5 h r := by
  refine jm_E_n 4 (x' := (13, [some (jm_r 8 0), none, some (jm_i x2), some (jm_i x3), some (jm_i x4), some (jm_i x5), none], [jm_i 3, jm_r 56 0, jm_i x5], h)) rfl ?_
  refine jm_E_iald rfl rfl (by decide) ?_
  refine jm_E_eq (x := (14, [some (jm_r 8 0), none, some (jm_i x2), some (jm_i x3), some (jm_i x4), some (jm_i x5), none], [jm_i (h.1 56 0 3), jm_i x5], h)) rfl ?_
  refine jm_E_n 1 (x' := (if (h.1 56 0 3) ≤ x5 then 81 else 15, [some (jm_r 8 0), none, some (jm_i x2), some (jm_i x3), some (jm_i x4), some (jm_i x5), none], [], h)) rfl ?_
  refine jm_E_ite (fun hc => ?_) (fun hc => ?_)
  · replace H := H.1 hc
    refine jm_E_n 1 (x' := (82, [some (jm_r 8 0), none, some (jm_i x2), some (jm_i x3), some (jm_i x4), some (jm_i x5), none], [jm_i x4], h)) rfl ?_
    exact jm_E_ret rfl (by rw [H.2]; exact if_pos H.1)
  · replace H := H.2 hc
    refine jm_E_n 2 (x' := (if x4 = 0 then 81 else 17, [some (jm_r 8 0), none, some (jm_i x2), some (jm_i x3), some (jm_i x4), some (jm_i x5), none], [], h)) rfl ?_
    refine jm_E_ite (fun hc => ?_) (fun hc => ?_)
    · replace H := H.1 hc
      refine jm_E_n 1 (x' := (82, [some (jm_r 8 0), none, some (jm_i x2), some (jm_i x3), some (jm_i x4), some (jm_i x5), none], [jm_i x4], h)) rfl ?_
      exact jm_E_ret rfl (by rw [H.2]; exact if_pos H.1)
    · replace H := H.2 hc
      exact jm_E_weak (jm_le_s (jm_le_n (jm_le_s (jm_le_s (jm_le_n (jm_le_s (jm_le_n jm_le_nil))))))) H
set_option maxRecDepth 100000 in
theorem wp_M_areInTime_17 {x2 : Int32} {x3 : Int32} {x5 : Int32} {h : jm_H} {r : jm_Rs} (H :
  ∃ (v1 : Int32) (h1 : jm_H), m_M_seenEnd h v1 h1 ∧
  jm_in (19 + x5) 28 ∧
  ((h1.1 56 0 ((19 + x5).toNatClampNeg)) < v1 →
    jm_in (10 + x5) 28 ∧
    (x5 = ((h1.1 56 0 3) - 1) →
      (x2 < (x3 + (h1.1 56 0 ((10 + x5).toNatClampNeg))) →
        l_M_areInTime_9 x2 (x3 + (h1.1 56 0 ((10 + x5).toNatClampNeg))) 0 (x5 + 1) h1 r) ∧
      (¬ (x2 < (x3 + (h1.1 56 0 ((10 + x5).toNatClampNeg)))) →
        l_M_areInTime_9 x2 (x3 + (h1.1 56 0 ((10 + x5).toNatClampNeg))) 1 (x5 + 1) h1 r)) ∧
    (¬ (x5 = ((h1.1 56 0 3) - 1)) →
      jm_in ((19 + x5) + 1) 28 ∧
      jm_in (19 + x5) 28 ∧
      ((h1.1 56 0 (((19 + x5) + 1).toNatClampNeg)) ≤ (h1.1 56 0 ((19 + x5).toNatClampNeg)) →
        l_M_areInTime_9 x2 (x3 + (h1.1 56 0 ((10 + x5).toNatClampNeg))) 1 (x5 + 1) h1 r) ∧
      (¬ ((h1.1 56 0 (((19 + x5) + 1).toNatClampNeg)) ≤ (h1.1 56 0 ((19 + x5).toNatClampNeg))) →
        (x2 < (x3 + (h1.1 56 0 ((10 + x5).toNatClampNeg))) →
          l_M_areInTime_9 x2 (x3 + (h1.1 56 0 ((10 + x5).toNatClampNeg))) 0 (x5 + 1) h1 r) ∧
        (¬ (x2 < (x3 + (h1.1 56 0 ((10 + x5).toNatClampNeg)))) →
          l_M_areInTime_9 x2 (x3 + (h1.1 56 0 ((10 + x5).toNatClampNeg))) 1 (x5 + 1) h1 r)))) ∧
  (¬ ((h1.1 56 0 ((19 + x5).toNatClampNeg)) < v1) →
    ∃ (v2 : Int32) (h2 : jm_H), m_M_seenSlack h1 v2 h2 ∧
    ∃ h3 : jm_H, m_M_goesOn h2 h3 ∧
    l_M_areInTime_17 (x2 + v2) x3 x5 h3 r)) : l_M_areInTime_17 x2 x3 x5 h r := by
  refine jm_E_n 1 (x' := (18, [some (jm_r 8 0), none, some (jm_i x2), some (jm_i x3), none, some (jm_i x5), none], [jm_r 8 0], h)) rfl ?_
  obtain ⟨v1, h1, hR, H⟩ := H
  refine jm_E_call rfl (Nat.le_of_ble_eq_true rfl) (Nat.le_of_ble_eq_true rfl) rfl hR trivial ?_
  refine jm_E_eq (x := (19, [some (jm_r 8 0), none, some (jm_i x2), some (jm_i x3), none, some (jm_i x5), none], [jm_i v1], h1)) rfl ?_
  refine jm_E_n 5 (x' := (24, [some (jm_r 8 0), none, some (jm_i x2), some (jm_i x3), none, some (jm_i x5), none], [jm_i (19 + x5), jm_r 56 0, jm_i v1], h1)) rfl ?_
  refine jm_E_iald rfl rfl H.1 ?_
  replace H := H.2
  refine jm_E_eq (x := (25, [some (jm_r 8 0), none, some (jm_i x2), some (jm_i x3), none, some (jm_i x5), none], [jm_i (h1.1 56 0 ((19 + x5).toNatClampNeg)), jm_i v1], h1)) rfl ?_
  refine jm_E_n 1 (x' := (if (h1.1 56 0 ((19 + x5).toNatClampNeg)) < v1 then 34 else 26, [some (jm_r 8 0), none, some (jm_i x2), some (jm_i x3), none, some (jm_i x5), none], [], h1)) rfl ?_
  refine jm_E_ite (fun hc => ?_) (fun hc => ?_)
  · replace H := H.1 hc
    refine jm_E_n 6 (x' := (40, [some (jm_r 8 0), none, some (jm_i x2), some (jm_i x3), none, some (jm_i x5), none], [jm_i (10 + x5), jm_r 56 0, jm_i x3], h1)) rfl ?_
    refine jm_E_iald rfl rfl H.1 ?_
    replace H := H.2
    refine jm_E_eq (x := (41, [some (jm_r 8 0), none, some (jm_i x2), some (jm_i x3), none, some (jm_i x5), none], [jm_i (h1.1 56 0 ((10 + x5).toNatClampNeg)), jm_i x3], h1)) rfl ?_
    refine jm_E_n 6 (x' := (47, [some (jm_r 8 0), none, some (jm_i x2), some (jm_i (x3 + (h1.1 56 0 ((10 + x5).toNatClampNeg)))), none, some (jm_i x5), none], [jm_i 3, jm_r 56 0, jm_i x5], h1)) rfl ?_
    refine jm_E_iald rfl rfl (by decide) ?_
    refine jm_E_eq (x := (48, [some (jm_r 8 0), none, some (jm_i x2), some (jm_i (x3 + (h1.1 56 0 ((10 + x5).toNatClampNeg)))), none, some (jm_i x5), none], [jm_i (h1.1 56 0 3), jm_i x5], h1)) rfl ?_
    refine jm_E_n 3 (x' := (if x5 = ((h1.1 56 0 3) - 1) then 66 else 51, [some (jm_r 8 0), none, some (jm_i x2), some (jm_i (x3 + (h1.1 56 0 ((10 + x5).toNatClampNeg)))), none, some (jm_i x5), none], [], h1)) rfl ?_
    refine jm_E_ite (fun hc => ?_) (fun hc => ?_)
    · replace H := H.1 hc
      refine jm_E_n 8 (x' := (if x2 < (x3 + (h1.1 56 0 ((10 + x5).toNatClampNeg))) then 77 else 75, [some (jm_r 8 0), none, some (jm_i x2), some (jm_i (x3 + (h1.1 56 0 ((10 + x5).toNatClampNeg)))), none, some (jm_i x5), some (jm_i 1)], [], h1)) rfl ?_
      refine jm_E_ite (fun hc => ?_) (fun hc => ?_)
      · replace H := H.1 hc
        refine jm_E_n 4 (x' := (9, [some (jm_r 8 0), none, some (jm_i x2), some (jm_i (x3 + (h1.1 56 0 ((10 + x5).toNatClampNeg)))), some (jm_i 0), some (jm_i (x5 + 1)), some (jm_i 1)], [], h1)) rfl ?_
        exact jm_E_weak (jm_le_s (jm_le_n (jm_le_s (jm_le_s (jm_le_s (jm_le_s (jm_le_n jm_le_nil))))))) H
      · replace H := H.2 hc
        refine jm_E_n 5 (x' := (9, [some (jm_r 8 0), none, some (jm_i x2), some (jm_i (x3 + (h1.1 56 0 ((10 + x5).toNatClampNeg)))), some (jm_i 1), some (jm_i (x5 + 1)), some (jm_i 1)], [], h1)) rfl ?_
        exact jm_E_weak (jm_le_s (jm_le_n (jm_le_s (jm_le_s (jm_le_s (jm_le_s (jm_le_n jm_le_nil))))))) H
    · replace H := H.2 hc
      refine jm_E_n 7 (x' := (58, [some (jm_r 8 0), none, some (jm_i x2), some (jm_i (x3 + (h1.1 56 0 ((10 + x5).toNatClampNeg)))), none, some (jm_i x5), none], [jm_i ((19 + x5) + 1), jm_r 56 0], h1)) rfl ?_
      refine jm_E_iald rfl rfl H.1 ?_
      replace H := H.2
      refine jm_E_eq (x := (59, [some (jm_r 8 0), none, some (jm_i x2), some (jm_i (x3 + (h1.1 56 0 ((10 + x5).toNatClampNeg)))), none, some (jm_i x5), none], [jm_i (h1.1 56 0 (((19 + x5) + 1).toNatClampNeg))], h1)) rfl ?_
      refine jm_E_n 5 (x' := (64, [some (jm_r 8 0), none, some (jm_i x2), some (jm_i (x3 + (h1.1 56 0 ((10 + x5).toNatClampNeg)))), none, some (jm_i x5), none], [jm_i (19 + x5), jm_r 56 0, jm_i (h1.1 56 0 (((19 + x5) + 1).toNatClampNeg))], h1)) rfl ?_
      refine jm_E_iald rfl rfl H.1 ?_
      replace H := H.2
      refine jm_E_eq (x := (65, [some (jm_r 8 0), none, some (jm_i x2), some (jm_i (x3 + (h1.1 56 0 ((10 + x5).toNatClampNeg)))), none, some (jm_i x5), none], [jm_i (h1.1 56 0 ((19 + x5).toNatClampNeg)), jm_i (h1.1 56 0 (((19 + x5) + 1).toNatClampNeg))], h1)) rfl ?_
      refine jm_E_n 1 (x' := (if (h1.1 56 0 (((19 + x5) + 1).toNatClampNeg)) ≤ (h1.1 56 0 ((19 + x5).toNatClampNeg)) then 68 else 66, [some (jm_r 8 0), none, some (jm_i x2), some (jm_i (x3 + (h1.1 56 0 ((10 + x5).toNatClampNeg)))), none, some (jm_i x5), none], [], h1)) rfl ?_
      refine jm_E_ite (fun hc => ?_) (fun hc => ?_)
      · replace H := H.1 hc
        refine jm_E_n 9 (x' := (9, [some (jm_r 8 0), none, some (jm_i x2), some (jm_i (x3 + (h1.1 56 0 ((10 + x5).toNatClampNeg)))), some (jm_i 1), some (jm_i (x5 + 1)), some (jm_i 0)], [], h1)) rfl ?_
        exact jm_E_weak (jm_le_s (jm_le_n (jm_le_s (jm_le_s (jm_le_s (jm_le_s (jm_le_n jm_le_nil))))))) H
      · replace H := H.2 hc
        refine jm_E_n 8 (x' := (if x2 < (x3 + (h1.1 56 0 ((10 + x5).toNatClampNeg))) then 77 else 75, [some (jm_r 8 0), none, some (jm_i x2), some (jm_i (x3 + (h1.1 56 0 ((10 + x5).toNatClampNeg)))), none, some (jm_i x5), some (jm_i 1)], [], h1)) rfl ?_
        refine jm_E_ite (fun hc => ?_) (fun hc => ?_)
        · replace H := H.1 hc
          refine jm_E_n 4 (x' := (9, [some (jm_r 8 0), none, some (jm_i x2), some (jm_i (x3 + (h1.1 56 0 ((10 + x5).toNatClampNeg)))), some (jm_i 0), some (jm_i (x5 + 1)), some (jm_i 1)], [], h1)) rfl ?_
          exact jm_E_weak (jm_le_s (jm_le_n (jm_le_s (jm_le_s (jm_le_s (jm_le_s (jm_le_n jm_le_nil))))))) H
        · replace H := H.2 hc
          refine jm_E_n 5 (x' := (9, [some (jm_r 8 0), none, some (jm_i x2), some (jm_i (x3 + (h1.1 56 0 ((10 + x5).toNatClampNeg)))), some (jm_i 1), some (jm_i (x5 + 1)), some (jm_i 1)], [], h1)) rfl ?_
          exact jm_E_weak (jm_le_s (jm_le_n (jm_le_s (jm_le_s (jm_le_s (jm_le_s (jm_le_n jm_le_nil))))))) H
  · replace H := H.2 hc
    refine jm_E_n 2 (x' := (28, [some (jm_r 8 0), none, some (jm_i x2), some (jm_i x3), none, some (jm_i x5), none], [jm_r 8 0, jm_i x2], h1)) rfl ?_
    obtain ⟨v2, h2, hR, H⟩ := H
    refine jm_E_call rfl (Nat.le_of_ble_eq_true rfl) (Nat.le_of_ble_eq_true rfl) rfl hR trivial ?_
    refine jm_E_eq (x := (29, [some (jm_r 8 0), none, some (jm_i x2), some (jm_i x3), none, some (jm_i x5), none], [jm_i v2, jm_i x2], h2)) rfl ?_
    refine jm_E_n 3 (x' := (32, [some (jm_r 8 0), none, some (jm_i (x2 + v2)), some (jm_i x3), none, some (jm_i x5), none], [jm_r 8 0], h2)) rfl ?_
    obtain ⟨h3, hR, H⟩ := H
    refine jm_E_call rfl (Nat.le_of_ble_eq_true rfl) (Nat.le_of_ble_eq_true rfl) rfl hR trivial ?_
    refine jm_E_eq (x := (33, [some (jm_r 8 0), none, some (jm_i (x2 + v2)), some (jm_i x3), none, some (jm_i x5), none], [], h3)) rfl ?_
    refine jm_E_n 1 (x' := (17, [some (jm_r 8 0), none, some (jm_i (x2 + v2)), some (jm_i x3), none, some (jm_i x5), none], [], h3)) rfl ?_
    exact H
set_option maxRecDepth 100000 in
theorem wp_M_areInTime {a0 : Int32} {h : jm_H} {r : jm_Rs} (H :
  l_M_areInTime_9 (-a0) 0 1 0 h r) : jm_R 168 [jm_r 8 0, jm_i a0] h r := by
  refine jm_R_of hz_168 (Nat.le_of_ble_eq_true rfl) ?_
  show jm_E cod_168 (0, [some (jm_r 8 0), some (jm_i a0), none, none, none, none, none], [], h) r
  refine jm_E_n 9 (x' := (9, [some (jm_r 8 0), some (jm_i a0), some (jm_i (-a0)), some (jm_i 0), some (jm_i 1), some (jm_i 0), none], [], h)) rfl ?_
  exact jm_E_weak (jm_le_s (jm_le_n (jm_le_s (jm_le_s (jm_le_s (jm_le_s (jm_le_n jm_le_nil))))))) H
set_option maxRecDepth 100000 in
theorem wp_M_clock {a0 : Int32} {h : jm_H} {r : jm_Rs} (H :
  ∃ h1 : jm_H, m_M_anew h h1 ∧
  ((h1.1 8 0 6) = 0 →
    ∃ (v2 : Int32) (h2 : jm_H), m_M_no 1 h1 v2 h2 ∧
    r = (some (jm_i v2), h2)) ∧
  (¬ ((h1.1 8 0 6) = 0) →
    ∃ (v3 : Int32) (h3 : jm_H), m_M_in a0 0 9 h1 v3 h3 ∧
    (v3 = 0 →
      ∃ (v4 : Int32) (h4 : jm_H), m_M_no 1 h3 v4 h4 ∧
      r = (some (jm_i v4), h4)) ∧
    (¬ (v3 = 0) →
      jm_in a0 28 ∧
      r = (some (jm_i (h3.1 56 0 a0.toNatClampNeg)), h3)))) : jm_R 169 [jm_r 8 0, jm_i a0] h r := by
  refine jm_R_of hz_169 (Nat.le_of_ble_eq_true rfl) ?_
  show jm_E cod_169 (0, [some (jm_r 8 0), some (jm_i a0)], [], h) r
  refine jm_E_n 1 (x' := (1, [some (jm_r 8 0), some (jm_i a0)], [jm_r 8 0], h)) rfl ?_
  obtain ⟨h1, hR, H⟩ := H
  refine jm_E_call rfl (Nat.le_of_ble_eq_true rfl) (Nat.le_of_ble_eq_true rfl) rfl hR trivial ?_
  refine jm_E_eq (x := (2, [some (jm_r 8 0), some (jm_i a0)], [], h1)) rfl ?_
  refine jm_E_n 3 (x' := (if (h1.1 8 0 6) = 0 then 10 else 5, [some (jm_r 8 0), some (jm_i a0)], [], h1)) rfl ?_
  refine jm_E_ite (fun hc => ?_) (fun hc => ?_)
  · replace H := H.1 hc
    refine jm_E_n 2 (x' := (12, [some (jm_r 8 0), some (jm_i a0)], [jm_i 1, jm_r 8 0], h1)) rfl ?_
    obtain ⟨v2, h2, hR, H⟩ := H
    refine jm_E_call rfl (Nat.le_of_ble_eq_true rfl) (Nat.le_of_ble_eq_true rfl) rfl hR trivial ?_
    refine jm_E_eq (x := (13, [some (jm_r 8 0), some (jm_i a0)], [jm_i v2], h2)) rfl ?_
    refine jm_E_n 1 (x' := (18, [some (jm_r 8 0), some (jm_i a0)], [jm_i v2], h2)) rfl ?_
    exact jm_E_ret rfl (by rw [H]; rfl)
  · replace H := H.2 hc
    refine jm_E_n 3 (x' := (8, [some (jm_r 8 0), some (jm_i a0)], [jm_i 9, jm_i 0, jm_i a0], h1)) rfl ?_
    obtain ⟨v3, h3, hR, H⟩ := H
    refine jm_E_call rfl (Nat.le_of_ble_eq_true rfl) (Nat.le_of_ble_eq_true rfl) trivial hR trivial ?_
    refine jm_E_eq (x := (9, [some (jm_r 8 0), some (jm_i a0)], [jm_i v3], h3)) rfl ?_
    refine jm_E_n 1 (x' := (if v3 = 0 then 10 else 14, [some (jm_r 8 0), some (jm_i a0)], [], h3)) rfl ?_
    refine jm_E_ite (fun hc => ?_) (fun hc => ?_)
    · replace H := H.1 hc
      refine jm_E_n 2 (x' := (12, [some (jm_r 8 0), some (jm_i a0)], [jm_i 1, jm_r 8 0], h3)) rfl ?_
      obtain ⟨v4, h4, hR, H⟩ := H
      refine jm_E_call rfl (Nat.le_of_ble_eq_true rfl) (Nat.le_of_ble_eq_true rfl) rfl hR trivial ?_
      refine jm_E_eq (x := (13, [some (jm_r 8 0), some (jm_i a0)], [jm_i v4], h4)) rfl ?_
      refine jm_E_n 1 (x' := (18, [some (jm_r 8 0), some (jm_i a0)], [jm_i v4], h4)) rfl ?_
      exact jm_E_ret rfl (by rw [H]; rfl)
    · replace H := H.2 hc
      refine jm_E_n 3 (x' := (17, [some (jm_r 8 0), some (jm_i a0)], [jm_i a0, jm_r 56 0], h3)) rfl ?_
      refine jm_E_iald rfl rfl H.1 ?_
      replace H := H.2
      refine jm_E_eq (x := (18, [some (jm_r 8 0), some (jm_i a0)], [jm_i (h3.1 56 0 a0.toNatClampNeg)], h3)) rfl ?_
      exact jm_E_ret rfl (by rw [H]; rfl)
set_option maxRecDepth 100000 in
theorem wp_M_ahead_28 {x1 : Int32} {x2 : Int32} {x4 : Int32} {h : jm_H} {r : jm_Rs} (H :
  (x1 ≤ x4 →
    (x2 = 0 →
      r = (some (jm_i (h.1 8 0 44)), h)) ∧
    (¬ (x2 = 0) →
      (x2 = 1 →
        r = (some (jm_i (h.1 8 0 45)), h)) ∧
      (¬ (x2 = 1) →
        (x2 = 2 →
          r = (some (jm_i (h.1 8 0 46)), h)) ∧
        (¬ (x2 = 2) →
          ∃ (v8 : Int32) (h8 : jm_H), m_M_seenSlack h v8 h8 ∧
          r = (some (jm_i v8), h8))))) ∧
  (¬ (x1 ≤ x4) →
    ∃ h9 : jm_H, m_M_goesOn h h9 ∧
    l_M_ahead_28 x1 x2 (x4 + 1) h9 r)) : l_M_ahead_28 x1 x2 x4 h r := by
  refine jm_E_n 3 (x' := (if x1 ≤ x4 then 35 else 31, [some (jm_r 8 0), some (jm_i x1), some (jm_i x2), none, some (jm_i x4)], [], h)) rfl ?_
  refine jm_E_ite (fun hc => ?_) (fun hc => ?_)
  · replace H := H.1 hc
    refine jm_E_n 2 (x' := (if x2 = 0 then 37 else 40, [some (jm_r 8 0), some (jm_i x1), some (jm_i x2), none, some (jm_i x4)], [], h)) rfl ?_
    refine jm_E_ite (fun hc => ?_) (fun hc => ?_)
    · replace H := H.1 hc
      refine jm_E_n 3 (x' := (54, [some (jm_r 8 0), some (jm_i x1), some (jm_i x2), none, some (jm_i x4)], [jm_i (h.1 8 0 44)], h)) rfl ?_
      exact jm_E_ret rfl (by rw [H]; rfl)
    · replace H := H.2 hc
      refine jm_E_n 3 (x' := (if x2 = 1 then 43 else 46, [some (jm_r 8 0), some (jm_i x1), some (jm_i x2), none, some (jm_i x4)], [], h)) rfl ?_
      refine jm_E_ite (fun hc => ?_) (fun hc => ?_)
      · replace H := H.1 hc
        refine jm_E_n 3 (x' := (54, [some (jm_r 8 0), some (jm_i x1), some (jm_i x2), none, some (jm_i x4)], [jm_i (h.1 8 0 45)], h)) rfl ?_
        exact jm_E_ret rfl (by rw [H]; rfl)
      · replace H := H.2 hc
        refine jm_E_n 3 (x' := (if x2 = 2 then 49 else 52, [some (jm_r 8 0), some (jm_i x1), some (jm_i x2), none, some (jm_i x4)], [], h)) rfl ?_
        refine jm_E_ite (fun hc => ?_) (fun hc => ?_)
        · replace H := H.1 hc
          refine jm_E_n 3 (x' := (54, [some (jm_r 8 0), some (jm_i x1), some (jm_i x2), none, some (jm_i x4)], [jm_i (h.1 8 0 46)], h)) rfl ?_
          exact jm_E_ret rfl (by rw [H]; rfl)
        · replace H := H.2 hc
          refine jm_E_n 1 (x' := (53, [some (jm_r 8 0), some (jm_i x1), some (jm_i x2), none, some (jm_i x4)], [jm_r 8 0], h)) rfl ?_
          obtain ⟨v8, h8, hR, H⟩ := H
          refine jm_E_call rfl (Nat.le_of_ble_eq_true rfl) (Nat.le_of_ble_eq_true rfl) rfl hR trivial ?_
          refine jm_E_eq (x := (54, [some (jm_r 8 0), some (jm_i x1), some (jm_i x2), none, some (jm_i x4)], [jm_i v8], h8)) rfl ?_
          exact jm_E_ret rfl (by rw [H]; rfl)
  · replace H := H.2 hc
    refine jm_E_n 1 (x' := (32, [some (jm_r 8 0), some (jm_i x1), some (jm_i x2), none, some (jm_i x4)], [jm_r 8 0], h)) rfl ?_
    obtain ⟨h9, hR, H⟩ := H
    refine jm_E_call rfl (Nat.le_of_ble_eq_true rfl) (Nat.le_of_ble_eq_true rfl) rfl hR trivial ?_
    refine jm_E_eq (x := (33, [some (jm_r 8 0), some (jm_i x1), some (jm_i x2), none, some (jm_i x4)], [], h9)) rfl ?_
    refine jm_E_n 2 (x' := (28, [some (jm_r 8 0), some (jm_i x1), some (jm_i x2), none, some (jm_i (x4 + 1))], [], h9)) rfl ?_
    exact H
set_option maxRecDepth 100000 in
theorem wp_M_ahead {a0 : Int32} {a1 : Int32} {h : jm_H} {r : jm_Rs} (H :
  ∃ h1 : jm_H, m_M_anew h h1 ∧
  ∃ (v2 : Int32) (h2 : jm_H), m_M_in a1 0 3 h1 v2 h2 ∧
  ∃ (v3 : Int32) (h3 : jm_H), m_M_clockWhy v2 h2 v3 h3 ∧
  (v3 = 0 →
    ∃ (v4 : Int32) (h4 : jm_H), m_M_in a0 0 99 h3 v4 h4 ∧
    (v4 = 0 →
      ∃ (v5 : Int32) (h5 : jm_H), m_M_no 2 h4 v5 h5 ∧
      r = (some (jm_i v5), h5)) ∧
    (¬ (v4 = 0) →
      ∃ h6 : jm_H, m_M_looksAhead h4 h6 ∧
      l_M_ahead_28 a0 a1 0 h6 r)) ∧
  (¬ (v3 = 0) →
    ∃ (v7 : Int32) (h7 : jm_H), m_M_no v3 h3 v7 h7 ∧
    r = (some (jm_i v7), h7))) : jm_R 170 [jm_r 8 0, jm_i a0, jm_i a1] h r := by
  refine jm_R_of hz_170 (Nat.le_of_ble_eq_true rfl) ?_
  show jm_E cod_170 (0, [some (jm_r 8 0), some (jm_i a0), some (jm_i a1), none, none], [], h) r
  refine jm_E_n 1 (x' := (1, [some (jm_r 8 0), some (jm_i a0), some (jm_i a1), none, none], [jm_r 8 0], h)) rfl ?_
  obtain ⟨h1, hR, H⟩ := H
  refine jm_E_call rfl (Nat.le_of_ble_eq_true rfl) (Nat.le_of_ble_eq_true rfl) rfl hR trivial ?_
  refine jm_E_eq (x := (2, [some (jm_r 8 0), some (jm_i a0), some (jm_i a1), none, none], [], h1)) rfl ?_
  refine jm_E_n 4 (x' := (6, [some (jm_r 8 0), some (jm_i a0), some (jm_i a1), none, none], [jm_i 3, jm_i 0, jm_i a1, jm_r 8 0], h1)) rfl ?_
  obtain ⟨v2, h2, hR, H⟩ := H
  refine jm_E_call rfl (Nat.le_of_ble_eq_true rfl) (Nat.le_of_ble_eq_true rfl) trivial hR trivial ?_
  refine jm_E_eq (x := (7, [some (jm_r 8 0), some (jm_i a0), some (jm_i a1), none, none], [jm_i v2, jm_r 8 0], h2)) rfl ?_
  obtain ⟨v3, h3, hR, H⟩ := H
  refine jm_E_call rfl (Nat.le_of_ble_eq_true rfl) (Nat.le_of_ble_eq_true rfl) rfl hR trivial ?_
  refine jm_E_eq (x := (8, [some (jm_r 8 0), some (jm_i a0), some (jm_i a1), none, none], [jm_i v3], h3)) rfl ?_
  refine jm_E_n 3 (x' := (if v3 = 0 then 15 else 11, [some (jm_r 8 0), some (jm_i a0), some (jm_i a1), some (jm_i v3), none], [], h3)) rfl ?_
  refine jm_E_ite (fun hc => ?_) (fun hc => ?_)
  · replace H := H.1 hc
    refine jm_E_n 3 (x' := (18, [some (jm_r 8 0), some (jm_i a0), some (jm_i a1), some (jm_i v3), none], [jm_i 99, jm_i 0, jm_i a0], h3)) rfl ?_
    obtain ⟨v4, h4, hR, H⟩ := H
    refine jm_E_call rfl (Nat.le_of_ble_eq_true rfl) (Nat.le_of_ble_eq_true rfl) trivial hR trivial ?_
    refine jm_E_eq (x := (19, [some (jm_r 8 0), some (jm_i a0), some (jm_i a1), some (jm_i v3), none], [jm_i v4], h4)) rfl ?_
    refine jm_E_n 1 (x' := (if v4 = 0 then 20 else 24, [some (jm_r 8 0), some (jm_i a0), some (jm_i a1), some (jm_i v3), none], [], h4)) rfl ?_
    refine jm_E_ite (fun hc => ?_) (fun hc => ?_)
    · replace H := H.1 hc
      refine jm_E_n 2 (x' := (22, [some (jm_r 8 0), some (jm_i a0), some (jm_i a1), some (jm_i v3), none], [jm_i 2, jm_r 8 0], h4)) rfl ?_
      obtain ⟨v5, h5, hR, H⟩ := H
      refine jm_E_call rfl (Nat.le_of_ble_eq_true rfl) (Nat.le_of_ble_eq_true rfl) rfl hR trivial ?_
      refine jm_E_eq (x := (23, [some (jm_r 8 0), some (jm_i a0), some (jm_i a1), some (jm_i v3), none], [jm_i v5], h5)) rfl ?_
      exact jm_E_ret rfl (by rw [H]; rfl)
    · replace H := H.2 hc
      refine jm_E_n 1 (x' := (25, [some (jm_r 8 0), some (jm_i a0), some (jm_i a1), some (jm_i v3), none], [jm_r 8 0], h4)) rfl ?_
      obtain ⟨h6, hR, H⟩ := H
      refine jm_E_call rfl (Nat.le_of_ble_eq_true rfl) (Nat.le_of_ble_eq_true rfl) rfl hR trivial ?_
      refine jm_E_eq (x := (26, [some (jm_r 8 0), some (jm_i a0), some (jm_i a1), some (jm_i v3), none], [], h6)) rfl ?_
      refine jm_E_n 2 (x' := (28, [some (jm_r 8 0), some (jm_i a0), some (jm_i a1), some (jm_i v3), some (jm_i 0)], [], h6)) rfl ?_
      exact jm_E_weak (jm_le_s (jm_le_s (jm_le_s (jm_le_n (jm_le_s jm_le_nil))))) H
  · replace H := H.2 hc
    refine jm_E_n 2 (x' := (13, [some (jm_r 8 0), some (jm_i a0), some (jm_i a1), some (jm_i v3), none], [jm_i v3, jm_r 8 0], h3)) rfl ?_
    obtain ⟨v7, h7, hR, H⟩ := H
    refine jm_E_call rfl (Nat.le_of_ble_eq_true rfl) (Nat.le_of_ble_eq_true rfl) rfl hR trivial ?_
    refine jm_E_eq (x := (14, [some (jm_r 8 0), some (jm_i a0), some (jm_i a1), some (jm_i v3), none], [jm_i v7], h7)) rfl ?_
    exact jm_E_ret rfl (by rw [H]; rfl)
set_option maxRecDepth 100000 in
theorem wp_M_waiting_42 {x1 : Int32} {x3 : Int32} {x4 : Int32} {h : jm_H} {r : jm_Rs} (H :
  (x1 < x4 →
    ∃ h7 : jm_H, m_M_looksAhead h h7 ∧
    ∃ (v8 : Int32) (h8 : jm_H), m_M_seenSlack h7 v8 h8 ∧
    l_M_waiting_61 x3 v8 h8 r) ∧
  (¬ (x1 < x4) →
    jm_in (10 + x4) 28 ∧
    l_M_waiting_42 x1 (x3 + (h.1 56 0 ((10 + x4).toNatClampNeg))) (x4 + 1) h r)) : l_M_waiting_42 x1 x3 x4 h r := by
  refine jm_E_n 3 (x' := (if x1 < x4 then 56 else 45, [some (jm_r 8 0), some (jm_i x1), none, some (jm_i x3), some (jm_i x4)], [], h)) rfl ?_
  refine jm_E_ite (fun hc => ?_) (fun hc => ?_)
  · replace H := H.1 hc
    refine jm_E_n 1 (x' := (57, [some (jm_r 8 0), some (jm_i x1), none, some (jm_i x3), some (jm_i x4)], [jm_r 8 0], h)) rfl ?_
    obtain ⟨h7, hR, H⟩ := H
    refine jm_E_call rfl (Nat.le_of_ble_eq_true rfl) (Nat.le_of_ble_eq_true rfl) rfl hR trivial ?_
    refine jm_E_eq (x := (58, [some (jm_r 8 0), some (jm_i x1), none, some (jm_i x3), some (jm_i x4)], [], h7)) rfl ?_
    refine jm_E_n 1 (x' := (59, [some (jm_r 8 0), some (jm_i x1), none, some (jm_i x3), some (jm_i x4)], [jm_r 8 0], h7)) rfl ?_
    obtain ⟨v8, h8, hR, H⟩ := H
    refine jm_E_call rfl (Nat.le_of_ble_eq_true rfl) (Nat.le_of_ble_eq_true rfl) rfl hR trivial ?_
    refine jm_E_eq (x := (60, [some (jm_r 8 0), some (jm_i x1), none, some (jm_i x3), some (jm_i x4)], [jm_i v8], h8)) rfl ?_
    refine jm_E_n 1 (x' := (61, [some (jm_r 8 0), some (jm_i x1), none, some (jm_i x3), some (jm_i v8)], [], h8)) rfl ?_
    exact jm_E_weak (jm_le_s (jm_le_n (jm_le_n (jm_le_s (jm_le_s jm_le_nil))))) H
  · replace H := H.2 hc
    refine jm_E_n 6 (x' := (51, [some (jm_r 8 0), some (jm_i x1), none, some (jm_i x3), some (jm_i x4)], [jm_i (10 + x4), jm_r 56 0, jm_i x3], h)) rfl ?_
    refine jm_E_iald rfl rfl H.1 ?_
    replace H := H.2
    refine jm_E_eq (x := (52, [some (jm_r 8 0), some (jm_i x1), none, some (jm_i x3), some (jm_i x4)], [jm_i (h.1 56 0 ((10 + x4).toNatClampNeg)), jm_i x3], h)) rfl ?_
    refine jm_E_n 4 (x' := (42, [some (jm_r 8 0), some (jm_i x1), none, some (jm_i (x3 + (h.1 56 0 ((10 + x4).toNatClampNeg)))), some (jm_i (x4 + 1))], [], h)) rfl ?_
    exact H
set_option maxRecDepth 100000 in
theorem wp_M_waiting_61 {x3 : Int32} {x4 : Int32} {h : jm_H} {r : jm_Rs} (H :
  (x3 ≤ x4 →
    ∃ (v9 : Int32) (h9 : jm_H), m_M_seenEnd h v9 h9 ∧
    r = (some (jm_i v9), h9)) ∧
  (¬ (x3 ≤ x4) →
    ∃ h10 : jm_H, m_M_goesOn h h10 ∧
    ∃ (v11 : Int32) (h11 : jm_H), m_M_seenSlack h10 v11 h11 ∧
    l_M_waiting_61 x3 (x4 + v11) h11 r)) : l_M_waiting_61 x3 x4 h r := by
  refine jm_E_n 3 (x' := (if x3 ≤ x4 then 72 else 64, [some (jm_r 8 0), none, none, some (jm_i x3), some (jm_i x4)], [], h)) rfl ?_
  refine jm_E_ite (fun hc => ?_) (fun hc => ?_)
  · replace H := H.1 hc
    refine jm_E_n 1 (x' := (73, [some (jm_r 8 0), none, none, some (jm_i x3), some (jm_i x4)], [jm_r 8 0], h)) rfl ?_
    obtain ⟨v9, h9, hR, H⟩ := H
    refine jm_E_call rfl (Nat.le_of_ble_eq_true rfl) (Nat.le_of_ble_eq_true rfl) rfl hR trivial ?_
    refine jm_E_eq (x := (74, [some (jm_r 8 0), none, none, some (jm_i x3), some (jm_i x4)], [jm_i v9], h9)) rfl ?_
    exact jm_E_ret rfl (by rw [H]; rfl)
  · replace H := H.2 hc
    refine jm_E_n 1 (x' := (65, [some (jm_r 8 0), none, none, some (jm_i x3), some (jm_i x4)], [jm_r 8 0], h)) rfl ?_
    obtain ⟨h10, hR, H⟩ := H
    refine jm_E_call rfl (Nat.le_of_ble_eq_true rfl) (Nat.le_of_ble_eq_true rfl) rfl hR trivial ?_
    refine jm_E_eq (x := (66, [some (jm_r 8 0), none, none, some (jm_i x3), some (jm_i x4)], [], h10)) rfl ?_
    refine jm_E_n 2 (x' := (68, [some (jm_r 8 0), none, none, some (jm_i x3), some (jm_i x4)], [jm_r 8 0, jm_i x4], h10)) rfl ?_
    obtain ⟨v11, h11, hR, H⟩ := H
    refine jm_E_call rfl (Nat.le_of_ble_eq_true rfl) (Nat.le_of_ble_eq_true rfl) rfl hR trivial ?_
    refine jm_E_eq (x := (69, [some (jm_r 8 0), none, none, some (jm_i x3), some (jm_i x4)], [jm_i v11, jm_i x4], h11)) rfl ?_
    refine jm_E_n 3 (x' := (61, [some (jm_r 8 0), none, none, some (jm_i x3), some (jm_i (x4 + v11))], [], h11)) rfl ?_
    exact H
set_option maxRecDepth 100000 in
theorem wp_M_waiting {a0 : Int32} {a1 : Int32} {h : jm_H} {r : jm_Rs} (H :
  ∃ h1 : jm_H, m_M_anew h h1 ∧
  ((h1.1 8 0 6) = 0 →
    ∃ (v2 : Int32) (h2 : jm_H), m_M_no 1 h1 v2 h2 ∧
    r = (some (jm_i v2), h2)) ∧
  (¬ ((h1.1 8 0 6) = 0) →
    ∃ (v3 : Int32) (h3 : jm_H), m_M_in a0 0 ((h1.1 56 0 3) - 1) h1 v3 h3 ∧
    (v3 = 0 →
      ∃ (v4 : Int32) (h4 : jm_H), m_M_no 1 h3 v4 h4 ∧
      r = (some (jm_i v4), h4)) ∧
    (¬ (v3 = 0) →
      ∃ (v5 : Int32) (h5 : jm_H), m_M_in a1 0 2 h3 v5 h5 ∧
      (v5 = 0 →
        ∃ (v6 : Int32) (h6 : jm_H), m_M_no 1 h5 v6 h6 ∧
        r = (some (jm_i v6), h6)) ∧
      (¬ (v5 = 0) →
        (2 ≤ a1 →
          l_M_waiting_42 a0 0 0 h5 r) ∧
        (¬ (2 ≤ a1) →
          (a1 = 0 →
            jm_in (10 + a0) 28 ∧
            r = (some (jm_i (h5.1 56 0 ((10 + a0).toNatClampNeg))), h5)) ∧
          (¬ (a1 = 0) →
            jm_in (19 + a0) 28 ∧
            r = (some (jm_i (h5.1 56 0 ((19 + a0).toNatClampNeg))), h5))))))) : jm_R 171 [jm_r 8 0, jm_i a0, jm_i a1] h r := by
  refine jm_R_of hz_171 (Nat.le_of_ble_eq_true rfl) ?_
  show jm_E cod_171 (0, [some (jm_r 8 0), some (jm_i a0), some (jm_i a1), none, none], [], h) r
  refine jm_E_n 1 (x' := (1, [some (jm_r 8 0), some (jm_i a0), some (jm_i a1), none, none], [jm_r 8 0], h)) rfl ?_
  obtain ⟨h1, hR, H⟩ := H
  refine jm_E_call rfl (Nat.le_of_ble_eq_true rfl) (Nat.le_of_ble_eq_true rfl) rfl hR trivial ?_
  refine jm_E_eq (x := (2, [some (jm_r 8 0), some (jm_i a0), some (jm_i a1), none, none], [], h1)) rfl ?_
  refine jm_E_n 3 (x' := (if (h1.1 8 0 6) = 0 then 20 else 5, [some (jm_r 8 0), some (jm_i a0), some (jm_i a1), none, none], [], h1)) rfl ?_
  refine jm_E_ite (fun hc => ?_) (fun hc => ?_)
  · replace H := H.1 hc
    refine jm_E_n 2 (x' := (22, [some (jm_r 8 0), some (jm_i a0), some (jm_i a1), none, none], [jm_i 1, jm_r 8 0], h1)) rfl ?_
    obtain ⟨v2, h2, hR, H⟩ := H
    refine jm_E_call rfl (Nat.le_of_ble_eq_true rfl) (Nat.le_of_ble_eq_true rfl) rfl hR trivial ?_
    refine jm_E_eq (x := (23, [some (jm_r 8 0), some (jm_i a0), some (jm_i a1), none, none], [jm_i v2], h2)) rfl ?_
    exact jm_E_ret rfl (by rw [H]; rfl)
  · replace H := H.2 hc
    refine jm_E_n 5 (x' := (10, [some (jm_r 8 0), some (jm_i a0), some (jm_i a1), none, none], [jm_i 3, jm_r 56 0, jm_i 0, jm_i a0], h1)) rfl ?_
    refine jm_E_iald rfl rfl (by decide) ?_
    refine jm_E_eq (x := (11, [some (jm_r 8 0), some (jm_i a0), some (jm_i a1), none, none], [jm_i (h1.1 56 0 3), jm_i 0, jm_i a0], h1)) rfl ?_
    refine jm_E_n 2 (x' := (13, [some (jm_r 8 0), some (jm_i a0), some (jm_i a1), none, none], [jm_i ((h1.1 56 0 3) - 1), jm_i 0, jm_i a0], h1)) rfl ?_
    obtain ⟨v3, h3, hR, H⟩ := H
    refine jm_E_call rfl (Nat.le_of_ble_eq_true rfl) (Nat.le_of_ble_eq_true rfl) trivial hR trivial ?_
    refine jm_E_eq (x := (14, [some (jm_r 8 0), some (jm_i a0), some (jm_i a1), none, none], [jm_i v3], h3)) rfl ?_
    refine jm_E_n 1 (x' := (if v3 = 0 then 20 else 15, [some (jm_r 8 0), some (jm_i a0), some (jm_i a1), none, none], [], h3)) rfl ?_
    refine jm_E_ite (fun hc => ?_) (fun hc => ?_)
    · replace H := H.1 hc
      refine jm_E_n 2 (x' := (22, [some (jm_r 8 0), some (jm_i a0), some (jm_i a1), none, none], [jm_i 1, jm_r 8 0], h3)) rfl ?_
      obtain ⟨v4, h4, hR, H⟩ := H
      refine jm_E_call rfl (Nat.le_of_ble_eq_true rfl) (Nat.le_of_ble_eq_true rfl) rfl hR trivial ?_
      refine jm_E_eq (x := (23, [some (jm_r 8 0), some (jm_i a0), some (jm_i a1), none, none], [jm_i v4], h4)) rfl ?_
      exact jm_E_ret rfl (by rw [H]; rfl)
    · replace H := H.2 hc
      refine jm_E_n 3 (x' := (18, [some (jm_r 8 0), some (jm_i a0), some (jm_i a1), none, none], [jm_i 2, jm_i 0, jm_i a1], h3)) rfl ?_
      obtain ⟨v5, h5, hR, H⟩ := H
      refine jm_E_call rfl (Nat.le_of_ble_eq_true rfl) (Nat.le_of_ble_eq_true rfl) trivial hR trivial ?_
      refine jm_E_eq (x := (19, [some (jm_r 8 0), some (jm_i a0), some (jm_i a1), none, none], [jm_i v5], h5)) rfl ?_
      refine jm_E_n 1 (x' := (if v5 = 0 then 20 else 24, [some (jm_r 8 0), some (jm_i a0), some (jm_i a1), none, none], [], h5)) rfl ?_
      refine jm_E_ite (fun hc => ?_) (fun hc => ?_)
      · replace H := H.1 hc
        refine jm_E_n 2 (x' := (22, [some (jm_r 8 0), some (jm_i a0), some (jm_i a1), none, none], [jm_i 1, jm_r 8 0], h5)) rfl ?_
        obtain ⟨v6, h6, hR, H⟩ := H
        refine jm_E_call rfl (Nat.le_of_ble_eq_true rfl) (Nat.le_of_ble_eq_true rfl) rfl hR trivial ?_
        refine jm_E_eq (x := (23, [some (jm_r 8 0), some (jm_i a0), some (jm_i a1), none, none], [jm_i v6], h6)) rfl ?_
        exact jm_E_ret rfl (by rw [H]; rfl)
      · replace H := H.2 hc
        refine jm_E_n 3 (x' := (if 2 ≤ a1 then 38 else 27, [some (jm_r 8 0), some (jm_i a0), some (jm_i a1), none, none], [], h5)) rfl ?_
        refine jm_E_ite (fun hc => ?_) (fun hc => ?_)
        · replace H := H.1 hc
          refine jm_E_n 4 (x' := (42, [some (jm_r 8 0), some (jm_i a0), some (jm_i a1), some (jm_i 0), some (jm_i 0)], [], h5)) rfl ?_
          exact jm_E_weak (jm_le_s (jm_le_s (jm_le_n (jm_le_s (jm_le_s jm_le_nil))))) H
        · replace H := H.2 hc
          refine jm_E_n 4 (x' := (if a1 = 0 then 31 else 33, [some (jm_r 8 0), some (jm_i a0), some (jm_i a1), none, none], [jm_r 56 0], h5)) rfl ?_
          refine jm_E_ite (fun hc => ?_) (fun hc => ?_)
          · replace H := H.1 hc
            refine jm_E_n 4 (x' := (36, [some (jm_r 8 0), some (jm_i a0), some (jm_i a1), none, none], [jm_i (10 + a0), jm_r 56 0], h5)) rfl ?_
            refine jm_E_iald rfl rfl H.1 ?_
            replace H := H.2
            refine jm_E_eq (x := (37, [some (jm_r 8 0), some (jm_i a0), some (jm_i a1), none, none], [jm_i (h5.1 56 0 ((10 + a0).toNatClampNeg))], h5)) rfl ?_
            exact jm_E_ret rfl (by rw [H]; rfl)
          · replace H := H.2 hc
            refine jm_E_n 3 (x' := (36, [some (jm_r 8 0), some (jm_i a0), some (jm_i a1), none, none], [jm_i (19 + a0), jm_r 56 0], h5)) rfl ?_
            refine jm_E_iald rfl rfl H.1 ?_
            replace H := H.2
            refine jm_E_eq (x := (37, [some (jm_r 8 0), some (jm_i a0), some (jm_i a1), none, none], [jm_i (h5.1 56 0 ((19 + a0).toNatClampNeg))], h5)) rfl ?_
            exact jm_E_ret rfl (by rw [H]; rfl)
set_option maxRecDepth 100000 in
theorem wp_M_puts_5 {x1 : Int32} {x2 : Int32} {x3 : Int32} {h : jm_H} {r : jm_Rs} (H :
  (x3 ≤ 0 →
    jm_in (10 + x3) 28 ∧
    jm_in (19 + x3) 28 ∧
    r = (some (jm_i x3), (jm_sI (jm_sI (jm_sI h 56 0 ((10 + x3).toNatClampNeg) x1) 56 0 ((19 + x3).toNatClampNeg) x2) 56 0 3 (((jm_sI (jm_sI h 56 0 ((10 + x3).toNatClampNeg) x1) 56 0 ((19 + x3).toNatClampNeg) x2).1 56 0 3) + 1)))) ∧
  (¬ (x3 ≤ 0) →
    jm_in ((19 + x3) - 1) 28 ∧
    ((h.1 56 0 (((19 + x3) - 1).toNatClampNeg)) ≤ x2 →
      jm_in (10 + x3) 28 ∧
      jm_in (19 + x3) 28 ∧
      r = (some (jm_i x3), (jm_sI (jm_sI (jm_sI h 56 0 ((10 + x3).toNatClampNeg) x1) 56 0 ((19 + x3).toNatClampNeg) x2) 56 0 3 (((jm_sI (jm_sI h 56 0 ((10 + x3).toNatClampNeg) x1) 56 0 ((19 + x3).toNatClampNeg) x2).1 56 0 3) + 1)))) ∧
    (¬ ((h.1 56 0 (((19 + x3) - 1).toNatClampNeg)) ≤ x2) →
      jm_in ((10 + x3) - 1) 28 ∧
      jm_in (10 + x3) 28 ∧
      jm_in ((19 + x3) - 1) 28 ∧
      jm_in (19 + x3) 28 ∧
      l_M_puts_5 x1 x2 (x3 + (-1)) (jm_sI (jm_sI h 56 0 ((10 + x3).toNatClampNeg) (h.1 56 0 (((10 + x3) - 1).toNatClampNeg))) 56 0 ((19 + x3).toNatClampNeg) ((jm_sI h 56 0 ((10 + x3).toNatClampNeg) (h.1 56 0 (((10 + x3) - 1).toNatClampNeg))).1 56 0 (((19 + x3) - 1).toNatClampNeg))) r))) : l_M_puts_5 x1 x2 x3 h r := by
  refine jm_E_n 2 (x' := (if x3 ≤ 0 then 47 else 7, [some (jm_r 8 0), some (jm_i x1), some (jm_i x2), some (jm_i x3)], [], h)) rfl ?_
  refine jm_E_ite (fun hc => ?_) (fun hc => ?_)
  · replace H := H.1 hc
    refine jm_E_n 6 (x' := (53, [some (jm_r 8 0), some (jm_i x1), some (jm_i x2), some (jm_i x3)], [jm_i x1, jm_i (10 + x3), jm_r 56 0], h)) rfl ?_
    refine jm_E_iast rfl rfl H.1 ?_
    replace H := H.2
    refine jm_E_eq (x := (54, [some (jm_r 8 0), some (jm_i x1), some (jm_i x2), some (jm_i x3)], [], (jm_sI h 56 0 ((10 + x3).toNatClampNeg) x1))) rfl ?_
    refine jm_E_n 6 (x' := (60, [some (jm_r 8 0), some (jm_i x1), some (jm_i x2), some (jm_i x3)], [jm_i x2, jm_i (19 + x3), jm_r 56 0], (jm_sI h 56 0 ((10 + x3).toNatClampNeg) x1))) rfl ?_
    refine jm_E_iast rfl rfl H.1 ?_
    replace H := H.2
    refine jm_E_eq (x := (61, [some (jm_r 8 0), some (jm_i x1), some (jm_i x2), some (jm_i x3)], [], (jm_sI (jm_sI h 56 0 ((10 + x3).toNatClampNeg) x1) 56 0 ((19 + x3).toNatClampNeg) x2))) rfl ?_
    refine jm_E_n 4 (x' := (65, [some (jm_r 8 0), some (jm_i x1), some (jm_i x2), some (jm_i x3)], [jm_i 3, jm_r 56 0, jm_i 3, jm_r 56 0], (jm_sI (jm_sI h 56 0 ((10 + x3).toNatClampNeg) x1) 56 0 ((19 + x3).toNatClampNeg) x2))) rfl ?_
    refine jm_E_iald rfl rfl (by decide) ?_
    refine jm_E_eq (x := (66, [some (jm_r 8 0), some (jm_i x1), some (jm_i x2), some (jm_i x3)], [jm_i ((jm_sI (jm_sI h 56 0 ((10 + x3).toNatClampNeg) x1) 56 0 ((19 + x3).toNatClampNeg) x2).1 56 0 3), jm_i 3, jm_r 56 0], (jm_sI (jm_sI h 56 0 ((10 + x3).toNatClampNeg) x1) 56 0 ((19 + x3).toNatClampNeg) x2))) rfl ?_
    refine jm_E_n 2 (x' := (68, [some (jm_r 8 0), some (jm_i x1), some (jm_i x2), some (jm_i x3)], [jm_i (((jm_sI (jm_sI h 56 0 ((10 + x3).toNatClampNeg) x1) 56 0 ((19 + x3).toNatClampNeg) x2).1 56 0 3) + 1), jm_i 3, jm_r 56 0], (jm_sI (jm_sI h 56 0 ((10 + x3).toNatClampNeg) x1) 56 0 ((19 + x3).toNatClampNeg) x2))) rfl ?_
    refine jm_E_iast rfl rfl (by decide) ?_
    refine jm_E_eq (x := (69, [some (jm_r 8 0), some (jm_i x1), some (jm_i x2), some (jm_i x3)], [], (jm_sI (jm_sI (jm_sI h 56 0 ((10 + x3).toNatClampNeg) x1) 56 0 ((19 + x3).toNatClampNeg) x2) 56 0 3 (((jm_sI (jm_sI h 56 0 ((10 + x3).toNatClampNeg) x1) 56 0 ((19 + x3).toNatClampNeg) x2).1 56 0 3) + 1)))) rfl ?_
    refine jm_E_n 1 (x' := (70, [some (jm_r 8 0), some (jm_i x1), some (jm_i x2), some (jm_i x3)], [jm_i x3], (jm_sI (jm_sI (jm_sI h 56 0 ((10 + x3).toNatClampNeg) x1) 56 0 ((19 + x3).toNatClampNeg) x2) 56 0 3 (((jm_sI (jm_sI h 56 0 ((10 + x3).toNatClampNeg) x1) 56 0 ((19 + x3).toNatClampNeg) x2).1 56 0 3) + 1)))) rfl ?_
    exact jm_E_ret rfl (by rw [H]; rfl)
  · replace H := H.2 hc
    refine jm_E_n 7 (x' := (14, [some (jm_r 8 0), some (jm_i x1), some (jm_i x2), some (jm_i x3)], [jm_i ((19 + x3) - 1), jm_r 56 0], h)) rfl ?_
    refine jm_E_iald rfl rfl H.1 ?_
    replace H := H.2
    refine jm_E_eq (x := (15, [some (jm_r 8 0), some (jm_i x1), some (jm_i x2), some (jm_i x3)], [jm_i (h.1 56 0 (((19 + x3) - 1).toNatClampNeg))], h)) rfl ?_
    refine jm_E_n 2 (x' := (if (h.1 56 0 (((19 + x3) - 1).toNatClampNeg)) ≤ x2 then 47 else 17, [some (jm_r 8 0), some (jm_i x1), some (jm_i x2), some (jm_i x3)], [], h)) rfl ?_
    refine jm_E_ite (fun hc => ?_) (fun hc => ?_)
    · replace H := H.1 hc
      refine jm_E_n 6 (x' := (53, [some (jm_r 8 0), some (jm_i x1), some (jm_i x2), some (jm_i x3)], [jm_i x1, jm_i (10 + x3), jm_r 56 0], h)) rfl ?_
      refine jm_E_iast rfl rfl H.1 ?_
      replace H := H.2
      refine jm_E_eq (x := (54, [some (jm_r 8 0), some (jm_i x1), some (jm_i x2), some (jm_i x3)], [], (jm_sI h 56 0 ((10 + x3).toNatClampNeg) x1))) rfl ?_
      refine jm_E_n 6 (x' := (60, [some (jm_r 8 0), some (jm_i x1), some (jm_i x2), some (jm_i x3)], [jm_i x2, jm_i (19 + x3), jm_r 56 0], (jm_sI h 56 0 ((10 + x3).toNatClampNeg) x1))) rfl ?_
      refine jm_E_iast rfl rfl H.1 ?_
      replace H := H.2
      refine jm_E_eq (x := (61, [some (jm_r 8 0), some (jm_i x1), some (jm_i x2), some (jm_i x3)], [], (jm_sI (jm_sI h 56 0 ((10 + x3).toNatClampNeg) x1) 56 0 ((19 + x3).toNatClampNeg) x2))) rfl ?_
      refine jm_E_n 4 (x' := (65, [some (jm_r 8 0), some (jm_i x1), some (jm_i x2), some (jm_i x3)], [jm_i 3, jm_r 56 0, jm_i 3, jm_r 56 0], (jm_sI (jm_sI h 56 0 ((10 + x3).toNatClampNeg) x1) 56 0 ((19 + x3).toNatClampNeg) x2))) rfl ?_
      refine jm_E_iald rfl rfl (by decide) ?_
      refine jm_E_eq (x := (66, [some (jm_r 8 0), some (jm_i x1), some (jm_i x2), some (jm_i x3)], [jm_i ((jm_sI (jm_sI h 56 0 ((10 + x3).toNatClampNeg) x1) 56 0 ((19 + x3).toNatClampNeg) x2).1 56 0 3), jm_i 3, jm_r 56 0], (jm_sI (jm_sI h 56 0 ((10 + x3).toNatClampNeg) x1) 56 0 ((19 + x3).toNatClampNeg) x2))) rfl ?_
      refine jm_E_n 2 (x' := (68, [some (jm_r 8 0), some (jm_i x1), some (jm_i x2), some (jm_i x3)], [jm_i (((jm_sI (jm_sI h 56 0 ((10 + x3).toNatClampNeg) x1) 56 0 ((19 + x3).toNatClampNeg) x2).1 56 0 3) + 1), jm_i 3, jm_r 56 0], (jm_sI (jm_sI h 56 0 ((10 + x3).toNatClampNeg) x1) 56 0 ((19 + x3).toNatClampNeg) x2))) rfl ?_
      refine jm_E_iast rfl rfl (by decide) ?_
      refine jm_E_eq (x := (69, [some (jm_r 8 0), some (jm_i x1), some (jm_i x2), some (jm_i x3)], [], (jm_sI (jm_sI (jm_sI h 56 0 ((10 + x3).toNatClampNeg) x1) 56 0 ((19 + x3).toNatClampNeg) x2) 56 0 3 (((jm_sI (jm_sI h 56 0 ((10 + x3).toNatClampNeg) x1) 56 0 ((19 + x3).toNatClampNeg) x2).1 56 0 3) + 1)))) rfl ?_
      refine jm_E_n 1 (x' := (70, [some (jm_r 8 0), some (jm_i x1), some (jm_i x2), some (jm_i x3)], [jm_i x3], (jm_sI (jm_sI (jm_sI h 56 0 ((10 + x3).toNatClampNeg) x1) 56 0 ((19 + x3).toNatClampNeg) x2) 56 0 3 (((jm_sI (jm_sI h 56 0 ((10 + x3).toNatClampNeg) x1) 56 0 ((19 + x3).toNatClampNeg) x2).1 56 0 3) + 1)))) rfl ?_
      exact jm_E_ret rfl (by rw [H]; rfl)
    · replace H := H.2 hc
      refine jm_E_n 12 (x' := (29, [some (jm_r 8 0), some (jm_i x1), some (jm_i x2), some (jm_i x3)], [jm_i ((10 + x3) - 1), jm_r 56 0, jm_i (10 + x3), jm_r 56 0], h)) rfl ?_
      refine jm_E_iald rfl rfl H.1 ?_
      replace H := H.2
      refine jm_E_eq (x := (30, [some (jm_r 8 0), some (jm_i x1), some (jm_i x2), some (jm_i x3)], [jm_i (h.1 56 0 (((10 + x3) - 1).toNatClampNeg)), jm_i (10 + x3), jm_r 56 0], h)) rfl ?_
      refine jm_E_iast rfl rfl H.1 ?_
      replace H := H.2
      refine jm_E_eq (x := (31, [some (jm_r 8 0), some (jm_i x1), some (jm_i x2), some (jm_i x3)], [], (jm_sI h 56 0 ((10 + x3).toNatClampNeg) (h.1 56 0 (((10 + x3) - 1).toNatClampNeg))))) rfl ?_
      refine jm_E_n 12 (x' := (43, [some (jm_r 8 0), some (jm_i x1), some (jm_i x2), some (jm_i x3)], [jm_i ((19 + x3) - 1), jm_r 56 0, jm_i (19 + x3), jm_r 56 0], (jm_sI h 56 0 ((10 + x3).toNatClampNeg) (h.1 56 0 (((10 + x3) - 1).toNatClampNeg))))) rfl ?_
      refine jm_E_iald rfl rfl H.1 ?_
      replace H := H.2
      refine jm_E_eq (x := (44, [some (jm_r 8 0), some (jm_i x1), some (jm_i x2), some (jm_i x3)], [jm_i ((jm_sI h 56 0 ((10 + x3).toNatClampNeg) (h.1 56 0 (((10 + x3) - 1).toNatClampNeg))).1 56 0 (((19 + x3) - 1).toNatClampNeg)), jm_i (19 + x3), jm_r 56 0], (jm_sI h 56 0 ((10 + x3).toNatClampNeg) (h.1 56 0 (((10 + x3) - 1).toNatClampNeg))))) rfl ?_
      refine jm_E_iast rfl rfl H.1 ?_
      replace H := H.2
      refine jm_E_eq (x := (45, [some (jm_r 8 0), some (jm_i x1), some (jm_i x2), some (jm_i x3)], [], (jm_sI (jm_sI h 56 0 ((10 + x3).toNatClampNeg) (h.1 56 0 (((10 + x3) - 1).toNatClampNeg))) 56 0 ((19 + x3).toNatClampNeg) ((jm_sI h 56 0 ((10 + x3).toNatClampNeg) (h.1 56 0 (((10 + x3) - 1).toNatClampNeg))).1 56 0 (((19 + x3) - 1).toNatClampNeg))))) rfl ?_
      refine jm_E_n 2 (x' := (5, [some (jm_r 8 0), some (jm_i x1), some (jm_i x2), some (jm_i (x3 + (-1)))], [], (jm_sI (jm_sI h 56 0 ((10 + x3).toNatClampNeg) (h.1 56 0 (((10 + x3) - 1).toNatClampNeg))) 56 0 ((19 + x3).toNatClampNeg) ((jm_sI h 56 0 ((10 + x3).toNatClampNeg) (h.1 56 0 (((10 + x3) - 1).toNatClampNeg))).1 56 0 (((19 + x3) - 1).toNatClampNeg))))) rfl ?_
      exact H
set_option maxRecDepth 100000 in
theorem wp_M_puts {a0 : Int32} {a1 : Int32} {h : jm_H} {r : jm_Rs} (H :
  l_M_puts_5 a0 a1 (h.1 56 0 3) h r) : jm_R 172 [jm_r 8 0, jm_i a0, jm_i a1] h r := by
  refine jm_R_of hz_172 (Nat.le_of_ble_eq_true rfl) ?_
  show jm_E cod_172 (0, [some (jm_r 8 0), some (jm_i a0), some (jm_i a1), none], [], h) r
  refine jm_E_n 3 (x' := (3, [some (jm_r 8 0), some (jm_i a0), some (jm_i a1), none], [jm_i 3, jm_r 56 0], h)) rfl ?_
  refine jm_E_iald rfl rfl (by decide) ?_
  refine jm_E_eq (x := (4, [some (jm_r 8 0), some (jm_i a0), some (jm_i a1), none], [jm_i (h.1 56 0 3)], h)) rfl ?_
  refine jm_E_n 1 (x' := (5, [some (jm_r 8 0), some (jm_i a0), some (jm_i a1), some (jm_i (h.1 56 0 3))], [], h)) rfl ?_
  exact H
set_option maxRecDepth 100000 in
theorem wp_M_takesOut_4 {x2 : Int32} {h : jm_H} {r : jm_Rs} (H :
  ((h.1 56 0 3) ≤ x2 →
    r = (none, (jm_sI h 56 0 3 ((h.1 56 0 3) - 1)))) ∧
  (¬ ((h.1 56 0 3) ≤ x2) →
    jm_in (10 + x2) 28 ∧
    jm_in ((10 + x2) - 1) 28 ∧
    jm_in (19 + x2) 28 ∧
    jm_in ((19 + x2) - 1) 28 ∧
    l_M_takesOut_4 (x2 + 1) (jm_sI (jm_sI h 56 0 (((10 + x2) - 1).toNatClampNeg) (h.1 56 0 ((10 + x2).toNatClampNeg))) 56 0 (((19 + x2) - 1).toNatClampNeg) ((jm_sI h 56 0 (((10 + x2) - 1).toNatClampNeg) (h.1 56 0 ((10 + x2).toNatClampNeg))).1 56 0 ((19 + x2).toNatClampNeg))) r)) : l_M_takesOut_4 x2 h r := by
  refine jm_E_n 4 (x' := (8, [some (jm_r 8 0), none, some (jm_i x2)], [jm_i 3, jm_r 56 0, jm_i x2], h)) rfl ?_
  refine jm_E_iald rfl rfl (by decide) ?_
  refine jm_E_eq (x := (9, [some (jm_r 8 0), none, some (jm_i x2)], [jm_i (h.1 56 0 3), jm_i x2], h)) rfl ?_
  refine jm_E_n 1 (x' := (if (h.1 56 0 3) ≤ x2 then 40 else 10, [some (jm_r 8 0), none, some (jm_i x2)], [], h)) rfl ?_
  refine jm_E_ite (fun hc => ?_) (fun hc => ?_)
  · replace H := H.1 hc
    refine jm_E_n 4 (x' := (44, [some (jm_r 8 0), none, some (jm_i x2)], [jm_i 3, jm_r 56 0, jm_i 3, jm_r 56 0], h)) rfl ?_
    refine jm_E_iald rfl rfl (by decide) ?_
    refine jm_E_eq (x := (45, [some (jm_r 8 0), none, some (jm_i x2)], [jm_i (h.1 56 0 3), jm_i 3, jm_r 56 0], h)) rfl ?_
    refine jm_E_n 2 (x' := (47, [some (jm_r 8 0), none, some (jm_i x2)], [jm_i ((h.1 56 0 3) - 1), jm_i 3, jm_r 56 0], h)) rfl ?_
    refine jm_E_iast rfl rfl (by decide) ?_
    refine jm_E_eq (x := (48, [some (jm_r 8 0), none, some (jm_i x2)], [], (jm_sI h 56 0 3 ((h.1 56 0 3) - 1)))) rfl ?_
    exact jm_E_ret rfl (by rw [H]; rfl)
  · replace H := H.2 hc
    refine jm_E_n 12 (x' := (22, [some (jm_r 8 0), none, some (jm_i x2)], [jm_i (10 + x2), jm_r 56 0, jm_i ((10 + x2) - 1), jm_r 56 0], h)) rfl ?_
    refine jm_E_iald rfl rfl H.1 ?_
    replace H := H.2
    refine jm_E_eq (x := (23, [some (jm_r 8 0), none, some (jm_i x2)], [jm_i (h.1 56 0 ((10 + x2).toNatClampNeg)), jm_i ((10 + x2) - 1), jm_r 56 0], h)) rfl ?_
    refine jm_E_iast rfl rfl H.1 ?_
    replace H := H.2
    refine jm_E_eq (x := (24, [some (jm_r 8 0), none, some (jm_i x2)], [], (jm_sI h 56 0 (((10 + x2) - 1).toNatClampNeg) (h.1 56 0 ((10 + x2).toNatClampNeg))))) rfl ?_
    refine jm_E_n 12 (x' := (36, [some (jm_r 8 0), none, some (jm_i x2)], [jm_i (19 + x2), jm_r 56 0, jm_i ((19 + x2) - 1), jm_r 56 0], (jm_sI h 56 0 (((10 + x2) - 1).toNatClampNeg) (h.1 56 0 ((10 + x2).toNatClampNeg))))) rfl ?_
    refine jm_E_iald rfl rfl H.1 ?_
    replace H := H.2
    refine jm_E_eq (x := (37, [some (jm_r 8 0), none, some (jm_i x2)], [jm_i ((jm_sI h 56 0 (((10 + x2) - 1).toNatClampNeg) (h.1 56 0 ((10 + x2).toNatClampNeg))).1 56 0 ((19 + x2).toNatClampNeg)), jm_i ((19 + x2) - 1), jm_r 56 0], (jm_sI h 56 0 (((10 + x2) - 1).toNatClampNeg) (h.1 56 0 ((10 + x2).toNatClampNeg))))) rfl ?_
    refine jm_E_iast rfl rfl H.1 ?_
    replace H := H.2
    refine jm_E_eq (x := (38, [some (jm_r 8 0), none, some (jm_i x2)], [], (jm_sI (jm_sI h 56 0 (((10 + x2) - 1).toNatClampNeg) (h.1 56 0 ((10 + x2).toNatClampNeg))) 56 0 (((19 + x2) - 1).toNatClampNeg) ((jm_sI h 56 0 (((10 + x2) - 1).toNatClampNeg) (h.1 56 0 ((10 + x2).toNatClampNeg))).1 56 0 ((19 + x2).toNatClampNeg))))) rfl ?_
    refine jm_E_n 2 (x' := (4, [some (jm_r 8 0), none, some (jm_i (x2 + 1))], [], (jm_sI (jm_sI h 56 0 (((10 + x2) - 1).toNatClampNeg) (h.1 56 0 ((10 + x2).toNatClampNeg))) 56 0 (((19 + x2) - 1).toNatClampNeg) ((jm_sI h 56 0 (((10 + x2) - 1).toNatClampNeg) (h.1 56 0 ((10 + x2).toNatClampNeg))).1 56 0 ((19 + x2).toNatClampNeg))))) rfl ?_
    exact H
set_option maxRecDepth 100000 in
theorem wp_M_takesOut {a0 : Int32} {h : jm_H} {r : jm_Rs} (H :
  l_M_takesOut_4 (a0 + 1) h r) : jm_R 173 [jm_r 8 0, jm_i a0] h r := by
  refine jm_R_of hz_173 (Nat.le_of_ble_eq_true rfl) ?_
  show jm_E cod_173 (0, [some (jm_r 8 0), some (jm_i a0), none], [], h) r
  refine jm_E_n 4 (x' := (4, [some (jm_r 8 0), some (jm_i a0), some (jm_i (a0 + 1))], [], h)) rfl ?_
  exact jm_E_weak (jm_le_s (jm_le_n (jm_le_s jm_le_nil))) H
set_option maxRecDepth 100000 in
theorem wp_M_canBeTaken {a0 : Int32} {a1 : Int32} {h : jm_H} {r : jm_Rs} (H :
  ∃ (v1 : Int32) (h1 : jm_H), m_M_puts a0 a1 h v1 h1 ∧
  ∃ h2 : jm_H, m_M_looksAhead h1 h2 ∧
  ∃ (v3 : Int32) (h3 : jm_H), m_M_areInTime 0 h2 v3 h3 ∧
  ∃ h4 : jm_H, m_M_takesOut v1 h3 h4 ∧
  narrow .boolean (.int v3) = .int v3 ∧ r = (some (jm_i v3), h4)) : jm_R 174 [jm_r 8 0, jm_i a0, jm_i a1] h r := by
  refine jm_R_of hz_174 (Nat.le_of_ble_eq_true rfl) ?_
  show jm_E cod_174 (0, [some (jm_r 8 0), some (jm_i a0), some (jm_i a1), none, none], [], h) r
  refine jm_E_n 3 (x' := (3, [some (jm_r 8 0), some (jm_i a0), some (jm_i a1), none, none], [jm_i a1, jm_i a0, jm_r 8 0], h)) rfl ?_
  obtain ⟨v1, h1, hR, H⟩ := H
  refine jm_E_call rfl (Nat.le_of_ble_eq_true rfl) (Nat.le_of_ble_eq_true rfl) rfl hR trivial ?_
  refine jm_E_eq (x := (4, [some (jm_r 8 0), some (jm_i a0), some (jm_i a1), none, none], [jm_i v1], h1)) rfl ?_
  refine jm_E_n 2 (x' := (6, [some (jm_r 8 0), some (jm_i a0), some (jm_i a1), some (jm_i v1), none], [jm_r 8 0], h1)) rfl ?_
  obtain ⟨h2, hR, H⟩ := H
  refine jm_E_call rfl (Nat.le_of_ble_eq_true rfl) (Nat.le_of_ble_eq_true rfl) rfl hR trivial ?_
  refine jm_E_eq (x := (7, [some (jm_r 8 0), some (jm_i a0), some (jm_i a1), some (jm_i v1), none], [], h2)) rfl ?_
  refine jm_E_n 2 (x' := (9, [some (jm_r 8 0), some (jm_i a0), some (jm_i a1), some (jm_i v1), none], [jm_i 0, jm_r 8 0], h2)) rfl ?_
  obtain ⟨v3, h3, hR, H⟩ := H
  refine jm_E_call rfl (Nat.le_of_ble_eq_true rfl) (Nat.le_of_ble_eq_true rfl) rfl hR trivial ?_
  refine jm_E_eq (x := (10, [some (jm_r 8 0), some (jm_i a0), some (jm_i a1), some (jm_i v1), none], [jm_i v3], h3)) rfl ?_
  refine jm_E_n 3 (x' := (13, [some (jm_r 8 0), some (jm_i a0), some (jm_i a1), some (jm_i v1), some (jm_i v3)], [jm_i v1, jm_r 8 0], h3)) rfl ?_
  obtain ⟨h4, hR, H⟩ := H
  refine jm_E_call rfl (Nat.le_of_ble_eq_true rfl) (Nat.le_of_ble_eq_true rfl) rfl hR trivial ?_
  refine jm_E_eq (x := (14, [some (jm_r 8 0), some (jm_i a0), some (jm_i a1), some (jm_i v1), some (jm_i v3)], [], h4)) rfl ?_
  refine jm_E_n 1 (x' := (15, [some (jm_r 8 0), some (jm_i a0), some (jm_i a1), some (jm_i v1), some (jm_i v3)], [jm_i v3], h4)) rfl ?_
  exact jm_E_ret rfl (by rw [H.2]; exact if_pos H.1)
set_option maxRecDepth 100000 in
theorem wp_M_isNeed {a0 : Int32} {h : jm_H} {r : jm_Rs} (H :
  ∃ (v1 : Int32) (h1 : jm_H), m_M_in a0 1 400 h v1 h1 ∧
  narrow .boolean (.int v1) = .int v1 ∧ r = (some (jm_i v1), h1)) : jm_R 175 [jm_r 8 0, jm_i a0] h r := by
  refine jm_R_of hz_175 (Nat.le_of_ble_eq_true rfl) ?_
  show jm_E cod_175 (0, [some (jm_r 8 0), some (jm_i a0)], [], h) r
  refine jm_E_n 3 (x' := (3, [some (jm_r 8 0), some (jm_i a0)], [jm_i 400, jm_i 1, jm_i a0], h)) rfl ?_
  obtain ⟨v1, h1, hR, H⟩ := H
  refine jm_E_call rfl (Nat.le_of_ble_eq_true rfl) (Nat.le_of_ble_eq_true rfl) trivial hR trivial ?_
  refine jm_E_eq (x := (4, [some (jm_r 8 0), some (jm_i a0)], [jm_i v1], h1)) rfl ?_
  exact jm_E_ret rfl (by rw [H.2]; exact if_pos H.1)
set_option maxRecDepth 100000 in
theorem wp_M_isDue {a0 : Int32} {h : jm_H} {r : jm_Rs} (H :
  ∃ (v1 : Int32) (h1 : jm_H), m_M_in a0 ((h.1 56 0 0) + 1) ((h.1 56 0 0) + 400) h v1 h1 ∧
  narrow .boolean (.int v1) = .int v1 ∧ r = (some (jm_i v1), h1)) : jm_R 176 [jm_r 8 0, jm_i a0] h r := by
  refine jm_R_of hz_176 (Nat.le_of_ble_eq_true rfl) ?_
  show jm_E cod_176 (0, [some (jm_r 8 0), some (jm_i a0)], [], h) r
  refine jm_E_n 4 (x' := (4, [some (jm_r 8 0), some (jm_i a0)], [jm_i 0, jm_r 56 0, jm_i a0], h)) rfl ?_
  refine jm_E_iald rfl rfl (by decide) ?_
  refine jm_E_eq (x := (5, [some (jm_r 8 0), some (jm_i a0)], [jm_i (h.1 56 0 0), jm_i a0], h)) rfl ?_
  refine jm_E_n 5 (x' := (10, [some (jm_r 8 0), some (jm_i a0)], [jm_i 0, jm_r 56 0, jm_i ((h.1 56 0 0) + 1), jm_i a0], h)) rfl ?_
  refine jm_E_iald rfl rfl (by decide) ?_
  refine jm_E_eq (x := (11, [some (jm_r 8 0), some (jm_i a0)], [jm_i (h.1 56 0 0), jm_i ((h.1 56 0 0) + 1), jm_i a0], h)) rfl ?_
  refine jm_E_n 2 (x' := (13, [some (jm_r 8 0), some (jm_i a0)], [jm_i ((h.1 56 0 0) + 400), jm_i ((h.1 56 0 0) + 1), jm_i a0], h)) rfl ?_
  obtain ⟨v1, h1, hR, H⟩ := H
  refine jm_E_call rfl (Nat.le_of_ble_eq_true rfl) (Nat.le_of_ble_eq_true rfl) trivial hR trivial ?_
  refine jm_E_eq (x := (14, [some (jm_r 8 0), some (jm_i a0)], [jm_i v1], h1)) rfl ?_
  exact jm_E_ret rfl (by rw [H.2]; exact if_pos H.1)
set_option maxRecDepth 100000 in
theorem wp_M_canTake {a0 : Int32} {a1 : Int32} {h : jm_H} {r : jm_Rs} (H :
  ∃ h1 : jm_H, m_M_anew h h1 ∧
  ∃ (v2 : Int32) (h2 : jm_H), m_M_clockWhy 1 h1 v2 h2 ∧
  (v2 = 0 →
    ∃ (v3 : Int32) (h3 : jm_H), m_M_isNeed a0 h2 v3 h3 ∧
    (v3 = 0 →
      ∃ (v4 : Int32) (h4 : jm_H), m_M_no 2 h3 v4 h4 ∧
      r = (some (jm_i v4), h4)) ∧
    (¬ (v3 = 0) →
      ∃ (v5 : Int32) (h5 : jm_H), m_M_isDue a1 h3 v5 h5 ∧
      (v5 = 0 →
        ∃ (v6 : Int32) (h6 : jm_H), m_M_no 2 h5 v6 h6 ∧
        r = (some (jm_i v6), h6)) ∧
      (¬ (v5 = 0) →
        ∃ (v7 : Int32) (h7 : jm_H), m_M_canBeTaken a0 a1 h5 v7 h7 ∧
        (v7 = 0 →
          r = (some (jm_i 0), h7)) ∧
        (¬ (v7 = 0) →
          r = (some (jm_i 1), h7))))) ∧
  (¬ (v2 = 0) →
    ∃ (v8 : Int32) (h8 : jm_H), m_M_no v2 h2 v8 h8 ∧
    r = (some (jm_i v8), h8))) : jm_R 177 [jm_r 8 0, jm_i a0, jm_i a1] h r := by
  refine jm_R_of hz_177 (Nat.le_of_ble_eq_true rfl) ?_
  show jm_E cod_177 (0, [some (jm_r 8 0), some (jm_i a0), some (jm_i a1), none], [], h) r
  refine jm_E_n 1 (x' := (1, [some (jm_r 8 0), some (jm_i a0), some (jm_i a1), none], [jm_r 8 0], h)) rfl ?_
  obtain ⟨h1, hR, H⟩ := H
  refine jm_E_call rfl (Nat.le_of_ble_eq_true rfl) (Nat.le_of_ble_eq_true rfl) rfl hR trivial ?_
  refine jm_E_eq (x := (2, [some (jm_r 8 0), some (jm_i a0), some (jm_i a1), none], [], h1)) rfl ?_
  refine jm_E_n 2 (x' := (4, [some (jm_r 8 0), some (jm_i a0), some (jm_i a1), none], [jm_i 1, jm_r 8 0], h1)) rfl ?_
  obtain ⟨v2, h2, hR, H⟩ := H
  refine jm_E_call rfl (Nat.le_of_ble_eq_true rfl) (Nat.le_of_ble_eq_true rfl) rfl hR trivial ?_
  refine jm_E_eq (x := (5, [some (jm_r 8 0), some (jm_i a0), some (jm_i a1), none], [jm_i v2], h2)) rfl ?_
  refine jm_E_n 3 (x' := (if v2 = 0 then 12 else 8, [some (jm_r 8 0), some (jm_i a0), some (jm_i a1), some (jm_i v2)], [], h2)) rfl ?_
  refine jm_E_ite (fun hc => ?_) (fun hc => ?_)
  · replace H := H.1 hc
    refine jm_E_n 2 (x' := (14, [some (jm_r 8 0), some (jm_i a0), some (jm_i a1), some (jm_i v2)], [jm_i a0, jm_r 8 0], h2)) rfl ?_
    obtain ⟨v3, h3, hR, H⟩ := H
    refine jm_E_call rfl (Nat.le_of_ble_eq_true rfl) (Nat.le_of_ble_eq_true rfl) rfl hR trivial ?_
    refine jm_E_eq (x := (15, [some (jm_r 8 0), some (jm_i a0), some (jm_i a1), some (jm_i v2)], [jm_i v3], h3)) rfl ?_
    refine jm_E_n 1 (x' := (if v3 = 0 then 20 else 16, [some (jm_r 8 0), some (jm_i a0), some (jm_i a1), some (jm_i v2)], [], h3)) rfl ?_
    refine jm_E_ite (fun hc => ?_) (fun hc => ?_)
    · replace H := H.1 hc
      refine jm_E_n 2 (x' := (22, [some (jm_r 8 0), some (jm_i a0), some (jm_i a1), some (jm_i v2)], [jm_i 2, jm_r 8 0], h3)) rfl ?_
      obtain ⟨v4, h4, hR, H⟩ := H
      refine jm_E_call rfl (Nat.le_of_ble_eq_true rfl) (Nat.le_of_ble_eq_true rfl) rfl hR trivial ?_
      refine jm_E_eq (x := (23, [some (jm_r 8 0), some (jm_i a0), some (jm_i a1), some (jm_i v2)], [jm_i v4], h4)) rfl ?_
      exact jm_E_ret rfl (by rw [H]; rfl)
    · replace H := H.2 hc
      refine jm_E_n 2 (x' := (18, [some (jm_r 8 0), some (jm_i a0), some (jm_i a1), some (jm_i v2)], [jm_i a1, jm_r 8 0], h3)) rfl ?_
      obtain ⟨v5, h5, hR, H⟩ := H
      refine jm_E_call rfl (Nat.le_of_ble_eq_true rfl) (Nat.le_of_ble_eq_true rfl) rfl hR trivial ?_
      refine jm_E_eq (x := (19, [some (jm_r 8 0), some (jm_i a0), some (jm_i a1), some (jm_i v2)], [jm_i v5], h5)) rfl ?_
      refine jm_E_n 1 (x' := (if v5 = 0 then 20 else 24, [some (jm_r 8 0), some (jm_i a0), some (jm_i a1), some (jm_i v2)], [], h5)) rfl ?_
      refine jm_E_ite (fun hc => ?_) (fun hc => ?_)
      · replace H := H.1 hc
        refine jm_E_n 2 (x' := (22, [some (jm_r 8 0), some (jm_i a0), some (jm_i a1), some (jm_i v2)], [jm_i 2, jm_r 8 0], h5)) rfl ?_
        obtain ⟨v6, h6, hR, H⟩ := H
        refine jm_E_call rfl (Nat.le_of_ble_eq_true rfl) (Nat.le_of_ble_eq_true rfl) rfl hR trivial ?_
        refine jm_E_eq (x := (23, [some (jm_r 8 0), some (jm_i a0), some (jm_i a1), some (jm_i v2)], [jm_i v6], h6)) rfl ?_
        exact jm_E_ret rfl (by rw [H]; rfl)
      · replace H := H.2 hc
        refine jm_E_n 3 (x' := (27, [some (jm_r 8 0), some (jm_i a0), some (jm_i a1), some (jm_i v2)], [jm_i a1, jm_i a0, jm_r 8 0], h5)) rfl ?_
        obtain ⟨v7, h7, hR, H⟩ := H
        refine jm_E_call rfl (Nat.le_of_ble_eq_true rfl) (Nat.le_of_ble_eq_true rfl) rfl hR trivial ?_
        refine jm_E_eq (x := (28, [some (jm_r 8 0), some (jm_i a0), some (jm_i a1), some (jm_i v2)], [jm_i v7], h7)) rfl ?_
        refine jm_E_n 1 (x' := (if v7 = 0 then 31 else 29, [some (jm_r 8 0), some (jm_i a0), some (jm_i a1), some (jm_i v2)], [], h7)) rfl ?_
        refine jm_E_ite (fun hc => ?_) (fun hc => ?_)
        · replace H := H.1 hc
          refine jm_E_n 1 (x' := (32, [some (jm_r 8 0), some (jm_i a0), some (jm_i a1), some (jm_i v2)], [jm_i 0], h7)) rfl ?_
          exact jm_E_ret rfl (by rw [H]; rfl)
        · replace H := H.2 hc
          refine jm_E_n 2 (x' := (32, [some (jm_r 8 0), some (jm_i a0), some (jm_i a1), some (jm_i v2)], [jm_i 1], h7)) rfl ?_
          exact jm_E_ret rfl (by rw [H]; rfl)
  · replace H := H.2 hc
    refine jm_E_n 2 (x' := (10, [some (jm_r 8 0), some (jm_i a0), some (jm_i a1), some (jm_i v2)], [jm_i v2, jm_r 8 0], h2)) rfl ?_
    obtain ⟨v8, h8, hR, H⟩ := H
    refine jm_E_call rfl (Nat.le_of_ble_eq_true rfl) (Nat.le_of_ble_eq_true rfl) rfl hR trivial ?_
    refine jm_E_eq (x := (11, [some (jm_r 8 0), some (jm_i a0), some (jm_i a1), some (jm_i v2)], [jm_i v8], h8)) rfl ?_
    exact jm_E_ret rfl (by rw [H]; rfl)
set_option maxRecDepth 100000 in
theorem wp_M_take {a0 : Int32} {a1 : Int32} {h : jm_H} {r : jm_Rs} (H :
  ∃ h1 : jm_H, m_M_anew h h1 ∧
  ∃ (v2 : Int32) (h2 : jm_H), m_M_clockWhy 1 h1 v2 h2 ∧
  (v2 = 0 →
    ∃ (v3 : Int32) (h3 : jm_H), m_M_isNeed a0 h2 v3 h3 ∧
    (v3 = 0 →
      ∃ (v4 : Int32) (h4 : jm_H), m_M_no 2 h3 v4 h4 ∧
      r = (some (jm_i v4), h4)) ∧
    (¬ (v3 = 0) →
      ∃ (v5 : Int32) (h5 : jm_H), m_M_isDue a1 h3 v5 h5 ∧
      (v5 = 0 →
        ∃ (v6 : Int32) (h6 : jm_H), m_M_no 2 h5 v6 h6 ∧
        r = (some (jm_i v6), h6)) ∧
      (¬ (v5 = 0) →
        ((h5.1 56 0 3) = 8 →
          ∃ (v7 : Int32) (h7 : jm_H), m_M_no 3 h5 v7 h7 ∧
          r = (some (jm_i v7), h7)) ∧
        (¬ ((h5.1 56 0 3) = 8) →
          ∃ (v8 : Int32) (h8 : jm_H), m_M_canBeTaken a0 a1 h5 v8 h8 ∧
          (v8 = 0 →
            ∃ (v9 : Int32) (h9 : jm_H), m_M_no 5 h8 v9 h9 ∧
            r = (some (jm_i v9), h9)) ∧
          (¬ (v8 = 0) →
            ∃ (v10 : Int32) (h10 : jm_H), m_M_puts a0 a1 h8 v10 h10 ∧
            r = (some (jm_i v10), h10)))))) ∧
  (¬ (v2 = 0) →
    ∃ (v11 : Int32) (h11 : jm_H), m_M_no v2 h2 v11 h11 ∧
    r = (some (jm_i v11), h11))) : jm_R 178 [jm_r 8 0, jm_i a0, jm_i a1] h r := by
  refine jm_R_of hz_178 (Nat.le_of_ble_eq_true rfl) ?_
  show jm_E cod_178 (0, [some (jm_r 8 0), some (jm_i a0), some (jm_i a1), none], [], h) r
  refine jm_E_n 1 (x' := (1, [some (jm_r 8 0), some (jm_i a0), some (jm_i a1), none], [jm_r 8 0], h)) rfl ?_
  obtain ⟨h1, hR, H⟩ := H
  refine jm_E_call rfl (Nat.le_of_ble_eq_true rfl) (Nat.le_of_ble_eq_true rfl) rfl hR trivial ?_
  refine jm_E_eq (x := (2, [some (jm_r 8 0), some (jm_i a0), some (jm_i a1), none], [], h1)) rfl ?_
  refine jm_E_n 2 (x' := (4, [some (jm_r 8 0), some (jm_i a0), some (jm_i a1), none], [jm_i 1, jm_r 8 0], h1)) rfl ?_
  obtain ⟨v2, h2, hR, H⟩ := H
  refine jm_E_call rfl (Nat.le_of_ble_eq_true rfl) (Nat.le_of_ble_eq_true rfl) rfl hR trivial ?_
  refine jm_E_eq (x := (5, [some (jm_r 8 0), some (jm_i a0), some (jm_i a1), none], [jm_i v2], h2)) rfl ?_
  refine jm_E_n 3 (x' := (if v2 = 0 then 12 else 8, [some (jm_r 8 0), some (jm_i a0), some (jm_i a1), some (jm_i v2)], [], h2)) rfl ?_
  refine jm_E_ite (fun hc => ?_) (fun hc => ?_)
  · replace H := H.1 hc
    refine jm_E_n 2 (x' := (14, [some (jm_r 8 0), some (jm_i a0), some (jm_i a1), some (jm_i v2)], [jm_i a0, jm_r 8 0], h2)) rfl ?_
    obtain ⟨v3, h3, hR, H⟩ := H
    refine jm_E_call rfl (Nat.le_of_ble_eq_true rfl) (Nat.le_of_ble_eq_true rfl) rfl hR trivial ?_
    refine jm_E_eq (x := (15, [some (jm_r 8 0), some (jm_i a0), some (jm_i a1), some (jm_i v2)], [jm_i v3], h3)) rfl ?_
    refine jm_E_n 1 (x' := (if v3 = 0 then 20 else 16, [some (jm_r 8 0), some (jm_i a0), some (jm_i a1), some (jm_i v2)], [], h3)) rfl ?_
    refine jm_E_ite (fun hc => ?_) (fun hc => ?_)
    · replace H := H.1 hc
      refine jm_E_n 2 (x' := (22, [some (jm_r 8 0), some (jm_i a0), some (jm_i a1), some (jm_i v2)], [jm_i 2, jm_r 8 0], h3)) rfl ?_
      obtain ⟨v4, h4, hR, H⟩ := H
      refine jm_E_call rfl (Nat.le_of_ble_eq_true rfl) (Nat.le_of_ble_eq_true rfl) rfl hR trivial ?_
      refine jm_E_eq (x := (23, [some (jm_r 8 0), some (jm_i a0), some (jm_i a1), some (jm_i v2)], [jm_i v4], h4)) rfl ?_
      exact jm_E_ret rfl (by rw [H]; rfl)
    · replace H := H.2 hc
      refine jm_E_n 2 (x' := (18, [some (jm_r 8 0), some (jm_i a0), some (jm_i a1), some (jm_i v2)], [jm_i a1, jm_r 8 0], h3)) rfl ?_
      obtain ⟨v5, h5, hR, H⟩ := H
      refine jm_E_call rfl (Nat.le_of_ble_eq_true rfl) (Nat.le_of_ble_eq_true rfl) rfl hR trivial ?_
      refine jm_E_eq (x := (19, [some (jm_r 8 0), some (jm_i a0), some (jm_i a1), some (jm_i v2)], [jm_i v5], h5)) rfl ?_
      refine jm_E_n 1 (x' := (if v5 = 0 then 20 else 24, [some (jm_r 8 0), some (jm_i a0), some (jm_i a1), some (jm_i v2)], [], h5)) rfl ?_
      refine jm_E_ite (fun hc => ?_) (fun hc => ?_)
      · replace H := H.1 hc
        refine jm_E_n 2 (x' := (22, [some (jm_r 8 0), some (jm_i a0), some (jm_i a1), some (jm_i v2)], [jm_i 2, jm_r 8 0], h5)) rfl ?_
        obtain ⟨v6, h6, hR, H⟩ := H
        refine jm_E_call rfl (Nat.le_of_ble_eq_true rfl) (Nat.le_of_ble_eq_true rfl) rfl hR trivial ?_
        refine jm_E_eq (x := (23, [some (jm_r 8 0), some (jm_i a0), some (jm_i a1), some (jm_i v2)], [jm_i v6], h6)) rfl ?_
        exact jm_E_ret rfl (by rw [H]; rfl)
      · replace H := H.2 hc
        refine jm_E_n 3 (x' := (27, [some (jm_r 8 0), some (jm_i a0), some (jm_i a1), some (jm_i v2)], [jm_i 3, jm_r 56 0], h5)) rfl ?_
        refine jm_E_iald rfl rfl (by decide) ?_
        refine jm_E_eq (x := (28, [some (jm_r 8 0), some (jm_i a0), some (jm_i a1), some (jm_i v2)], [jm_i (h5.1 56 0 3)], h5)) rfl ?_
        refine jm_E_n 2 (x' := (if (h5.1 56 0 3) = 8 then 30 else 34, [some (jm_r 8 0), some (jm_i a0), some (jm_i a1), some (jm_i v2)], [], h5)) rfl ?_
        refine jm_E_ite (fun hc => ?_) (fun hc => ?_)
        · replace H := H.1 hc
          refine jm_E_n 2 (x' := (32, [some (jm_r 8 0), some (jm_i a0), some (jm_i a1), some (jm_i v2)], [jm_i 3, jm_r 8 0], h5)) rfl ?_
          obtain ⟨v7, h7, hR, H⟩ := H
          refine jm_E_call rfl (Nat.le_of_ble_eq_true rfl) (Nat.le_of_ble_eq_true rfl) rfl hR trivial ?_
          refine jm_E_eq (x := (33, [some (jm_r 8 0), some (jm_i a0), some (jm_i a1), some (jm_i v2)], [jm_i v7], h7)) rfl ?_
          exact jm_E_ret rfl (by rw [H]; rfl)
        · replace H := H.2 hc
          refine jm_E_n 3 (x' := (37, [some (jm_r 8 0), some (jm_i a0), some (jm_i a1), some (jm_i v2)], [jm_i a1, jm_i a0, jm_r 8 0], h5)) rfl ?_
          obtain ⟨v8, h8, hR, H⟩ := H
          refine jm_E_call rfl (Nat.le_of_ble_eq_true rfl) (Nat.le_of_ble_eq_true rfl) rfl hR trivial ?_
          refine jm_E_eq (x := (38, [some (jm_r 8 0), some (jm_i a0), some (jm_i a1), some (jm_i v2)], [jm_i v8], h8)) rfl ?_
          refine jm_E_n 1 (x' := (if v8 = 0 then 44 else 39, [some (jm_r 8 0), some (jm_i a0), some (jm_i a1), some (jm_i v2)], [], h8)) rfl ?_
          refine jm_E_ite (fun hc => ?_) (fun hc => ?_)
          · replace H := H.1 hc
            refine jm_E_n 2 (x' := (46, [some (jm_r 8 0), some (jm_i a0), some (jm_i a1), some (jm_i v2)], [jm_i 5, jm_r 8 0], h8)) rfl ?_
            obtain ⟨v9, h9, hR, H⟩ := H
            refine jm_E_call rfl (Nat.le_of_ble_eq_true rfl) (Nat.le_of_ble_eq_true rfl) rfl hR trivial ?_
            refine jm_E_eq (x := (47, [some (jm_r 8 0), some (jm_i a0), some (jm_i a1), some (jm_i v2)], [jm_i v9], h9)) rfl ?_
            exact jm_E_ret rfl (by rw [H]; rfl)
          · replace H := H.2 hc
            refine jm_E_n 3 (x' := (42, [some (jm_r 8 0), some (jm_i a0), some (jm_i a1), some (jm_i v2)], [jm_i a1, jm_i a0, jm_r 8 0], h8)) rfl ?_
            obtain ⟨v10, h10, hR, H⟩ := H
            refine jm_E_call rfl (Nat.le_of_ble_eq_true rfl) (Nat.le_of_ble_eq_true rfl) rfl hR trivial ?_
            refine jm_E_eq (x := (43, [some (jm_r 8 0), some (jm_i a0), some (jm_i a1), some (jm_i v2)], [jm_i v10], h10)) rfl ?_
            refine jm_E_n 1 (x' := (47, [some (jm_r 8 0), some (jm_i a0), some (jm_i a1), some (jm_i v2)], [jm_i v10], h10)) rfl ?_
            exact jm_E_ret rfl (by rw [H]; rfl)
  · replace H := H.2 hc
    refine jm_E_n 2 (x' := (10, [some (jm_r 8 0), some (jm_i a0), some (jm_i a1), some (jm_i v2)], [jm_i v2, jm_r 8 0], h2)) rfl ?_
    obtain ⟨v11, h11, hR, H⟩ := H
    refine jm_E_call rfl (Nat.le_of_ble_eq_true rfl) (Nat.le_of_ble_eq_true rfl) rfl hR trivial ?_
    refine jm_E_eq (x := (11, [some (jm_r 8 0), some (jm_i a0), some (jm_i a1), some (jm_i v2)], [jm_i v11], h11)) rfl ?_
    exact jm_E_ret rfl (by rw [H]; rfl)
set_option maxRecDepth 100000 in
theorem wp_M_soonest_27 {x1 : Int32} {x3 : Int32} {h : jm_H} {r : jm_Rs} (H :
  (((h.1 56 0 0) + 400) < x3 →
    r = (some (jm_i (-2)), h)) ∧
  (¬ (((h.1 56 0 0) + 400) < x3) →
    ∃ (v6 : Int32) (h6 : jm_H), m_M_canBeTaken x1 x3 h v6 h6 ∧
    (v6 = 0 →
      l_M_soonest_27 x1 (x3 + 1) h6 r) ∧
    (¬ (v6 = 0) →
      r = (some (jm_i x3), h6)))) : l_M_soonest_27 x1 x3 h r := by
  refine jm_E_n 4 (x' := (31, [some (jm_r 8 0), some (jm_i x1), none, some (jm_i x3)], [jm_i 0, jm_r 56 0, jm_i x3], h)) rfl ?_
  refine jm_E_iald rfl rfl (by decide) ?_
  refine jm_E_eq (x := (32, [some (jm_r 8 0), some (jm_i x1), none, some (jm_i x3)], [jm_i (h.1 56 0 0), jm_i x3], h)) rfl ?_
  refine jm_E_n 3 (x' := (if ((h.1 56 0 0) + 400) < x3 then 44 else 35, [some (jm_r 8 0), some (jm_i x1), none, some (jm_i x3)], [], h)) rfl ?_
  refine jm_E_ite (fun hc => ?_) (fun hc => ?_)
  · replace H := H.1 hc
    refine jm_E_n 1 (x' := (45, [some (jm_r 8 0), some (jm_i x1), none, some (jm_i x3)], [jm_i (-2)], h)) rfl ?_
    exact jm_E_ret rfl (by rw [H]; rfl)
  · replace H := H.2 hc
    refine jm_E_n 3 (x' := (38, [some (jm_r 8 0), some (jm_i x1), none, some (jm_i x3)], [jm_i x3, jm_i x1, jm_r 8 0], h)) rfl ?_
    obtain ⟨v6, h6, hR, H⟩ := H
    refine jm_E_call rfl (Nat.le_of_ble_eq_true rfl) (Nat.le_of_ble_eq_true rfl) rfl hR trivial ?_
    refine jm_E_eq (x := (39, [some (jm_r 8 0), some (jm_i x1), none, some (jm_i x3)], [jm_i v6], h6)) rfl ?_
    refine jm_E_n 1 (x' := (if v6 = 0 then 42 else 40, [some (jm_r 8 0), some (jm_i x1), none, some (jm_i x3)], [], h6)) rfl ?_
    refine jm_E_ite (fun hc => ?_) (fun hc => ?_)
    · replace H := H.1 hc
      refine jm_E_n 2 (x' := (27, [some (jm_r 8 0), some (jm_i x1), none, some (jm_i (x3 + 1))], [], h6)) rfl ?_
      exact H
    · replace H := H.2 hc
      refine jm_E_n 1 (x' := (41, [some (jm_r 8 0), some (jm_i x1), none, some (jm_i x3)], [jm_i x3], h6)) rfl ?_
      exact jm_E_ret rfl (by rw [H]; rfl)
set_option maxRecDepth 100000 in
theorem wp_M_soonest {a0 : Int32} {h : jm_H} {r : jm_Rs} (H :
  ∃ h1 : jm_H, m_M_anew h h1 ∧
  ∃ (v2 : Int32) (h2 : jm_H), m_M_clockWhy 1 h1 v2 h2 ∧
  (v2 = 0 →
    ∃ (v3 : Int32) (h3 : jm_H), m_M_isNeed a0 h2 v3 h3 ∧
    (v3 = 0 →
      ∃ (v4 : Int32) (h4 : jm_H), m_M_no 2 h3 v4 h4 ∧
      r = (some (jm_i v4), h4)) ∧
    (¬ (v3 = 0) →
      l_M_soonest_27 a0 ((h3.1 56 0 0) + 1) h3 r)) ∧
  (¬ (v2 = 0) →
    ∃ (v5 : Int32) (h5 : jm_H), m_M_no v2 h2 v5 h5 ∧
    r = (some (jm_i v5), h5))) : jm_R 179 [jm_r 8 0, jm_i a0] h r := by
  refine jm_R_of hz_179 (Nat.le_of_ble_eq_true rfl) ?_
  show jm_E cod_179 (0, [some (jm_r 8 0), some (jm_i a0), none, none], [], h) r
  refine jm_E_n 1 (x' := (1, [some (jm_r 8 0), some (jm_i a0), none, none], [jm_r 8 0], h)) rfl ?_
  obtain ⟨h1, hR, H⟩ := H
  refine jm_E_call rfl (Nat.le_of_ble_eq_true rfl) (Nat.le_of_ble_eq_true rfl) rfl hR trivial ?_
  refine jm_E_eq (x := (2, [some (jm_r 8 0), some (jm_i a0), none, none], [], h1)) rfl ?_
  refine jm_E_n 2 (x' := (4, [some (jm_r 8 0), some (jm_i a0), none, none], [jm_i 1, jm_r 8 0], h1)) rfl ?_
  obtain ⟨v2, h2, hR, H⟩ := H
  refine jm_E_call rfl (Nat.le_of_ble_eq_true rfl) (Nat.le_of_ble_eq_true rfl) rfl hR trivial ?_
  refine jm_E_eq (x := (5, [some (jm_r 8 0), some (jm_i a0), none, none], [jm_i v2], h2)) rfl ?_
  refine jm_E_n 3 (x' := (if v2 = 0 then 12 else 8, [some (jm_r 8 0), some (jm_i a0), some (jm_i v2), none], [], h2)) rfl ?_
  refine jm_E_ite (fun hc => ?_) (fun hc => ?_)
  · replace H := H.1 hc
    refine jm_E_n 2 (x' := (14, [some (jm_r 8 0), some (jm_i a0), some (jm_i v2), none], [jm_i a0, jm_r 8 0], h2)) rfl ?_
    obtain ⟨v3, h3, hR, H⟩ := H
    refine jm_E_call rfl (Nat.le_of_ble_eq_true rfl) (Nat.le_of_ble_eq_true rfl) rfl hR trivial ?_
    refine jm_E_eq (x := (15, [some (jm_r 8 0), some (jm_i a0), some (jm_i v2), none], [jm_i v3], h3)) rfl ?_
    refine jm_E_n 1 (x' := (if v3 = 0 then 16 else 20, [some (jm_r 8 0), some (jm_i a0), some (jm_i v2), none], [], h3)) rfl ?_
    refine jm_E_ite (fun hc => ?_) (fun hc => ?_)
    · replace H := H.1 hc
      refine jm_E_n 2 (x' := (18, [some (jm_r 8 0), some (jm_i a0), some (jm_i v2), none], [jm_i 2, jm_r 8 0], h3)) rfl ?_
      obtain ⟨v4, h4, hR, H⟩ := H
      refine jm_E_call rfl (Nat.le_of_ble_eq_true rfl) (Nat.le_of_ble_eq_true rfl) rfl hR trivial ?_
      refine jm_E_eq (x := (19, [some (jm_r 8 0), some (jm_i a0), some (jm_i v2), none], [jm_i v4], h4)) rfl ?_
      exact jm_E_ret rfl (by rw [H]; rfl)
    · replace H := H.2 hc
      refine jm_E_n 3 (x' := (23, [some (jm_r 8 0), some (jm_i a0), some (jm_i v2), none], [jm_i 0, jm_r 56 0], h3)) rfl ?_
      refine jm_E_iald rfl rfl (by decide) ?_
      refine jm_E_eq (x := (24, [some (jm_r 8 0), some (jm_i a0), some (jm_i v2), none], [jm_i (h3.1 56 0 0)], h3)) rfl ?_
      refine jm_E_n 3 (x' := (27, [some (jm_r 8 0), some (jm_i a0), some (jm_i v2), some (jm_i ((h3.1 56 0 0) + 1))], [], h3)) rfl ?_
      exact jm_E_weak (jm_le_s (jm_le_s (jm_le_n (jm_le_s jm_le_nil)))) H
  · replace H := H.2 hc
    refine jm_E_n 2 (x' := (10, [some (jm_r 8 0), some (jm_i a0), some (jm_i v2), none], [jm_i v2, jm_r 8 0], h2)) rfl ?_
    obtain ⟨v5, h5, hR, H⟩ := H
    refine jm_E_call rfl (Nat.le_of_ble_eq_true rfl) (Nat.le_of_ble_eq_true rfl) rfl hR trivial ?_
    refine jm_E_eq (x := (11, [some (jm_r 8 0), some (jm_i a0), some (jm_i v2), none], [jm_i v5], h5)) rfl ?_
    exact jm_E_ret rfl (by rw [H]; rfl)
set_option maxRecDepth 100000 in
theorem wp_M_greatest_22 {x1 : Int32} {x3 : Int32} {h : jm_H} {r : jm_Rs} (H :
  (x3 ≤ 0 →
    r = (some (jm_i x3), h)) ∧
  (¬ (x3 ≤ 0) →
    ∃ (v6 : Int32) (h6 : jm_H), m_M_canBeTaken x3 x1 h v6 h6 ∧
    (v6 = 0 →
      l_M_greatest_22 x1 (x3 + (-1)) h6 r) ∧
    (¬ (v6 = 0) →
      r = (some (jm_i x3), h6)))) : l_M_greatest_22 x1 x3 h r := by
  refine jm_E_n 2 (x' := (if x3 ≤ 0 then 31 else 24, [some (jm_r 8 0), some (jm_i x1), none, some (jm_i x3)], [], h)) rfl ?_
  refine jm_E_ite (fun hc => ?_) (fun hc => ?_)
  · replace H := H.1 hc
    refine jm_E_n 1 (x' := (32, [some (jm_r 8 0), some (jm_i x1), none, some (jm_i x3)], [jm_i x3], h)) rfl ?_
    exact jm_E_ret rfl (by rw [H]; rfl)
  · replace H := H.2 hc
    refine jm_E_n 3 (x' := (27, [some (jm_r 8 0), some (jm_i x1), none, some (jm_i x3)], [jm_i x1, jm_i x3, jm_r 8 0], h)) rfl ?_
    obtain ⟨v6, h6, hR, H⟩ := H
    refine jm_E_call rfl (Nat.le_of_ble_eq_true rfl) (Nat.le_of_ble_eq_true rfl) rfl hR trivial ?_
    refine jm_E_eq (x := (28, [some (jm_r 8 0), some (jm_i x1), none, some (jm_i x3)], [jm_i v6], h6)) rfl ?_
    refine jm_E_n 1 (x' := (if v6 = 0 then 29 else 31, [some (jm_r 8 0), some (jm_i x1), none, some (jm_i x3)], [], h6)) rfl ?_
    refine jm_E_ite (fun hc => ?_) (fun hc => ?_)
    · replace H := H.1 hc
      refine jm_E_n 2 (x' := (22, [some (jm_r 8 0), some (jm_i x1), none, some (jm_i (x3 + (-1)))], [], h6)) rfl ?_
      exact H
    · replace H := H.2 hc
      refine jm_E_n 1 (x' := (32, [some (jm_r 8 0), some (jm_i x1), none, some (jm_i x3)], [jm_i x3], h6)) rfl ?_
      exact jm_E_ret rfl (by rw [H]; rfl)
set_option maxRecDepth 100000 in
theorem wp_M_greatest {a0 : Int32} {h : jm_H} {r : jm_Rs} (H :
  ∃ h1 : jm_H, m_M_anew h h1 ∧
  ∃ (v2 : Int32) (h2 : jm_H), m_M_clockWhy 1 h1 v2 h2 ∧
  (v2 = 0 →
    ∃ (v3 : Int32) (h3 : jm_H), m_M_isDue a0 h2 v3 h3 ∧
    (v3 = 0 →
      ∃ (v4 : Int32) (h4 : jm_H), m_M_no 2 h3 v4 h4 ∧
      r = (some (jm_i v4), h4)) ∧
    (¬ (v3 = 0) →
      l_M_greatest_22 a0 400 h3 r)) ∧
  (¬ (v2 = 0) →
    ∃ (v5 : Int32) (h5 : jm_H), m_M_no v2 h2 v5 h5 ∧
    r = (some (jm_i v5), h5))) : jm_R 180 [jm_r 8 0, jm_i a0] h r := by
  refine jm_R_of hz_180 (Nat.le_of_ble_eq_true rfl) ?_
  show jm_E cod_180 (0, [some (jm_r 8 0), some (jm_i a0), none, none], [], h) r
  refine jm_E_n 1 (x' := (1, [some (jm_r 8 0), some (jm_i a0), none, none], [jm_r 8 0], h)) rfl ?_
  obtain ⟨h1, hR, H⟩ := H
  refine jm_E_call rfl (Nat.le_of_ble_eq_true rfl) (Nat.le_of_ble_eq_true rfl) rfl hR trivial ?_
  refine jm_E_eq (x := (2, [some (jm_r 8 0), some (jm_i a0), none, none], [], h1)) rfl ?_
  refine jm_E_n 2 (x' := (4, [some (jm_r 8 0), some (jm_i a0), none, none], [jm_i 1, jm_r 8 0], h1)) rfl ?_
  obtain ⟨v2, h2, hR, H⟩ := H
  refine jm_E_call rfl (Nat.le_of_ble_eq_true rfl) (Nat.le_of_ble_eq_true rfl) rfl hR trivial ?_
  refine jm_E_eq (x := (5, [some (jm_r 8 0), some (jm_i a0), none, none], [jm_i v2], h2)) rfl ?_
  refine jm_E_n 3 (x' := (if v2 = 0 then 12 else 8, [some (jm_r 8 0), some (jm_i a0), some (jm_i v2), none], [], h2)) rfl ?_
  refine jm_E_ite (fun hc => ?_) (fun hc => ?_)
  · replace H := H.1 hc
    refine jm_E_n 2 (x' := (14, [some (jm_r 8 0), some (jm_i a0), some (jm_i v2), none], [jm_i a0, jm_r 8 0], h2)) rfl ?_
    obtain ⟨v3, h3, hR, H⟩ := H
    refine jm_E_call rfl (Nat.le_of_ble_eq_true rfl) (Nat.le_of_ble_eq_true rfl) rfl hR trivial ?_
    refine jm_E_eq (x := (15, [some (jm_r 8 0), some (jm_i a0), some (jm_i v2), none], [jm_i v3], h3)) rfl ?_
    refine jm_E_n 1 (x' := (if v3 = 0 then 16 else 20, [some (jm_r 8 0), some (jm_i a0), some (jm_i v2), none], [], h3)) rfl ?_
    refine jm_E_ite (fun hc => ?_) (fun hc => ?_)
    · replace H := H.1 hc
      refine jm_E_n 2 (x' := (18, [some (jm_r 8 0), some (jm_i a0), some (jm_i v2), none], [jm_i 2, jm_r 8 0], h3)) rfl ?_
      obtain ⟨v4, h4, hR, H⟩ := H
      refine jm_E_call rfl (Nat.le_of_ble_eq_true rfl) (Nat.le_of_ble_eq_true rfl) rfl hR trivial ?_
      refine jm_E_eq (x := (19, [some (jm_r 8 0), some (jm_i a0), some (jm_i v2), none], [jm_i v4], h4)) rfl ?_
      exact jm_E_ret rfl (by rw [H]; rfl)
    · replace H := H.2 hc
      refine jm_E_n 2 (x' := (22, [some (jm_r 8 0), some (jm_i a0), some (jm_i v2), some (jm_i 400)], [], h3)) rfl ?_
      exact jm_E_weak (jm_le_s (jm_le_s (jm_le_n (jm_le_s jm_le_nil)))) H
  · replace H := H.2 hc
    refine jm_E_n 2 (x' := (10, [some (jm_r 8 0), some (jm_i a0), some (jm_i v2), none], [jm_i v2, jm_r 8 0], h2)) rfl ?_
    obtain ⟨v5, h5, hR, H⟩ := H
    refine jm_E_call rfl (Nat.le_of_ble_eq_true rfl) (Nat.le_of_ble_eq_true rfl) rfl hR trivial ?_
    refine jm_E_eq (x := (11, [some (jm_r 8 0), some (jm_i a0), some (jm_i v2), none], [jm_i v5], h5)) rfl ?_
    exact jm_E_ret rfl (by rw [H]; rfl)
set_option maxRecDepth 100000 in
theorem wp_M_spareNow_9 {x1 : Int32} {x2 : Int32} {h : jm_H} {r : jm_Rs} (H :
  (x2 = 0 →
    ∃ h4 : jm_H, m_M_looksAhead h h4 ∧
    ∃ (v5 : Int32) (h5 : jm_H), m_M_areInTime (x1 + (-1)) h4 v5 h5 ∧
    l_M_spareNow_9 (x1 + (-1)) v5 h5 r) ∧
  (¬ (x2 = 0) →
    r = (some (jm_i x1), h))) : l_M_spareNow_9 x1 x2 h r := by
  refine jm_E_n 2 (x' := (if x2 = 0 then 11 else 19, [some (jm_r 8 0), some (jm_i x1), some (jm_i x2)], [], h)) rfl ?_
  refine jm_E_ite (fun hc => ?_) (fun hc => ?_)
  · replace H := H.1 hc
    refine jm_E_n 2 (x' := (13, [some (jm_r 8 0), some (jm_i (x1 + (-1))), some (jm_i x2)], [jm_r 8 0], h)) rfl ?_
    obtain ⟨h4, hR, H⟩ := H
    refine jm_E_call rfl (Nat.le_of_ble_eq_true rfl) (Nat.le_of_ble_eq_true rfl) rfl hR trivial ?_
    refine jm_E_eq (x := (14, [some (jm_r 8 0), some (jm_i (x1 + (-1))), some (jm_i x2)], [], h4)) rfl ?_
    refine jm_E_n 2 (x' := (16, [some (jm_r 8 0), some (jm_i (x1 + (-1))), some (jm_i x2)], [jm_i (x1 + (-1)), jm_r 8 0], h4)) rfl ?_
    obtain ⟨v5, h5, hR, H⟩ := H
    refine jm_E_call rfl (Nat.le_of_ble_eq_true rfl) (Nat.le_of_ble_eq_true rfl) rfl hR trivial ?_
    refine jm_E_eq (x := (17, [some (jm_r 8 0), some (jm_i (x1 + (-1))), some (jm_i x2)], [jm_i v5], h5)) rfl ?_
    refine jm_E_n 2 (x' := (9, [some (jm_r 8 0), some (jm_i (x1 + (-1))), some (jm_i v5)], [], h5)) rfl ?_
    exact H
  · replace H := H.2 hc
    refine jm_E_n 1 (x' := (20, [some (jm_r 8 0), some (jm_i x1), some (jm_i x2)], [jm_i x1], h)) rfl ?_
    exact jm_E_ret rfl (by rw [H]; rfl)
set_option maxRecDepth 100000 in
theorem wp_M_spareNow  {h : jm_H} {r : jm_Rs} (H :
  ∃ h1 : jm_H, m_M_looksAhead h h1 ∧
  ∃ (v2 : Int32) (h2 : jm_H), m_M_seenSlack h1 v2 h2 ∧
  ∃ (v3 : Int32) (h3 : jm_H), m_M_areInTime v2 h2 v3 h3 ∧
  l_M_spareNow_9 v2 v3 h3 r) : jm_R 181 [jm_r 8 0] h r := by
  refine jm_R_of hz_181 (Nat.le_of_ble_eq_true rfl) ?_
  show jm_E cod_181 (0, [some (jm_r 8 0), none, none], [], h) r
  refine jm_E_n 1 (x' := (1, [some (jm_r 8 0), none, none], [jm_r 8 0], h)) rfl ?_
  obtain ⟨h1, hR, H⟩ := H
  refine jm_E_call rfl (Nat.le_of_ble_eq_true rfl) (Nat.le_of_ble_eq_true rfl) rfl hR trivial ?_
  refine jm_E_eq (x := (2, [some (jm_r 8 0), none, none], [], h1)) rfl ?_
  refine jm_E_n 1 (x' := (3, [some (jm_r 8 0), none, none], [jm_r 8 0], h1)) rfl ?_
  obtain ⟨v2, h2, hR, H⟩ := H
  refine jm_E_call rfl (Nat.le_of_ble_eq_true rfl) (Nat.le_of_ble_eq_true rfl) rfl hR trivial ?_
  refine jm_E_eq (x := (4, [some (jm_r 8 0), none, none], [jm_i v2], h2)) rfl ?_
  refine jm_E_n 3 (x' := (7, [some (jm_r 8 0), some (jm_i v2), none], [jm_i v2, jm_r 8 0], h2)) rfl ?_
  obtain ⟨v3, h3, hR, H⟩ := H
  refine jm_E_call rfl (Nat.le_of_ble_eq_true rfl) (Nat.le_of_ble_eq_true rfl) rfl hR trivial ?_
  refine jm_E_eq (x := (8, [some (jm_r 8 0), some (jm_i v2), none], [jm_i v3], h3)) rfl ?_
  refine jm_E_n 1 (x' := (9, [some (jm_r 8 0), some (jm_i v2), some (jm_i v3)], [], h3)) rfl ?_
  exact H
set_option maxRecDepth 100000 in
theorem wp_M_spare  {h : jm_H} {r : jm_Rs} (H :
  ∃ h1 : jm_H, m_M_anew h h1 ∧
  ∃ (v2 : Int32) (h2 : jm_H), m_M_clockWhy 1 h1 v2 h2 ∧
  (v2 = 0 →
    ∃ (v3 : Int32) (h3 : jm_H), m_M_spareNow h2 v3 h3 ∧
    r = (some (jm_i v3), h3)) ∧
  (¬ (v2 = 0) →
    ∃ (v4 : Int32) (h4 : jm_H), m_M_no v2 h2 v4 h4 ∧
    r = (some (jm_i v4), h4))) : jm_R 182 [jm_r 8 0] h r := by
  refine jm_R_of hz_182 (Nat.le_of_ble_eq_true rfl) ?_
  show jm_E cod_182 (0, [some (jm_r 8 0), none], [], h) r
  refine jm_E_n 1 (x' := (1, [some (jm_r 8 0), none], [jm_r 8 0], h)) rfl ?_
  obtain ⟨h1, hR, H⟩ := H
  refine jm_E_call rfl (Nat.le_of_ble_eq_true rfl) (Nat.le_of_ble_eq_true rfl) rfl hR trivial ?_
  refine jm_E_eq (x := (2, [some (jm_r 8 0), none], [], h1)) rfl ?_
  refine jm_E_n 2 (x' := (4, [some (jm_r 8 0), none], [jm_i 1, jm_r 8 0], h1)) rfl ?_
  obtain ⟨v2, h2, hR, H⟩ := H
  refine jm_E_call rfl (Nat.le_of_ble_eq_true rfl) (Nat.le_of_ble_eq_true rfl) rfl hR trivial ?_
  refine jm_E_eq (x := (5, [some (jm_r 8 0), none], [jm_i v2], h2)) rfl ?_
  refine jm_E_n 3 (x' := (if v2 = 0 then 12 else 8, [some (jm_r 8 0), some (jm_i v2)], [], h2)) rfl ?_
  refine jm_E_ite (fun hc => ?_) (fun hc => ?_)
  · replace H := H.1 hc
    refine jm_E_n 1 (x' := (13, [some (jm_r 8 0), some (jm_i v2)], [jm_r 8 0], h2)) rfl ?_
    obtain ⟨v3, h3, hR, H⟩ := H
    refine jm_E_call rfl (Nat.le_of_ble_eq_true rfl) (Nat.le_of_ble_eq_true rfl) rfl hR trivial ?_
    refine jm_E_eq (x := (14, [some (jm_r 8 0), some (jm_i v2)], [jm_i v3], h3)) rfl ?_
    exact jm_E_ret rfl (by rw [H]; rfl)
  · replace H := H.2 hc
    refine jm_E_n 2 (x' := (10, [some (jm_r 8 0), some (jm_i v2)], [jm_i v2, jm_r 8 0], h2)) rfl ?_
    obtain ⟨v4, h4, hR, H⟩ := H
    refine jm_E_call rfl (Nat.le_of_ble_eq_true rfl) (Nat.le_of_ble_eq_true rfl) rfl hR trivial ?_
    refine jm_E_eq (x := (11, [some (jm_r 8 0), some (jm_i v2)], [jm_i v4], h4)) rfl ?_
    refine jm_E_n 1 (x' := (14, [some (jm_r 8 0), some (jm_i v2)], [jm_i v4], h4)) rfl ?_
    exact jm_E_ret rfl (by rw [H]; rfl)
set_option maxRecDepth 100000 in
theorem wp_M_steps_38 {x3 : Int32} {x4 : Int32} {x5 : Int32} {h : jm_H} {r : jm_Rs} (H :
  (x4 ≤ 0 →
    ∃ h8 : jm_H, m_M_goesOn h h8 ∧
    ((h8.1 56 0 8) = (h8.1 8 0 44) →
      r = (some (jm_i x3), (jm_sI (jm_sI (jm_sI (jm_sI (jm_sI h8 56 0 0 (h8.1 8 0 44)) 56 0 1 (h8.1 8 0 45)) 56 0 2 (h8.1 8 0 46)) 56 0 7 (-2)) 56 0 8 (-2)))) ∧
    (¬ ((h8.1 56 0 8) = (h8.1 8 0 44)) →
      r = (some (jm_i x3), (jm_sI (jm_sI (jm_sI h8 56 0 0 (h8.1 8 0 44)) 56 0 1 (h8.1 8 0 45)) 56 0 2 (h8.1 8 0 46))))) ∧
  (¬ (x4 ≤ 0) →
    ((h.1 56 0 3) ≤ 0 →
      ∃ h9 : jm_H, m_M_goesOn h h9 ∧
      ((h9.1 56 0 8) = (h9.1 8 0 44) →
        r = (some (jm_i x3), (jm_sI (jm_sI (jm_sI (jm_sI (jm_sI h9 56 0 0 (h9.1 8 0 44)) 56 0 1 (h9.1 8 0 45)) 56 0 2 (h9.1 8 0 46)) 56 0 7 (-2)) 56 0 8 (-2)))) ∧
      (¬ ((h9.1 56 0 8) = (h9.1 8 0 44)) →
        r = (some (jm_i x3), (jm_sI (jm_sI (jm_sI h9 56 0 0 (h9.1 8 0 44)) 56 0 1 (h9.1 8 0 45)) 56 0 2 (h9.1 8 0 46))))) ∧
    (¬ ((h.1 56 0 3) ≤ 0) →
      ((h.1 56 0 10) ≤ x4 →
        (((h.1 56 0 10) - (h.1 56 0 10)) = 0 →
          ((h.1 56 0 9) = (-2) →
            ∃ h10 : jm_H, m_M_takesOut 0 (jm_sI (jm_sI (jm_sI h 56 0 10 ((h.1 56 0 10) - (h.1 56 0 10))) 56 0 9 ((h.1 56 0 19) - x5)) 56 0 4 ((h.1 56 0 4) + 1)) h10 ∧
            l_M_steps_38 x3 (x4 - (h.1 56 0 10)) x5 h10 r) ∧
          (¬ ((h.1 56 0 9) = (-2)) →
            ((h.1 56 0 9) ≤ ((h.1 56 0 19) - x5) →
              ∃ h11 : jm_H, m_M_takesOut 0 (jm_sI (jm_sI (jm_sI h 56 0 10 ((h.1 56 0 10) - (h.1 56 0 10))) 56 0 9 (h.1 56 0 9)) 56 0 4 ((h.1 56 0 4) + 1)) h11 ∧
              l_M_steps_38 x3 (x4 - (h.1 56 0 10)) x5 h11 r) ∧
            (¬ ((h.1 56 0 9) ≤ ((h.1 56 0 19) - x5)) →
              ∃ h12 : jm_H, m_M_takesOut 0 (jm_sI (jm_sI (jm_sI h 56 0 10 ((h.1 56 0 10) - (h.1 56 0 10))) 56 0 9 ((h.1 56 0 19) - x5)) 56 0 4 ((h.1 56 0 4) + 1)) h12 ∧
              l_M_steps_38 x3 (x4 - (h.1 56 0 10)) x5 h12 r))) ∧
        (¬ (((h.1 56 0 10) - (h.1 56 0 10)) = 0) →
          l_M_steps_38 x3 (x4 - (h.1 56 0 10)) x5 (jm_sI h 56 0 10 ((h.1 56 0 10) - (h.1 56 0 10))) r)) ∧
      (¬ ((h.1 56 0 10) ≤ x4) →
        (((h.1 56 0 10) - x4) = 0 →
          ((h.1 56 0 9) = (-2) →
            ∃ h13 : jm_H, m_M_takesOut 0 (jm_sI (jm_sI (jm_sI h 56 0 10 ((h.1 56 0 10) - x4)) 56 0 9 ((h.1 56 0 19) - x5)) 56 0 4 ((h.1 56 0 4) + 1)) h13 ∧
            l_M_steps_38 x3 (x4 - x4) x5 h13 r) ∧
          (¬ ((h.1 56 0 9) = (-2)) →
            ((h.1 56 0 9) ≤ ((h.1 56 0 19) - x5) →
              ∃ h14 : jm_H, m_M_takesOut 0 (jm_sI (jm_sI (jm_sI h 56 0 10 ((h.1 56 0 10) - x4)) 56 0 9 (h.1 56 0 9)) 56 0 4 ((h.1 56 0 4) + 1)) h14 ∧
              l_M_steps_38 x3 (x4 - x4) x5 h14 r) ∧
            (¬ ((h.1 56 0 9) ≤ ((h.1 56 0 19) - x5)) →
              ∃ h15 : jm_H, m_M_takesOut 0 (jm_sI (jm_sI (jm_sI h 56 0 10 ((h.1 56 0 10) - x4)) 56 0 9 ((h.1 56 0 19) - x5)) 56 0 4 ((h.1 56 0 4) + 1)) h15 ∧
              l_M_steps_38 x3 (x4 - x4) x5 h15 r))) ∧
        (¬ (((h.1 56 0 10) - x4) = 0) →
          l_M_steps_38 x3 (x4 - x4) x5 (jm_sI h 56 0 10 ((h.1 56 0 10) - x4)) r))))) : l_M_steps_38 x3 x4 x5 h r := by
  refine jm_E_n 2 (x' := (if x4 ≤ 0 then 116 else 40, [some (jm_r 8 0), none, none, some (jm_i x3), some (jm_i x4), some (jm_i x5), none, none], [], h)) rfl ?_
  refine jm_E_ite (fun hc => ?_) (fun hc => ?_)
  · replace H := H.1 hc
    refine jm_E_n 1 (x' := (117, [some (jm_r 8 0), none, none, some (jm_i x3), some (jm_i x4), some (jm_i x5), none, none], [jm_r 8 0], h)) rfl ?_
    obtain ⟨h8, hR, H⟩ := H
    refine jm_E_call rfl (Nat.le_of_ble_eq_true rfl) (Nat.le_of_ble_eq_true rfl) rfl hR trivial ?_
    refine jm_E_eq (x := (118, [some (jm_r 8 0), none, none, some (jm_i x3), some (jm_i x4), some (jm_i x5), none, none], [], h8)) rfl ?_
    refine jm_E_n 5 (x' := (123, [some (jm_r 8 0), none, none, some (jm_i x3), some (jm_i x4), some (jm_i x5), none, none], [jm_i (h8.1 8 0 44), jm_i 0, jm_r 56 0], h8)) rfl ?_
    refine jm_E_iast rfl rfl (by decide) ?_
    refine jm_E_eq (x := (124, [some (jm_r 8 0), none, none, some (jm_i x3), some (jm_i x4), some (jm_i x5), none, none], [], (jm_sI h8 56 0 0 (h8.1 8 0 44)))) rfl ?_
    refine jm_E_n 5 (x' := (129, [some (jm_r 8 0), none, none, some (jm_i x3), some (jm_i x4), some (jm_i x5), none, none], [jm_i (h8.1 8 0 45), jm_i 1, jm_r 56 0], (jm_sI h8 56 0 0 (h8.1 8 0 44)))) rfl ?_
    refine jm_E_iast rfl rfl (by decide) ?_
    refine jm_E_eq (x := (130, [some (jm_r 8 0), none, none, some (jm_i x3), some (jm_i x4), some (jm_i x5), none, none], [], (jm_sI (jm_sI h8 56 0 0 (h8.1 8 0 44)) 56 0 1 (h8.1 8 0 45)))) rfl ?_
    refine jm_E_n 5 (x' := (135, [some (jm_r 8 0), none, none, some (jm_i x3), some (jm_i x4), some (jm_i x5), none, none], [jm_i (h8.1 8 0 46), jm_i 2, jm_r 56 0], (jm_sI (jm_sI h8 56 0 0 (h8.1 8 0 44)) 56 0 1 (h8.1 8 0 45)))) rfl ?_
    refine jm_E_iast rfl rfl (by decide) ?_
    refine jm_E_eq (x := (136, [some (jm_r 8 0), none, none, some (jm_i x3), some (jm_i x4), some (jm_i x5), none, none], [], (jm_sI (jm_sI (jm_sI h8 56 0 0 (h8.1 8 0 44)) 56 0 1 (h8.1 8 0 45)) 56 0 2 (h8.1 8 0 46)))) rfl ?_
    refine jm_E_n 3 (x' := (139, [some (jm_r 8 0), none, none, some (jm_i x3), some (jm_i x4), some (jm_i x5), none, none], [jm_i 8, jm_r 56 0], (jm_sI (jm_sI (jm_sI h8 56 0 0 (h8.1 8 0 44)) 56 0 1 (h8.1 8 0 45)) 56 0 2 (h8.1 8 0 46)))) rfl ?_
    refine jm_E_iald rfl rfl (by decide) ?_
    refine jm_E_eq (x := (140, [some (jm_r 8 0), none, none, some (jm_i x3), some (jm_i x4), some (jm_i x5), none, none], [jm_i (h8.1 56 0 8)], (jm_sI (jm_sI (jm_sI h8 56 0 0 (h8.1 8 0 44)) 56 0 1 (h8.1 8 0 45)) 56 0 2 (h8.1 8 0 46)))) rfl ?_
    refine jm_E_n 3 (x' := (if (h8.1 56 0 8) = (h8.1 8 0 44) then 143 else 153, [some (jm_r 8 0), none, none, some (jm_i x3), some (jm_i x4), some (jm_i x5), none, none], [], (jm_sI (jm_sI (jm_sI h8 56 0 0 (h8.1 8 0 44)) 56 0 1 (h8.1 8 0 45)) 56 0 2 (h8.1 8 0 46)))) rfl ?_
    refine jm_E_ite (fun hc => ?_) (fun hc => ?_)
    · replace H := H.1 hc
      refine jm_E_n 4 (x' := (147, [some (jm_r 8 0), none, none, some (jm_i x3), some (jm_i x4), some (jm_i x5), none, none], [jm_i (-2), jm_i 7, jm_r 56 0], (jm_sI (jm_sI (jm_sI h8 56 0 0 (h8.1 8 0 44)) 56 0 1 (h8.1 8 0 45)) 56 0 2 (h8.1 8 0 46)))) rfl ?_
      refine jm_E_iast rfl rfl (by decide) ?_
      refine jm_E_eq (x := (148, [some (jm_r 8 0), none, none, some (jm_i x3), some (jm_i x4), some (jm_i x5), none, none], [], (jm_sI (jm_sI (jm_sI (jm_sI h8 56 0 0 (h8.1 8 0 44)) 56 0 1 (h8.1 8 0 45)) 56 0 2 (h8.1 8 0 46)) 56 0 7 (-2)))) rfl ?_
      refine jm_E_n 4 (x' := (152, [some (jm_r 8 0), none, none, some (jm_i x3), some (jm_i x4), some (jm_i x5), none, none], [jm_i (-2), jm_i 8, jm_r 56 0], (jm_sI (jm_sI (jm_sI (jm_sI h8 56 0 0 (h8.1 8 0 44)) 56 0 1 (h8.1 8 0 45)) 56 0 2 (h8.1 8 0 46)) 56 0 7 (-2)))) rfl ?_
      refine jm_E_iast rfl rfl (by decide) ?_
      refine jm_E_eq (x := (153, [some (jm_r 8 0), none, none, some (jm_i x3), some (jm_i x4), some (jm_i x5), none, none], [], (jm_sI (jm_sI (jm_sI (jm_sI (jm_sI h8 56 0 0 (h8.1 8 0 44)) 56 0 1 (h8.1 8 0 45)) 56 0 2 (h8.1 8 0 46)) 56 0 7 (-2)) 56 0 8 (-2)))) rfl ?_
      refine jm_E_n 1 (x' := (154, [some (jm_r 8 0), none, none, some (jm_i x3), some (jm_i x4), some (jm_i x5), none, none], [jm_i x3], (jm_sI (jm_sI (jm_sI (jm_sI (jm_sI h8 56 0 0 (h8.1 8 0 44)) 56 0 1 (h8.1 8 0 45)) 56 0 2 (h8.1 8 0 46)) 56 0 7 (-2)) 56 0 8 (-2)))) rfl ?_
      exact jm_E_ret rfl (by rw [H]; rfl)
    · replace H := H.2 hc
      refine jm_E_n 1 (x' := (154, [some (jm_r 8 0), none, none, some (jm_i x3), some (jm_i x4), some (jm_i x5), none, none], [jm_i x3], (jm_sI (jm_sI (jm_sI h8 56 0 0 (h8.1 8 0 44)) 56 0 1 (h8.1 8 0 45)) 56 0 2 (h8.1 8 0 46)))) rfl ?_
      exact jm_E_ret rfl (by rw [H]; rfl)
  · replace H := H.2 hc
    refine jm_E_n 3 (x' := (43, [some (jm_r 8 0), none, none, some (jm_i x3), some (jm_i x4), some (jm_i x5), none, none], [jm_i 3, jm_r 56 0], h)) rfl ?_
    refine jm_E_iald rfl rfl (by decide) ?_
    refine jm_E_eq (x := (44, [some (jm_r 8 0), none, none, some (jm_i x3), some (jm_i x4), some (jm_i x5), none, none], [jm_i (h.1 56 0 3)], h)) rfl ?_
    refine jm_E_n 1 (x' := (if (h.1 56 0 3) ≤ 0 then 116 else 45, [some (jm_r 8 0), none, none, some (jm_i x3), some (jm_i x4), some (jm_i x5), none, none], [], h)) rfl ?_
    refine jm_E_ite (fun hc => ?_) (fun hc => ?_)
    · replace H := H.1 hc
      refine jm_E_n 1 (x' := (117, [some (jm_r 8 0), none, none, some (jm_i x3), some (jm_i x4), some (jm_i x5), none, none], [jm_r 8 0], h)) rfl ?_
      obtain ⟨h9, hR, H⟩ := H
      refine jm_E_call rfl (Nat.le_of_ble_eq_true rfl) (Nat.le_of_ble_eq_true rfl) rfl hR trivial ?_
      refine jm_E_eq (x := (118, [some (jm_r 8 0), none, none, some (jm_i x3), some (jm_i x4), some (jm_i x5), none, none], [], h9)) rfl ?_
      refine jm_E_n 5 (x' := (123, [some (jm_r 8 0), none, none, some (jm_i x3), some (jm_i x4), some (jm_i x5), none, none], [jm_i (h9.1 8 0 44), jm_i 0, jm_r 56 0], h9)) rfl ?_
      refine jm_E_iast rfl rfl (by decide) ?_
      refine jm_E_eq (x := (124, [some (jm_r 8 0), none, none, some (jm_i x3), some (jm_i x4), some (jm_i x5), none, none], [], (jm_sI h9 56 0 0 (h9.1 8 0 44)))) rfl ?_
      refine jm_E_n 5 (x' := (129, [some (jm_r 8 0), none, none, some (jm_i x3), some (jm_i x4), some (jm_i x5), none, none], [jm_i (h9.1 8 0 45), jm_i 1, jm_r 56 0], (jm_sI h9 56 0 0 (h9.1 8 0 44)))) rfl ?_
      refine jm_E_iast rfl rfl (by decide) ?_
      refine jm_E_eq (x := (130, [some (jm_r 8 0), none, none, some (jm_i x3), some (jm_i x4), some (jm_i x5), none, none], [], (jm_sI (jm_sI h9 56 0 0 (h9.1 8 0 44)) 56 0 1 (h9.1 8 0 45)))) rfl ?_
      refine jm_E_n 5 (x' := (135, [some (jm_r 8 0), none, none, some (jm_i x3), some (jm_i x4), some (jm_i x5), none, none], [jm_i (h9.1 8 0 46), jm_i 2, jm_r 56 0], (jm_sI (jm_sI h9 56 0 0 (h9.1 8 0 44)) 56 0 1 (h9.1 8 0 45)))) rfl ?_
      refine jm_E_iast rfl rfl (by decide) ?_
      refine jm_E_eq (x := (136, [some (jm_r 8 0), none, none, some (jm_i x3), some (jm_i x4), some (jm_i x5), none, none], [], (jm_sI (jm_sI (jm_sI h9 56 0 0 (h9.1 8 0 44)) 56 0 1 (h9.1 8 0 45)) 56 0 2 (h9.1 8 0 46)))) rfl ?_
      refine jm_E_n 3 (x' := (139, [some (jm_r 8 0), none, none, some (jm_i x3), some (jm_i x4), some (jm_i x5), none, none], [jm_i 8, jm_r 56 0], (jm_sI (jm_sI (jm_sI h9 56 0 0 (h9.1 8 0 44)) 56 0 1 (h9.1 8 0 45)) 56 0 2 (h9.1 8 0 46)))) rfl ?_
      refine jm_E_iald rfl rfl (by decide) ?_
      refine jm_E_eq (x := (140, [some (jm_r 8 0), none, none, some (jm_i x3), some (jm_i x4), some (jm_i x5), none, none], [jm_i (h9.1 56 0 8)], (jm_sI (jm_sI (jm_sI h9 56 0 0 (h9.1 8 0 44)) 56 0 1 (h9.1 8 0 45)) 56 0 2 (h9.1 8 0 46)))) rfl ?_
      refine jm_E_n 3 (x' := (if (h9.1 56 0 8) = (h9.1 8 0 44) then 143 else 153, [some (jm_r 8 0), none, none, some (jm_i x3), some (jm_i x4), some (jm_i x5), none, none], [], (jm_sI (jm_sI (jm_sI h9 56 0 0 (h9.1 8 0 44)) 56 0 1 (h9.1 8 0 45)) 56 0 2 (h9.1 8 0 46)))) rfl ?_
      refine jm_E_ite (fun hc => ?_) (fun hc => ?_)
      · replace H := H.1 hc
        refine jm_E_n 4 (x' := (147, [some (jm_r 8 0), none, none, some (jm_i x3), some (jm_i x4), some (jm_i x5), none, none], [jm_i (-2), jm_i 7, jm_r 56 0], (jm_sI (jm_sI (jm_sI h9 56 0 0 (h9.1 8 0 44)) 56 0 1 (h9.1 8 0 45)) 56 0 2 (h9.1 8 0 46)))) rfl ?_
        refine jm_E_iast rfl rfl (by decide) ?_
        refine jm_E_eq (x := (148, [some (jm_r 8 0), none, none, some (jm_i x3), some (jm_i x4), some (jm_i x5), none, none], [], (jm_sI (jm_sI (jm_sI (jm_sI h9 56 0 0 (h9.1 8 0 44)) 56 0 1 (h9.1 8 0 45)) 56 0 2 (h9.1 8 0 46)) 56 0 7 (-2)))) rfl ?_
        refine jm_E_n 4 (x' := (152, [some (jm_r 8 0), none, none, some (jm_i x3), some (jm_i x4), some (jm_i x5), none, none], [jm_i (-2), jm_i 8, jm_r 56 0], (jm_sI (jm_sI (jm_sI (jm_sI h9 56 0 0 (h9.1 8 0 44)) 56 0 1 (h9.1 8 0 45)) 56 0 2 (h9.1 8 0 46)) 56 0 7 (-2)))) rfl ?_
        refine jm_E_iast rfl rfl (by decide) ?_
        refine jm_E_eq (x := (153, [some (jm_r 8 0), none, none, some (jm_i x3), some (jm_i x4), some (jm_i x5), none, none], [], (jm_sI (jm_sI (jm_sI (jm_sI (jm_sI h9 56 0 0 (h9.1 8 0 44)) 56 0 1 (h9.1 8 0 45)) 56 0 2 (h9.1 8 0 46)) 56 0 7 (-2)) 56 0 8 (-2)))) rfl ?_
        refine jm_E_n 1 (x' := (154, [some (jm_r 8 0), none, none, some (jm_i x3), some (jm_i x4), some (jm_i x5), none, none], [jm_i x3], (jm_sI (jm_sI (jm_sI (jm_sI (jm_sI h9 56 0 0 (h9.1 8 0 44)) 56 0 1 (h9.1 8 0 45)) 56 0 2 (h9.1 8 0 46)) 56 0 7 (-2)) 56 0 8 (-2)))) rfl ?_
        exact jm_E_ret rfl (by rw [H]; rfl)
      · replace H := H.2 hc
        refine jm_E_n 1 (x' := (154, [some (jm_r 8 0), none, none, some (jm_i x3), some (jm_i x4), some (jm_i x5), none, none], [jm_i x3], (jm_sI (jm_sI (jm_sI h9 56 0 0 (h9.1 8 0 44)) 56 0 1 (h9.1 8 0 45)) 56 0 2 (h9.1 8 0 46)))) rfl ?_
        exact jm_E_ret rfl (by rw [H]; rfl)
    · replace H := H.2 hc
      refine jm_E_n 4 (x' := (49, [some (jm_r 8 0), none, none, some (jm_i x3), some (jm_i x4), some (jm_i x5), none, none], [jm_i 10, jm_r 56 0, jm_i x4], h)) rfl ?_
      refine jm_E_iald rfl rfl (by decide) ?_
      refine jm_E_eq (x := (50, [some (jm_r 8 0), none, none, some (jm_i x3), some (jm_i x4), some (jm_i x5), none, none], [jm_i (h.1 56 0 10), jm_i x4], h)) rfl ?_
      refine jm_E_n 1 (x' := (if (h.1 56 0 10) ≤ x4 then 53 else 51, [some (jm_r 8 0), none, none, some (jm_i x3), some (jm_i x4), some (jm_i x5), none, none], [], h)) rfl ?_
      refine jm_E_ite (fun hc => ?_) (fun hc => ?_)
      · replace H := H.1 hc
        refine jm_E_n 3 (x' := (56, [some (jm_r 8 0), none, none, some (jm_i x3), some (jm_i x4), some (jm_i x5), none, none], [jm_i 10, jm_r 56 0], h)) rfl ?_
        refine jm_E_iald rfl rfl (by decide) ?_
        refine jm_E_eq (x := (57, [some (jm_r 8 0), none, none, some (jm_i x3), some (jm_i x4), some (jm_i x5), none, none], [jm_i (h.1 56 0 10)], h)) rfl ?_
        refine jm_E_n 5 (x' := (62, [some (jm_r 8 0), none, none, some (jm_i x3), some (jm_i x4), some (jm_i x5), some (jm_i (h.1 56 0 10)), none], [jm_i 10, jm_r 56 0, jm_i 10, jm_r 56 0], h)) rfl ?_
        refine jm_E_iald rfl rfl (by decide) ?_
        refine jm_E_eq (x := (63, [some (jm_r 8 0), none, none, some (jm_i x3), some (jm_i x4), some (jm_i x5), some (jm_i (h.1 56 0 10)), none], [jm_i (h.1 56 0 10), jm_i 10, jm_r 56 0], h)) rfl ?_
        refine jm_E_n 2 (x' := (65, [some (jm_r 8 0), none, none, some (jm_i x3), some (jm_i x4), some (jm_i x5), some (jm_i (h.1 56 0 10)), none], [jm_i ((h.1 56 0 10) - (h.1 56 0 10)), jm_i 10, jm_r 56 0], h)) rfl ?_
        refine jm_E_iast rfl rfl (by decide) ?_
        refine jm_E_eq (x := (66, [some (jm_r 8 0), none, none, some (jm_i x3), some (jm_i x4), some (jm_i x5), some (jm_i (h.1 56 0 10)), none], [], (jm_sI h 56 0 10 ((h.1 56 0 10) - (h.1 56 0 10))))) rfl ?_
        refine jm_E_n 7 (x' := (73, [some (jm_r 8 0), none, none, some (jm_i x3), some (jm_i (x4 - (h.1 56 0 10))), some (jm_i x5), some (jm_i (h.1 56 0 10)), none], [jm_i 10, jm_r 56 0], (jm_sI h 56 0 10 ((h.1 56 0 10) - (h.1 56 0 10))))) rfl ?_
        refine jm_E_iald rfl rfl (by decide) ?_
        refine jm_E_eq (x := (74, [some (jm_r 8 0), none, none, some (jm_i x3), some (jm_i (x4 - (h.1 56 0 10))), some (jm_i x5), some (jm_i (h.1 56 0 10)), none], [jm_i ((h.1 56 0 10) - (h.1 56 0 10))], (jm_sI h 56 0 10 ((h.1 56 0 10) - (h.1 56 0 10))))) rfl ?_
        refine jm_E_n 1 (x' := (if ((h.1 56 0 10) - (h.1 56 0 10)) = 0 then 75 else 115, [some (jm_r 8 0), none, none, some (jm_i x3), some (jm_i (x4 - (h.1 56 0 10))), some (jm_i x5), some (jm_i (h.1 56 0 10)), none], [], (jm_sI h 56 0 10 ((h.1 56 0 10) - (h.1 56 0 10))))) rfl ?_
        refine jm_E_ite (fun hc => ?_) (fun hc => ?_)
        · replace H := H.1 hc
          refine jm_E_n 3 (x' := (78, [some (jm_r 8 0), none, none, some (jm_i x3), some (jm_i (x4 - (h.1 56 0 10))), some (jm_i x5), some (jm_i (h.1 56 0 10)), none], [jm_i 19, jm_r 56 0], (jm_sI h 56 0 10 ((h.1 56 0 10) - (h.1 56 0 10))))) rfl ?_
          refine jm_E_iald rfl rfl (by decide) ?_
          refine jm_E_eq (x := (79, [some (jm_r 8 0), none, none, some (jm_i x3), some (jm_i (x4 - (h.1 56 0 10))), some (jm_i x5), some (jm_i (h.1 56 0 10)), none], [jm_i (h.1 56 0 19)], (jm_sI h 56 0 10 ((h.1 56 0 10) - (h.1 56 0 10))))) rfl ?_
          refine jm_E_n 9 (x' := (88, [some (jm_r 8 0), none, none, some (jm_i x3), some (jm_i (x4 - (h.1 56 0 10))), some (jm_i x5), some (jm_i (h.1 56 0 10)), some (jm_i ((h.1 56 0 19) - x5))], [jm_i 9, jm_r 56 0, jm_i 9, jm_r 56 0], (jm_sI h 56 0 10 ((h.1 56 0 10) - (h.1 56 0 10))))) rfl ?_
          refine jm_E_iald rfl rfl (by decide) ?_
          refine jm_E_eq (x := (89, [some (jm_r 8 0), none, none, some (jm_i x3), some (jm_i (x4 - (h.1 56 0 10))), some (jm_i x5), some (jm_i (h.1 56 0 10)), some (jm_i ((h.1 56 0 19) - x5))], [jm_i (h.1 56 0 9), jm_i 9, jm_r 56 0], (jm_sI h 56 0 10 ((h.1 56 0 10) - (h.1 56 0 10))))) rfl ?_
          refine jm_E_n 2 (x' := (if (h.1 56 0 9) = (-2) then 97 else 91, [some (jm_r 8 0), none, none, some (jm_i x3), some (jm_i (x4 - (h.1 56 0 10))), some (jm_i x5), some (jm_i (h.1 56 0 10)), some (jm_i ((h.1 56 0 19) - x5))], [jm_i 9, jm_r 56 0], (jm_sI h 56 0 10 ((h.1 56 0 10) - (h.1 56 0 10))))) rfl ?_
          refine jm_E_ite (fun hc => ?_) (fun hc => ?_)
          · replace H := H.1 hc
            refine jm_E_n 2 (x' := (103, [some (jm_r 8 0), none, none, some (jm_i x3), some (jm_i (x4 - (h.1 56 0 10))), some (jm_i x5), some (jm_i (h.1 56 0 10)), some (jm_i ((h.1 56 0 19) - x5))], [jm_i ((h.1 56 0 19) - x5), jm_i 9, jm_r 56 0], (jm_sI h 56 0 10 ((h.1 56 0 10) - (h.1 56 0 10))))) rfl ?_
            refine jm_E_iast rfl rfl (by decide) ?_
            refine jm_E_eq (x := (104, [some (jm_r 8 0), none, none, some (jm_i x3), some (jm_i (x4 - (h.1 56 0 10))), some (jm_i x5), some (jm_i (h.1 56 0 10)), some (jm_i ((h.1 56 0 19) - x5))], [], (jm_sI (jm_sI h 56 0 10 ((h.1 56 0 10) - (h.1 56 0 10))) 56 0 9 ((h.1 56 0 19) - x5)))) rfl ?_
            refine jm_E_n 4 (x' := (108, [some (jm_r 8 0), none, none, some (jm_i x3), some (jm_i (x4 - (h.1 56 0 10))), some (jm_i x5), some (jm_i (h.1 56 0 10)), some (jm_i ((h.1 56 0 19) - x5))], [jm_i 4, jm_r 56 0, jm_i 4, jm_r 56 0], (jm_sI (jm_sI h 56 0 10 ((h.1 56 0 10) - (h.1 56 0 10))) 56 0 9 ((h.1 56 0 19) - x5)))) rfl ?_
            refine jm_E_iald rfl rfl (by decide) ?_
            refine jm_E_eq (x := (109, [some (jm_r 8 0), none, none, some (jm_i x3), some (jm_i (x4 - (h.1 56 0 10))), some (jm_i x5), some (jm_i (h.1 56 0 10)), some (jm_i ((h.1 56 0 19) - x5))], [jm_i (h.1 56 0 4), jm_i 4, jm_r 56 0], (jm_sI (jm_sI h 56 0 10 ((h.1 56 0 10) - (h.1 56 0 10))) 56 0 9 ((h.1 56 0 19) - x5)))) rfl ?_
            refine jm_E_n 2 (x' := (111, [some (jm_r 8 0), none, none, some (jm_i x3), some (jm_i (x4 - (h.1 56 0 10))), some (jm_i x5), some (jm_i (h.1 56 0 10)), some (jm_i ((h.1 56 0 19) - x5))], [jm_i ((h.1 56 0 4) + 1), jm_i 4, jm_r 56 0], (jm_sI (jm_sI h 56 0 10 ((h.1 56 0 10) - (h.1 56 0 10))) 56 0 9 ((h.1 56 0 19) - x5)))) rfl ?_
            refine jm_E_iast rfl rfl (by decide) ?_
            refine jm_E_eq (x := (112, [some (jm_r 8 0), none, none, some (jm_i x3), some (jm_i (x4 - (h.1 56 0 10))), some (jm_i x5), some (jm_i (h.1 56 0 10)), some (jm_i ((h.1 56 0 19) - x5))], [], (jm_sI (jm_sI (jm_sI h 56 0 10 ((h.1 56 0 10) - (h.1 56 0 10))) 56 0 9 ((h.1 56 0 19) - x5)) 56 0 4 ((h.1 56 0 4) + 1)))) rfl ?_
            refine jm_E_n 2 (x' := (114, [some (jm_r 8 0), none, none, some (jm_i x3), some (jm_i (x4 - (h.1 56 0 10))), some (jm_i x5), some (jm_i (h.1 56 0 10)), some (jm_i ((h.1 56 0 19) - x5))], [jm_i 0, jm_r 8 0], (jm_sI (jm_sI (jm_sI h 56 0 10 ((h.1 56 0 10) - (h.1 56 0 10))) 56 0 9 ((h.1 56 0 19) - x5)) 56 0 4 ((h.1 56 0 4) + 1)))) rfl ?_
            obtain ⟨h10, hR, H⟩ := H
            refine jm_E_call rfl (Nat.le_of_ble_eq_true rfl) (Nat.le_of_ble_eq_true rfl) rfl hR trivial ?_
            refine jm_E_eq (x := (115, [some (jm_r 8 0), none, none, some (jm_i x3), some (jm_i (x4 - (h.1 56 0 10))), some (jm_i x5), some (jm_i (h.1 56 0 10)), some (jm_i ((h.1 56 0 19) - x5))], [], h10)) rfl ?_
            refine jm_E_n 1 (x' := (38, [some (jm_r 8 0), none, none, some (jm_i x3), some (jm_i (x4 - (h.1 56 0 10))), some (jm_i x5), some (jm_i (h.1 56 0 10)), some (jm_i ((h.1 56 0 19) - x5))], [], h10)) rfl ?_
            exact jm_E_weak (jm_le_s (jm_le_n (jm_le_n (jm_le_s (jm_le_s (jm_le_s (jm_le_n (jm_le_n jm_le_nil)))))))) H
          · replace H := H.2 hc
            refine jm_E_n 4 (x' := (95, [some (jm_r 8 0), none, none, some (jm_i x3), some (jm_i (x4 - (h.1 56 0 10))), some (jm_i x5), some (jm_i (h.1 56 0 10)), some (jm_i ((h.1 56 0 19) - x5))], [jm_i 9, jm_r 56 0, jm_i ((h.1 56 0 19) - x5), jm_i 9, jm_r 56 0], (jm_sI h 56 0 10 ((h.1 56 0 10) - (h.1 56 0 10))))) rfl ?_
            refine jm_E_iald rfl rfl (by decide) ?_
            refine jm_E_eq (x := (96, [some (jm_r 8 0), none, none, some (jm_i x3), some (jm_i (x4 - (h.1 56 0 10))), some (jm_i x5), some (jm_i (h.1 56 0 10)), some (jm_i ((h.1 56 0 19) - x5))], [jm_i (h.1 56 0 9), jm_i ((h.1 56 0 19) - x5), jm_i 9, jm_r 56 0], (jm_sI h 56 0 10 ((h.1 56 0 10) - (h.1 56 0 10))))) rfl ?_
            refine jm_E_n 1 (x' := (if (h.1 56 0 9) ≤ ((h.1 56 0 19) - x5) then 99 else 97, [some (jm_r 8 0), none, none, some (jm_i x3), some (jm_i (x4 - (h.1 56 0 10))), some (jm_i x5), some (jm_i (h.1 56 0 10)), some (jm_i ((h.1 56 0 19) - x5))], [jm_i 9, jm_r 56 0], (jm_sI h 56 0 10 ((h.1 56 0 10) - (h.1 56 0 10))))) rfl ?_
            refine jm_E_ite (fun hc => ?_) (fun hc => ?_)
            · replace H := H.1 hc
              refine jm_E_n 3 (x' := (102, [some (jm_r 8 0), none, none, some (jm_i x3), some (jm_i (x4 - (h.1 56 0 10))), some (jm_i x5), some (jm_i (h.1 56 0 10)), some (jm_i ((h.1 56 0 19) - x5))], [jm_i 9, jm_r 56 0, jm_i 9, jm_r 56 0], (jm_sI h 56 0 10 ((h.1 56 0 10) - (h.1 56 0 10))))) rfl ?_
              refine jm_E_iald rfl rfl (by decide) ?_
              refine jm_E_eq (x := (103, [some (jm_r 8 0), none, none, some (jm_i x3), some (jm_i (x4 - (h.1 56 0 10))), some (jm_i x5), some (jm_i (h.1 56 0 10)), some (jm_i ((h.1 56 0 19) - x5))], [jm_i (h.1 56 0 9), jm_i 9, jm_r 56 0], (jm_sI h 56 0 10 ((h.1 56 0 10) - (h.1 56 0 10))))) rfl ?_
              refine jm_E_iast rfl rfl (by decide) ?_
              refine jm_E_eq (x := (104, [some (jm_r 8 0), none, none, some (jm_i x3), some (jm_i (x4 - (h.1 56 0 10))), some (jm_i x5), some (jm_i (h.1 56 0 10)), some (jm_i ((h.1 56 0 19) - x5))], [], (jm_sI (jm_sI h 56 0 10 ((h.1 56 0 10) - (h.1 56 0 10))) 56 0 9 (h.1 56 0 9)))) rfl ?_
              refine jm_E_n 4 (x' := (108, [some (jm_r 8 0), none, none, some (jm_i x3), some (jm_i (x4 - (h.1 56 0 10))), some (jm_i x5), some (jm_i (h.1 56 0 10)), some (jm_i ((h.1 56 0 19) - x5))], [jm_i 4, jm_r 56 0, jm_i 4, jm_r 56 0], (jm_sI (jm_sI h 56 0 10 ((h.1 56 0 10) - (h.1 56 0 10))) 56 0 9 (h.1 56 0 9)))) rfl ?_
              refine jm_E_iald rfl rfl (by decide) ?_
              refine jm_E_eq (x := (109, [some (jm_r 8 0), none, none, some (jm_i x3), some (jm_i (x4 - (h.1 56 0 10))), some (jm_i x5), some (jm_i (h.1 56 0 10)), some (jm_i ((h.1 56 0 19) - x5))], [jm_i (h.1 56 0 4), jm_i 4, jm_r 56 0], (jm_sI (jm_sI h 56 0 10 ((h.1 56 0 10) - (h.1 56 0 10))) 56 0 9 (h.1 56 0 9)))) rfl ?_
              refine jm_E_n 2 (x' := (111, [some (jm_r 8 0), none, none, some (jm_i x3), some (jm_i (x4 - (h.1 56 0 10))), some (jm_i x5), some (jm_i (h.1 56 0 10)), some (jm_i ((h.1 56 0 19) - x5))], [jm_i ((h.1 56 0 4) + 1), jm_i 4, jm_r 56 0], (jm_sI (jm_sI h 56 0 10 ((h.1 56 0 10) - (h.1 56 0 10))) 56 0 9 (h.1 56 0 9)))) rfl ?_
              refine jm_E_iast rfl rfl (by decide) ?_
              refine jm_E_eq (x := (112, [some (jm_r 8 0), none, none, some (jm_i x3), some (jm_i (x4 - (h.1 56 0 10))), some (jm_i x5), some (jm_i (h.1 56 0 10)), some (jm_i ((h.1 56 0 19) - x5))], [], (jm_sI (jm_sI (jm_sI h 56 0 10 ((h.1 56 0 10) - (h.1 56 0 10))) 56 0 9 (h.1 56 0 9)) 56 0 4 ((h.1 56 0 4) + 1)))) rfl ?_
              refine jm_E_n 2 (x' := (114, [some (jm_r 8 0), none, none, some (jm_i x3), some (jm_i (x4 - (h.1 56 0 10))), some (jm_i x5), some (jm_i (h.1 56 0 10)), some (jm_i ((h.1 56 0 19) - x5))], [jm_i 0, jm_r 8 0], (jm_sI (jm_sI (jm_sI h 56 0 10 ((h.1 56 0 10) - (h.1 56 0 10))) 56 0 9 (h.1 56 0 9)) 56 0 4 ((h.1 56 0 4) + 1)))) rfl ?_
              obtain ⟨h11, hR, H⟩ := H
              refine jm_E_call rfl (Nat.le_of_ble_eq_true rfl) (Nat.le_of_ble_eq_true rfl) rfl hR trivial ?_
              refine jm_E_eq (x := (115, [some (jm_r 8 0), none, none, some (jm_i x3), some (jm_i (x4 - (h.1 56 0 10))), some (jm_i x5), some (jm_i (h.1 56 0 10)), some (jm_i ((h.1 56 0 19) - x5))], [], h11)) rfl ?_
              refine jm_E_n 1 (x' := (38, [some (jm_r 8 0), none, none, some (jm_i x3), some (jm_i (x4 - (h.1 56 0 10))), some (jm_i x5), some (jm_i (h.1 56 0 10)), some (jm_i ((h.1 56 0 19) - x5))], [], h11)) rfl ?_
              exact jm_E_weak (jm_le_s (jm_le_n (jm_le_n (jm_le_s (jm_le_s (jm_le_s (jm_le_n (jm_le_n jm_le_nil)))))))) H
            · replace H := H.2 hc
              refine jm_E_n 2 (x' := (103, [some (jm_r 8 0), none, none, some (jm_i x3), some (jm_i (x4 - (h.1 56 0 10))), some (jm_i x5), some (jm_i (h.1 56 0 10)), some (jm_i ((h.1 56 0 19) - x5))], [jm_i ((h.1 56 0 19) - x5), jm_i 9, jm_r 56 0], (jm_sI h 56 0 10 ((h.1 56 0 10) - (h.1 56 0 10))))) rfl ?_
              refine jm_E_iast rfl rfl (by decide) ?_
              refine jm_E_eq (x := (104, [some (jm_r 8 0), none, none, some (jm_i x3), some (jm_i (x4 - (h.1 56 0 10))), some (jm_i x5), some (jm_i (h.1 56 0 10)), some (jm_i ((h.1 56 0 19) - x5))], [], (jm_sI (jm_sI h 56 0 10 ((h.1 56 0 10) - (h.1 56 0 10))) 56 0 9 ((h.1 56 0 19) - x5)))) rfl ?_
              refine jm_E_n 4 (x' := (108, [some (jm_r 8 0), none, none, some (jm_i x3), some (jm_i (x4 - (h.1 56 0 10))), some (jm_i x5), some (jm_i (h.1 56 0 10)), some (jm_i ((h.1 56 0 19) - x5))], [jm_i 4, jm_r 56 0, jm_i 4, jm_r 56 0], (jm_sI (jm_sI h 56 0 10 ((h.1 56 0 10) - (h.1 56 0 10))) 56 0 9 ((h.1 56 0 19) - x5)))) rfl ?_
              refine jm_E_iald rfl rfl (by decide) ?_
              refine jm_E_eq (x := (109, [some (jm_r 8 0), none, none, some (jm_i x3), some (jm_i (x4 - (h.1 56 0 10))), some (jm_i x5), some (jm_i (h.1 56 0 10)), some (jm_i ((h.1 56 0 19) - x5))], [jm_i (h.1 56 0 4), jm_i 4, jm_r 56 0], (jm_sI (jm_sI h 56 0 10 ((h.1 56 0 10) - (h.1 56 0 10))) 56 0 9 ((h.1 56 0 19) - x5)))) rfl ?_
              refine jm_E_n 2 (x' := (111, [some (jm_r 8 0), none, none, some (jm_i x3), some (jm_i (x4 - (h.1 56 0 10))), some (jm_i x5), some (jm_i (h.1 56 0 10)), some (jm_i ((h.1 56 0 19) - x5))], [jm_i ((h.1 56 0 4) + 1), jm_i 4, jm_r 56 0], (jm_sI (jm_sI h 56 0 10 ((h.1 56 0 10) - (h.1 56 0 10))) 56 0 9 ((h.1 56 0 19) - x5)))) rfl ?_
              refine jm_E_iast rfl rfl (by decide) ?_
              refine jm_E_eq (x := (112, [some (jm_r 8 0), none, none, some (jm_i x3), some (jm_i (x4 - (h.1 56 0 10))), some (jm_i x5), some (jm_i (h.1 56 0 10)), some (jm_i ((h.1 56 0 19) - x5))], [], (jm_sI (jm_sI (jm_sI h 56 0 10 ((h.1 56 0 10) - (h.1 56 0 10))) 56 0 9 ((h.1 56 0 19) - x5)) 56 0 4 ((h.1 56 0 4) + 1)))) rfl ?_
              refine jm_E_n 2 (x' := (114, [some (jm_r 8 0), none, none, some (jm_i x3), some (jm_i (x4 - (h.1 56 0 10))), some (jm_i x5), some (jm_i (h.1 56 0 10)), some (jm_i ((h.1 56 0 19) - x5))], [jm_i 0, jm_r 8 0], (jm_sI (jm_sI (jm_sI h 56 0 10 ((h.1 56 0 10) - (h.1 56 0 10))) 56 0 9 ((h.1 56 0 19) - x5)) 56 0 4 ((h.1 56 0 4) + 1)))) rfl ?_
              obtain ⟨h12, hR, H⟩ := H
              refine jm_E_call rfl (Nat.le_of_ble_eq_true rfl) (Nat.le_of_ble_eq_true rfl) rfl hR trivial ?_
              refine jm_E_eq (x := (115, [some (jm_r 8 0), none, none, some (jm_i x3), some (jm_i (x4 - (h.1 56 0 10))), some (jm_i x5), some (jm_i (h.1 56 0 10)), some (jm_i ((h.1 56 0 19) - x5))], [], h12)) rfl ?_
              refine jm_E_n 1 (x' := (38, [some (jm_r 8 0), none, none, some (jm_i x3), some (jm_i (x4 - (h.1 56 0 10))), some (jm_i x5), some (jm_i (h.1 56 0 10)), some (jm_i ((h.1 56 0 19) - x5))], [], h12)) rfl ?_
              exact jm_E_weak (jm_le_s (jm_le_n (jm_le_n (jm_le_s (jm_le_s (jm_le_s (jm_le_n (jm_le_n jm_le_nil)))))))) H
        · replace H := H.2 hc
          refine jm_E_n 1 (x' := (38, [some (jm_r 8 0), none, none, some (jm_i x3), some (jm_i (x4 - (h.1 56 0 10))), some (jm_i x5), some (jm_i (h.1 56 0 10)), none], [], (jm_sI h 56 0 10 ((h.1 56 0 10) - (h.1 56 0 10))))) rfl ?_
          exact jm_E_weak (jm_le_s (jm_le_n (jm_le_n (jm_le_s (jm_le_s (jm_le_s (jm_le_n (jm_le_n jm_le_nil)))))))) H
      · replace H := H.2 hc
        refine jm_E_n 7 (x' := (62, [some (jm_r 8 0), none, none, some (jm_i x3), some (jm_i x4), some (jm_i x5), some (jm_i x4), none], [jm_i 10, jm_r 56 0, jm_i 10, jm_r 56 0], h)) rfl ?_
        refine jm_E_iald rfl rfl (by decide) ?_
        refine jm_E_eq (x := (63, [some (jm_r 8 0), none, none, some (jm_i x3), some (jm_i x4), some (jm_i x5), some (jm_i x4), none], [jm_i (h.1 56 0 10), jm_i 10, jm_r 56 0], h)) rfl ?_
        refine jm_E_n 2 (x' := (65, [some (jm_r 8 0), none, none, some (jm_i x3), some (jm_i x4), some (jm_i x5), some (jm_i x4), none], [jm_i ((h.1 56 0 10) - x4), jm_i 10, jm_r 56 0], h)) rfl ?_
        refine jm_E_iast rfl rfl (by decide) ?_
        refine jm_E_eq (x := (66, [some (jm_r 8 0), none, none, some (jm_i x3), some (jm_i x4), some (jm_i x5), some (jm_i x4), none], [], (jm_sI h 56 0 10 ((h.1 56 0 10) - x4)))) rfl ?_
        refine jm_E_n 7 (x' := (73, [some (jm_r 8 0), none, none, some (jm_i x3), some (jm_i (x4 - x4)), some (jm_i x5), some (jm_i x4), none], [jm_i 10, jm_r 56 0], (jm_sI h 56 0 10 ((h.1 56 0 10) - x4)))) rfl ?_
        refine jm_E_iald rfl rfl (by decide) ?_
        refine jm_E_eq (x := (74, [some (jm_r 8 0), none, none, some (jm_i x3), some (jm_i (x4 - x4)), some (jm_i x5), some (jm_i x4), none], [jm_i ((h.1 56 0 10) - x4)], (jm_sI h 56 0 10 ((h.1 56 0 10) - x4)))) rfl ?_
        refine jm_E_n 1 (x' := (if ((h.1 56 0 10) - x4) = 0 then 75 else 115, [some (jm_r 8 0), none, none, some (jm_i x3), some (jm_i (x4 - x4)), some (jm_i x5), some (jm_i x4), none], [], (jm_sI h 56 0 10 ((h.1 56 0 10) - x4)))) rfl ?_
        refine jm_E_ite (fun hc => ?_) (fun hc => ?_)
        · replace H := H.1 hc
          refine jm_E_n 3 (x' := (78, [some (jm_r 8 0), none, none, some (jm_i x3), some (jm_i (x4 - x4)), some (jm_i x5), some (jm_i x4), none], [jm_i 19, jm_r 56 0], (jm_sI h 56 0 10 ((h.1 56 0 10) - x4)))) rfl ?_
          refine jm_E_iald rfl rfl (by decide) ?_
          refine jm_E_eq (x := (79, [some (jm_r 8 0), none, none, some (jm_i x3), some (jm_i (x4 - x4)), some (jm_i x5), some (jm_i x4), none], [jm_i (h.1 56 0 19)], (jm_sI h 56 0 10 ((h.1 56 0 10) - x4)))) rfl ?_
          refine jm_E_n 9 (x' := (88, [some (jm_r 8 0), none, none, some (jm_i x3), some (jm_i (x4 - x4)), some (jm_i x5), some (jm_i x4), some (jm_i ((h.1 56 0 19) - x5))], [jm_i 9, jm_r 56 0, jm_i 9, jm_r 56 0], (jm_sI h 56 0 10 ((h.1 56 0 10) - x4)))) rfl ?_
          refine jm_E_iald rfl rfl (by decide) ?_
          refine jm_E_eq (x := (89, [some (jm_r 8 0), none, none, some (jm_i x3), some (jm_i (x4 - x4)), some (jm_i x5), some (jm_i x4), some (jm_i ((h.1 56 0 19) - x5))], [jm_i (h.1 56 0 9), jm_i 9, jm_r 56 0], (jm_sI h 56 0 10 ((h.1 56 0 10) - x4)))) rfl ?_
          refine jm_E_n 2 (x' := (if (h.1 56 0 9) = (-2) then 97 else 91, [some (jm_r 8 0), none, none, some (jm_i x3), some (jm_i (x4 - x4)), some (jm_i x5), some (jm_i x4), some (jm_i ((h.1 56 0 19) - x5))], [jm_i 9, jm_r 56 0], (jm_sI h 56 0 10 ((h.1 56 0 10) - x4)))) rfl ?_
          refine jm_E_ite (fun hc => ?_) (fun hc => ?_)
          · replace H := H.1 hc
            refine jm_E_n 2 (x' := (103, [some (jm_r 8 0), none, none, some (jm_i x3), some (jm_i (x4 - x4)), some (jm_i x5), some (jm_i x4), some (jm_i ((h.1 56 0 19) - x5))], [jm_i ((h.1 56 0 19) - x5), jm_i 9, jm_r 56 0], (jm_sI h 56 0 10 ((h.1 56 0 10) - x4)))) rfl ?_
            refine jm_E_iast rfl rfl (by decide) ?_
            refine jm_E_eq (x := (104, [some (jm_r 8 0), none, none, some (jm_i x3), some (jm_i (x4 - x4)), some (jm_i x5), some (jm_i x4), some (jm_i ((h.1 56 0 19) - x5))], [], (jm_sI (jm_sI h 56 0 10 ((h.1 56 0 10) - x4)) 56 0 9 ((h.1 56 0 19) - x5)))) rfl ?_
            refine jm_E_n 4 (x' := (108, [some (jm_r 8 0), none, none, some (jm_i x3), some (jm_i (x4 - x4)), some (jm_i x5), some (jm_i x4), some (jm_i ((h.1 56 0 19) - x5))], [jm_i 4, jm_r 56 0, jm_i 4, jm_r 56 0], (jm_sI (jm_sI h 56 0 10 ((h.1 56 0 10) - x4)) 56 0 9 ((h.1 56 0 19) - x5)))) rfl ?_
            refine jm_E_iald rfl rfl (by decide) ?_
            refine jm_E_eq (x := (109, [some (jm_r 8 0), none, none, some (jm_i x3), some (jm_i (x4 - x4)), some (jm_i x5), some (jm_i x4), some (jm_i ((h.1 56 0 19) - x5))], [jm_i (h.1 56 0 4), jm_i 4, jm_r 56 0], (jm_sI (jm_sI h 56 0 10 ((h.1 56 0 10) - x4)) 56 0 9 ((h.1 56 0 19) - x5)))) rfl ?_
            refine jm_E_n 2 (x' := (111, [some (jm_r 8 0), none, none, some (jm_i x3), some (jm_i (x4 - x4)), some (jm_i x5), some (jm_i x4), some (jm_i ((h.1 56 0 19) - x5))], [jm_i ((h.1 56 0 4) + 1), jm_i 4, jm_r 56 0], (jm_sI (jm_sI h 56 0 10 ((h.1 56 0 10) - x4)) 56 0 9 ((h.1 56 0 19) - x5)))) rfl ?_
            refine jm_E_iast rfl rfl (by decide) ?_
            refine jm_E_eq (x := (112, [some (jm_r 8 0), none, none, some (jm_i x3), some (jm_i (x4 - x4)), some (jm_i x5), some (jm_i x4), some (jm_i ((h.1 56 0 19) - x5))], [], (jm_sI (jm_sI (jm_sI h 56 0 10 ((h.1 56 0 10) - x4)) 56 0 9 ((h.1 56 0 19) - x5)) 56 0 4 ((h.1 56 0 4) + 1)))) rfl ?_
            refine jm_E_n 2 (x' := (114, [some (jm_r 8 0), none, none, some (jm_i x3), some (jm_i (x4 - x4)), some (jm_i x5), some (jm_i x4), some (jm_i ((h.1 56 0 19) - x5))], [jm_i 0, jm_r 8 0], (jm_sI (jm_sI (jm_sI h 56 0 10 ((h.1 56 0 10) - x4)) 56 0 9 ((h.1 56 0 19) - x5)) 56 0 4 ((h.1 56 0 4) + 1)))) rfl ?_
            obtain ⟨h13, hR, H⟩ := H
            refine jm_E_call rfl (Nat.le_of_ble_eq_true rfl) (Nat.le_of_ble_eq_true rfl) rfl hR trivial ?_
            refine jm_E_eq (x := (115, [some (jm_r 8 0), none, none, some (jm_i x3), some (jm_i (x4 - x4)), some (jm_i x5), some (jm_i x4), some (jm_i ((h.1 56 0 19) - x5))], [], h13)) rfl ?_
            refine jm_E_n 1 (x' := (38, [some (jm_r 8 0), none, none, some (jm_i x3), some (jm_i (x4 - x4)), some (jm_i x5), some (jm_i x4), some (jm_i ((h.1 56 0 19) - x5))], [], h13)) rfl ?_
            exact jm_E_weak (jm_le_s (jm_le_n (jm_le_n (jm_le_s (jm_le_s (jm_le_s (jm_le_n (jm_le_n jm_le_nil)))))))) H
          · replace H := H.2 hc
            refine jm_E_n 4 (x' := (95, [some (jm_r 8 0), none, none, some (jm_i x3), some (jm_i (x4 - x4)), some (jm_i x5), some (jm_i x4), some (jm_i ((h.1 56 0 19) - x5))], [jm_i 9, jm_r 56 0, jm_i ((h.1 56 0 19) - x5), jm_i 9, jm_r 56 0], (jm_sI h 56 0 10 ((h.1 56 0 10) - x4)))) rfl ?_
            refine jm_E_iald rfl rfl (by decide) ?_
            refine jm_E_eq (x := (96, [some (jm_r 8 0), none, none, some (jm_i x3), some (jm_i (x4 - x4)), some (jm_i x5), some (jm_i x4), some (jm_i ((h.1 56 0 19) - x5))], [jm_i (h.1 56 0 9), jm_i ((h.1 56 0 19) - x5), jm_i 9, jm_r 56 0], (jm_sI h 56 0 10 ((h.1 56 0 10) - x4)))) rfl ?_
            refine jm_E_n 1 (x' := (if (h.1 56 0 9) ≤ ((h.1 56 0 19) - x5) then 99 else 97, [some (jm_r 8 0), none, none, some (jm_i x3), some (jm_i (x4 - x4)), some (jm_i x5), some (jm_i x4), some (jm_i ((h.1 56 0 19) - x5))], [jm_i 9, jm_r 56 0], (jm_sI h 56 0 10 ((h.1 56 0 10) - x4)))) rfl ?_
            refine jm_E_ite (fun hc => ?_) (fun hc => ?_)
            · replace H := H.1 hc
              refine jm_E_n 3 (x' := (102, [some (jm_r 8 0), none, none, some (jm_i x3), some (jm_i (x4 - x4)), some (jm_i x5), some (jm_i x4), some (jm_i ((h.1 56 0 19) - x5))], [jm_i 9, jm_r 56 0, jm_i 9, jm_r 56 0], (jm_sI h 56 0 10 ((h.1 56 0 10) - x4)))) rfl ?_
              refine jm_E_iald rfl rfl (by decide) ?_
              refine jm_E_eq (x := (103, [some (jm_r 8 0), none, none, some (jm_i x3), some (jm_i (x4 - x4)), some (jm_i x5), some (jm_i x4), some (jm_i ((h.1 56 0 19) - x5))], [jm_i (h.1 56 0 9), jm_i 9, jm_r 56 0], (jm_sI h 56 0 10 ((h.1 56 0 10) - x4)))) rfl ?_
              refine jm_E_iast rfl rfl (by decide) ?_
              refine jm_E_eq (x := (104, [some (jm_r 8 0), none, none, some (jm_i x3), some (jm_i (x4 - x4)), some (jm_i x5), some (jm_i x4), some (jm_i ((h.1 56 0 19) - x5))], [], (jm_sI (jm_sI h 56 0 10 ((h.1 56 0 10) - x4)) 56 0 9 (h.1 56 0 9)))) rfl ?_
              refine jm_E_n 4 (x' := (108, [some (jm_r 8 0), none, none, some (jm_i x3), some (jm_i (x4 - x4)), some (jm_i x5), some (jm_i x4), some (jm_i ((h.1 56 0 19) - x5))], [jm_i 4, jm_r 56 0, jm_i 4, jm_r 56 0], (jm_sI (jm_sI h 56 0 10 ((h.1 56 0 10) - x4)) 56 0 9 (h.1 56 0 9)))) rfl ?_
              refine jm_E_iald rfl rfl (by decide) ?_
              refine jm_E_eq (x := (109, [some (jm_r 8 0), none, none, some (jm_i x3), some (jm_i (x4 - x4)), some (jm_i x5), some (jm_i x4), some (jm_i ((h.1 56 0 19) - x5))], [jm_i (h.1 56 0 4), jm_i 4, jm_r 56 0], (jm_sI (jm_sI h 56 0 10 ((h.1 56 0 10) - x4)) 56 0 9 (h.1 56 0 9)))) rfl ?_
              refine jm_E_n 2 (x' := (111, [some (jm_r 8 0), none, none, some (jm_i x3), some (jm_i (x4 - x4)), some (jm_i x5), some (jm_i x4), some (jm_i ((h.1 56 0 19) - x5))], [jm_i ((h.1 56 0 4) + 1), jm_i 4, jm_r 56 0], (jm_sI (jm_sI h 56 0 10 ((h.1 56 0 10) - x4)) 56 0 9 (h.1 56 0 9)))) rfl ?_
              refine jm_E_iast rfl rfl (by decide) ?_
              refine jm_E_eq (x := (112, [some (jm_r 8 0), none, none, some (jm_i x3), some (jm_i (x4 - x4)), some (jm_i x5), some (jm_i x4), some (jm_i ((h.1 56 0 19) - x5))], [], (jm_sI (jm_sI (jm_sI h 56 0 10 ((h.1 56 0 10) - x4)) 56 0 9 (h.1 56 0 9)) 56 0 4 ((h.1 56 0 4) + 1)))) rfl ?_
              refine jm_E_n 2 (x' := (114, [some (jm_r 8 0), none, none, some (jm_i x3), some (jm_i (x4 - x4)), some (jm_i x5), some (jm_i x4), some (jm_i ((h.1 56 0 19) - x5))], [jm_i 0, jm_r 8 0], (jm_sI (jm_sI (jm_sI h 56 0 10 ((h.1 56 0 10) - x4)) 56 0 9 (h.1 56 0 9)) 56 0 4 ((h.1 56 0 4) + 1)))) rfl ?_
              obtain ⟨h14, hR, H⟩ := H
              refine jm_E_call rfl (Nat.le_of_ble_eq_true rfl) (Nat.le_of_ble_eq_true rfl) rfl hR trivial ?_
              refine jm_E_eq (x := (115, [some (jm_r 8 0), none, none, some (jm_i x3), some (jm_i (x4 - x4)), some (jm_i x5), some (jm_i x4), some (jm_i ((h.1 56 0 19) - x5))], [], h14)) rfl ?_
              refine jm_E_n 1 (x' := (38, [some (jm_r 8 0), none, none, some (jm_i x3), some (jm_i (x4 - x4)), some (jm_i x5), some (jm_i x4), some (jm_i ((h.1 56 0 19) - x5))], [], h14)) rfl ?_
              exact jm_E_weak (jm_le_s (jm_le_n (jm_le_n (jm_le_s (jm_le_s (jm_le_s (jm_le_n (jm_le_n jm_le_nil)))))))) H
            · replace H := H.2 hc
              refine jm_E_n 2 (x' := (103, [some (jm_r 8 0), none, none, some (jm_i x3), some (jm_i (x4 - x4)), some (jm_i x5), some (jm_i x4), some (jm_i ((h.1 56 0 19) - x5))], [jm_i ((h.1 56 0 19) - x5), jm_i 9, jm_r 56 0], (jm_sI h 56 0 10 ((h.1 56 0 10) - x4)))) rfl ?_
              refine jm_E_iast rfl rfl (by decide) ?_
              refine jm_E_eq (x := (104, [some (jm_r 8 0), none, none, some (jm_i x3), some (jm_i (x4 - x4)), some (jm_i x5), some (jm_i x4), some (jm_i ((h.1 56 0 19) - x5))], [], (jm_sI (jm_sI h 56 0 10 ((h.1 56 0 10) - x4)) 56 0 9 ((h.1 56 0 19) - x5)))) rfl ?_
              refine jm_E_n 4 (x' := (108, [some (jm_r 8 0), none, none, some (jm_i x3), some (jm_i (x4 - x4)), some (jm_i x5), some (jm_i x4), some (jm_i ((h.1 56 0 19) - x5))], [jm_i 4, jm_r 56 0, jm_i 4, jm_r 56 0], (jm_sI (jm_sI h 56 0 10 ((h.1 56 0 10) - x4)) 56 0 9 ((h.1 56 0 19) - x5)))) rfl ?_
              refine jm_E_iald rfl rfl (by decide) ?_
              refine jm_E_eq (x := (109, [some (jm_r 8 0), none, none, some (jm_i x3), some (jm_i (x4 - x4)), some (jm_i x5), some (jm_i x4), some (jm_i ((h.1 56 0 19) - x5))], [jm_i (h.1 56 0 4), jm_i 4, jm_r 56 0], (jm_sI (jm_sI h 56 0 10 ((h.1 56 0 10) - x4)) 56 0 9 ((h.1 56 0 19) - x5)))) rfl ?_
              refine jm_E_n 2 (x' := (111, [some (jm_r 8 0), none, none, some (jm_i x3), some (jm_i (x4 - x4)), some (jm_i x5), some (jm_i x4), some (jm_i ((h.1 56 0 19) - x5))], [jm_i ((h.1 56 0 4) + 1), jm_i 4, jm_r 56 0], (jm_sI (jm_sI h 56 0 10 ((h.1 56 0 10) - x4)) 56 0 9 ((h.1 56 0 19) - x5)))) rfl ?_
              refine jm_E_iast rfl rfl (by decide) ?_
              refine jm_E_eq (x := (112, [some (jm_r 8 0), none, none, some (jm_i x3), some (jm_i (x4 - x4)), some (jm_i x5), some (jm_i x4), some (jm_i ((h.1 56 0 19) - x5))], [], (jm_sI (jm_sI (jm_sI h 56 0 10 ((h.1 56 0 10) - x4)) 56 0 9 ((h.1 56 0 19) - x5)) 56 0 4 ((h.1 56 0 4) + 1)))) rfl ?_
              refine jm_E_n 2 (x' := (114, [some (jm_r 8 0), none, none, some (jm_i x3), some (jm_i (x4 - x4)), some (jm_i x5), some (jm_i x4), some (jm_i ((h.1 56 0 19) - x5))], [jm_i 0, jm_r 8 0], (jm_sI (jm_sI (jm_sI h 56 0 10 ((h.1 56 0 10) - x4)) 56 0 9 ((h.1 56 0 19) - x5)) 56 0 4 ((h.1 56 0 4) + 1)))) rfl ?_
              obtain ⟨h15, hR, H⟩ := H
              refine jm_E_call rfl (Nat.le_of_ble_eq_true rfl) (Nat.le_of_ble_eq_true rfl) rfl hR trivial ?_
              refine jm_E_eq (x := (115, [some (jm_r 8 0), none, none, some (jm_i x3), some (jm_i (x4 - x4)), some (jm_i x5), some (jm_i x4), some (jm_i ((h.1 56 0 19) - x5))], [], h15)) rfl ?_
              refine jm_E_n 1 (x' := (38, [some (jm_r 8 0), none, none, some (jm_i x3), some (jm_i (x4 - x4)), some (jm_i x5), some (jm_i x4), some (jm_i ((h.1 56 0 19) - x5))], [], h15)) rfl ?_
              exact jm_E_weak (jm_le_s (jm_le_n (jm_le_n (jm_le_s (jm_le_s (jm_le_s (jm_le_n (jm_le_n jm_le_nil)))))))) H
        · replace H := H.2 hc
          refine jm_E_n 1 (x' := (38, [some (jm_r 8 0), none, none, some (jm_i x3), some (jm_i (x4 - x4)), some (jm_i x5), some (jm_i x4), none], [], (jm_sI h 56 0 10 ((h.1 56 0 10) - x4)))) rfl ?_
          exact jm_E_weak (jm_le_s (jm_le_n (jm_le_n (jm_le_s (jm_le_s (jm_le_s (jm_le_n (jm_le_n jm_le_nil)))))))) H
set_option maxRecDepth 100000 in
theorem wp_M_steps {a0 : Int32} {h : jm_H} {r : jm_Rs} (H :
  ∃ (v1 : Int32) (h1 : jm_H), m_M_spareNow h v1 h1 ∧
  (v1 ≤ a0 →
    ∃ h2 : jm_H, m_M_looksAhead (jm_sI (jm_sI h1 56 0 5 ((h1.1 56 0 5) + v1)) 56 0 6 ((h1.1 56 0 6) + (a0 - v1))) h2 ∧
    ∃ (v3 : Int32) (h3 : jm_H), m_M_seenSlack h2 v3 h3 ∧
    ∃ (v4 : Int32) (h4 : jm_H), m_M_seenEnd h3 v4 h4 ∧
    l_M_steps_38 v1 (v3 - v1) v4 h4 r) ∧
  (¬ (v1 ≤ a0) →
    ∃ h5 : jm_H, m_M_looksAhead (jm_sI (jm_sI h1 56 0 5 ((h1.1 56 0 5) + a0)) 56 0 6 ((h1.1 56 0 6) + (a0 - a0))) h5 ∧
    ∃ (v6 : Int32) (h6 : jm_H), m_M_seenSlack h5 v6 h6 ∧
    ∃ (v7 : Int32) (h7 : jm_H), m_M_seenEnd h6 v7 h7 ∧
    l_M_steps_38 a0 (v6 - a0) v7 h7 r)) : jm_R 183 [jm_r 8 0, jm_i a0] h r := by
  refine jm_R_of hz_183 (Nat.le_of_ble_eq_true rfl) ?_
  show jm_E cod_183 (0, [some (jm_r 8 0), some (jm_i a0), none, none, none, none, none, none], [], h) r
  refine jm_E_n 1 (x' := (1, [some (jm_r 8 0), some (jm_i a0), none, none, none, none, none, none], [jm_r 8 0], h)) rfl ?_
  obtain ⟨v1, h1, hR, H⟩ := H
  refine jm_E_call rfl (Nat.le_of_ble_eq_true rfl) (Nat.le_of_ble_eq_true rfl) rfl hR trivial ?_
  refine jm_E_eq (x := (2, [some (jm_r 8 0), some (jm_i a0), none, none, none, none, none, none], [jm_i v1], h1)) rfl ?_
  refine jm_E_n 4 (x' := (if v1 ≤ a0 then 8 else 6, [some (jm_r 8 0), some (jm_i a0), some (jm_i v1), none, none, none, none, none], [], h1)) rfl ?_
  refine jm_E_ite (fun hc => ?_) (fun hc => ?_)
  · replace H := H.1 hc
    refine jm_E_n 6 (x' := (14, [some (jm_r 8 0), some (jm_i a0), some (jm_i v1), some (jm_i v1), none, none, none, none], [jm_i 5, jm_r 56 0, jm_i 5, jm_r 56 0], h1)) rfl ?_
    refine jm_E_iald rfl rfl (by decide) ?_
    refine jm_E_eq (x := (15, [some (jm_r 8 0), some (jm_i a0), some (jm_i v1), some (jm_i v1), none, none, none, none], [jm_i (h1.1 56 0 5), jm_i 5, jm_r 56 0], h1)) rfl ?_
    refine jm_E_n 2 (x' := (17, [some (jm_r 8 0), some (jm_i a0), some (jm_i v1), some (jm_i v1), none, none, none, none], [jm_i ((h1.1 56 0 5) + v1), jm_i 5, jm_r 56 0], h1)) rfl ?_
    refine jm_E_iast rfl rfl (by decide) ?_
    refine jm_E_eq (x := (18, [some (jm_r 8 0), some (jm_i a0), some (jm_i v1), some (jm_i v1), none, none, none, none], [], (jm_sI h1 56 0 5 ((h1.1 56 0 5) + v1)))) rfl ?_
    refine jm_E_n 4 (x' := (22, [some (jm_r 8 0), some (jm_i a0), some (jm_i v1), some (jm_i v1), none, none, none, none], [jm_i 6, jm_r 56 0, jm_i 6, jm_r 56 0], (jm_sI h1 56 0 5 ((h1.1 56 0 5) + v1)))) rfl ?_
    refine jm_E_iald rfl rfl (by decide) ?_
    refine jm_E_eq (x := (23, [some (jm_r 8 0), some (jm_i a0), some (jm_i v1), some (jm_i v1), none, none, none, none], [jm_i (h1.1 56 0 6), jm_i 6, jm_r 56 0], (jm_sI h1 56 0 5 ((h1.1 56 0 5) + v1)))) rfl ?_
    refine jm_E_n 4 (x' := (27, [some (jm_r 8 0), some (jm_i a0), some (jm_i v1), some (jm_i v1), none, none, none, none], [jm_i ((h1.1 56 0 6) + (a0 - v1)), jm_i 6, jm_r 56 0], (jm_sI h1 56 0 5 ((h1.1 56 0 5) + v1)))) rfl ?_
    refine jm_E_iast rfl rfl (by decide) ?_
    refine jm_E_eq (x := (28, [some (jm_r 8 0), some (jm_i a0), some (jm_i v1), some (jm_i v1), none, none, none, none], [], (jm_sI (jm_sI h1 56 0 5 ((h1.1 56 0 5) + v1)) 56 0 6 ((h1.1 56 0 6) + (a0 - v1))))) rfl ?_
    refine jm_E_n 1 (x' := (29, [some (jm_r 8 0), some (jm_i a0), some (jm_i v1), some (jm_i v1), none, none, none, none], [jm_r 8 0], (jm_sI (jm_sI h1 56 0 5 ((h1.1 56 0 5) + v1)) 56 0 6 ((h1.1 56 0 6) + (a0 - v1))))) rfl ?_
    obtain ⟨h2, hR, H⟩ := H
    refine jm_E_call rfl (Nat.le_of_ble_eq_true rfl) (Nat.le_of_ble_eq_true rfl) rfl hR trivial ?_
    refine jm_E_eq (x := (30, [some (jm_r 8 0), some (jm_i a0), some (jm_i v1), some (jm_i v1), none, none, none, none], [], h2)) rfl ?_
    refine jm_E_n 1 (x' := (31, [some (jm_r 8 0), some (jm_i a0), some (jm_i v1), some (jm_i v1), none, none, none, none], [jm_r 8 0], h2)) rfl ?_
    obtain ⟨v3, h3, hR, H⟩ := H
    refine jm_E_call rfl (Nat.le_of_ble_eq_true rfl) (Nat.le_of_ble_eq_true rfl) rfl hR trivial ?_
    refine jm_E_eq (x := (32, [some (jm_r 8 0), some (jm_i a0), some (jm_i v1), some (jm_i v1), none, none, none, none], [jm_i v3], h3)) rfl ?_
    refine jm_E_n 4 (x' := (36, [some (jm_r 8 0), some (jm_i a0), some (jm_i v1), some (jm_i v1), some (jm_i (v3 - v1)), none, none, none], [jm_r 8 0], h3)) rfl ?_
    obtain ⟨v4, h4, hR, H⟩ := H
    refine jm_E_call rfl (Nat.le_of_ble_eq_true rfl) (Nat.le_of_ble_eq_true rfl) rfl hR trivial ?_
    refine jm_E_eq (x := (37, [some (jm_r 8 0), some (jm_i a0), some (jm_i v1), some (jm_i v1), some (jm_i (v3 - v1)), none, none, none], [jm_i v4], h4)) rfl ?_
    refine jm_E_n 1 (x' := (38, [some (jm_r 8 0), some (jm_i a0), some (jm_i v1), some (jm_i v1), some (jm_i (v3 - v1)), some (jm_i v4), none, none], [], h4)) rfl ?_
    exact jm_E_weak (jm_le_s (jm_le_n (jm_le_n (jm_le_s (jm_le_s (jm_le_s (jm_le_n (jm_le_n jm_le_nil)))))))) H
  · replace H := H.2 hc
    refine jm_E_n 7 (x' := (14, [some (jm_r 8 0), some (jm_i a0), some (jm_i v1), some (jm_i a0), none, none, none, none], [jm_i 5, jm_r 56 0, jm_i 5, jm_r 56 0], h1)) rfl ?_
    refine jm_E_iald rfl rfl (by decide) ?_
    refine jm_E_eq (x := (15, [some (jm_r 8 0), some (jm_i a0), some (jm_i v1), some (jm_i a0), none, none, none, none], [jm_i (h1.1 56 0 5), jm_i 5, jm_r 56 0], h1)) rfl ?_
    refine jm_E_n 2 (x' := (17, [some (jm_r 8 0), some (jm_i a0), some (jm_i v1), some (jm_i a0), none, none, none, none], [jm_i ((h1.1 56 0 5) + a0), jm_i 5, jm_r 56 0], h1)) rfl ?_
    refine jm_E_iast rfl rfl (by decide) ?_
    refine jm_E_eq (x := (18, [some (jm_r 8 0), some (jm_i a0), some (jm_i v1), some (jm_i a0), none, none, none, none], [], (jm_sI h1 56 0 5 ((h1.1 56 0 5) + a0)))) rfl ?_
    refine jm_E_n 4 (x' := (22, [some (jm_r 8 0), some (jm_i a0), some (jm_i v1), some (jm_i a0), none, none, none, none], [jm_i 6, jm_r 56 0, jm_i 6, jm_r 56 0], (jm_sI h1 56 0 5 ((h1.1 56 0 5) + a0)))) rfl ?_
    refine jm_E_iald rfl rfl (by decide) ?_
    refine jm_E_eq (x := (23, [some (jm_r 8 0), some (jm_i a0), some (jm_i v1), some (jm_i a0), none, none, none, none], [jm_i (h1.1 56 0 6), jm_i 6, jm_r 56 0], (jm_sI h1 56 0 5 ((h1.1 56 0 5) + a0)))) rfl ?_
    refine jm_E_n 4 (x' := (27, [some (jm_r 8 0), some (jm_i a0), some (jm_i v1), some (jm_i a0), none, none, none, none], [jm_i ((h1.1 56 0 6) + (a0 - a0)), jm_i 6, jm_r 56 0], (jm_sI h1 56 0 5 ((h1.1 56 0 5) + a0)))) rfl ?_
    refine jm_E_iast rfl rfl (by decide) ?_
    refine jm_E_eq (x := (28, [some (jm_r 8 0), some (jm_i a0), some (jm_i v1), some (jm_i a0), none, none, none, none], [], (jm_sI (jm_sI h1 56 0 5 ((h1.1 56 0 5) + a0)) 56 0 6 ((h1.1 56 0 6) + (a0 - a0))))) rfl ?_
    refine jm_E_n 1 (x' := (29, [some (jm_r 8 0), some (jm_i a0), some (jm_i v1), some (jm_i a0), none, none, none, none], [jm_r 8 0], (jm_sI (jm_sI h1 56 0 5 ((h1.1 56 0 5) + a0)) 56 0 6 ((h1.1 56 0 6) + (a0 - a0))))) rfl ?_
    obtain ⟨h5, hR, H⟩ := H
    refine jm_E_call rfl (Nat.le_of_ble_eq_true rfl) (Nat.le_of_ble_eq_true rfl) rfl hR trivial ?_
    refine jm_E_eq (x := (30, [some (jm_r 8 0), some (jm_i a0), some (jm_i v1), some (jm_i a0), none, none, none, none], [], h5)) rfl ?_
    refine jm_E_n 1 (x' := (31, [some (jm_r 8 0), some (jm_i a0), some (jm_i v1), some (jm_i a0), none, none, none, none], [jm_r 8 0], h5)) rfl ?_
    obtain ⟨v6, h6, hR, H⟩ := H
    refine jm_E_call rfl (Nat.le_of_ble_eq_true rfl) (Nat.le_of_ble_eq_true rfl) rfl hR trivial ?_
    refine jm_E_eq (x := (32, [some (jm_r 8 0), some (jm_i a0), some (jm_i v1), some (jm_i a0), none, none, none, none], [jm_i v6], h6)) rfl ?_
    refine jm_E_n 4 (x' := (36, [some (jm_r 8 0), some (jm_i a0), some (jm_i v1), some (jm_i a0), some (jm_i (v6 - a0)), none, none, none], [jm_r 8 0], h6)) rfl ?_
    obtain ⟨v7, h7, hR, H⟩ := H
    refine jm_E_call rfl (Nat.le_of_ble_eq_true rfl) (Nat.le_of_ble_eq_true rfl) rfl hR trivial ?_
    refine jm_E_eq (x := (37, [some (jm_r 8 0), some (jm_i a0), some (jm_i v1), some (jm_i a0), some (jm_i (v6 - a0)), none, none, none], [jm_i v7], h7)) rfl ?_
    refine jm_E_n 1 (x' := (38, [some (jm_r 8 0), some (jm_i a0), some (jm_i v1), some (jm_i a0), some (jm_i (v6 - a0)), some (jm_i v7), none, none], [], h7)) rfl ?_
    exact jm_E_weak (jm_le_s (jm_le_n (jm_le_n (jm_le_s (jm_le_s (jm_le_s (jm_le_n (jm_le_n jm_le_nil)))))))) H
set_option maxRecDepth 100000 in
theorem wp_M_step {a0 : Int32} {h : jm_H} {r : jm_Rs} (H :
  ∃ h1 : jm_H, m_M_anew h h1 ∧
  ∃ (v2 : Int32) (h2 : jm_H), m_M_clockWhy 1 h1 v2 h2 ∧
  (v2 = 0 →
    ∃ (v3 : Int32) (h3 : jm_H), m_M_in a0 0 99 h2 v3 h3 ∧
    (v3 = 0 →
      ∃ (v4 : Int32) (h4 : jm_H), m_M_no 2 h3 v4 h4 ∧
      r = (some (jm_i v4), h4)) ∧
    (¬ (v3 = 0) →
      ∃ (v5 : Int32) (h5 : jm_H), m_M_steps a0 h3 v5 h5 ∧
      r = (some (jm_i v5), h5))) ∧
  (¬ (v2 = 0) →
    ∃ (v6 : Int32) (h6 : jm_H), m_M_no v2 h2 v6 h6 ∧
    r = (some (jm_i v6), h6))) : jm_R 184 [jm_r 8 0, jm_i a0] h r := by
  refine jm_R_of hz_184 (Nat.le_of_ble_eq_true rfl) ?_
  show jm_E cod_184 (0, [some (jm_r 8 0), some (jm_i a0), none], [], h) r
  refine jm_E_n 1 (x' := (1, [some (jm_r 8 0), some (jm_i a0), none], [jm_r 8 0], h)) rfl ?_
  obtain ⟨h1, hR, H⟩ := H
  refine jm_E_call rfl (Nat.le_of_ble_eq_true rfl) (Nat.le_of_ble_eq_true rfl) rfl hR trivial ?_
  refine jm_E_eq (x := (2, [some (jm_r 8 0), some (jm_i a0), none], [], h1)) rfl ?_
  refine jm_E_n 2 (x' := (4, [some (jm_r 8 0), some (jm_i a0), none], [jm_i 1, jm_r 8 0], h1)) rfl ?_
  obtain ⟨v2, h2, hR, H⟩ := H
  refine jm_E_call rfl (Nat.le_of_ble_eq_true rfl) (Nat.le_of_ble_eq_true rfl) rfl hR trivial ?_
  refine jm_E_eq (x := (5, [some (jm_r 8 0), some (jm_i a0), none], [jm_i v2], h2)) rfl ?_
  refine jm_E_n 3 (x' := (if v2 = 0 then 12 else 8, [some (jm_r 8 0), some (jm_i a0), some (jm_i v2)], [], h2)) rfl ?_
  refine jm_E_ite (fun hc => ?_) (fun hc => ?_)
  · replace H := H.1 hc
    refine jm_E_n 3 (x' := (15, [some (jm_r 8 0), some (jm_i a0), some (jm_i v2)], [jm_i 99, jm_i 0, jm_i a0], h2)) rfl ?_
    obtain ⟨v3, h3, hR, H⟩ := H
    refine jm_E_call rfl (Nat.le_of_ble_eq_true rfl) (Nat.le_of_ble_eq_true rfl) trivial hR trivial ?_
    refine jm_E_eq (x := (16, [some (jm_r 8 0), some (jm_i a0), some (jm_i v2)], [jm_i v3], h3)) rfl ?_
    refine jm_E_n 1 (x' := (if v3 = 0 then 21 else 17, [some (jm_r 8 0), some (jm_i a0), some (jm_i v2)], [], h3)) rfl ?_
    refine jm_E_ite (fun hc => ?_) (fun hc => ?_)
    · replace H := H.1 hc
      refine jm_E_n 2 (x' := (23, [some (jm_r 8 0), some (jm_i a0), some (jm_i v2)], [jm_i 2, jm_r 8 0], h3)) rfl ?_
      obtain ⟨v4, h4, hR, H⟩ := H
      refine jm_E_call rfl (Nat.le_of_ble_eq_true rfl) (Nat.le_of_ble_eq_true rfl) rfl hR trivial ?_
      refine jm_E_eq (x := (24, [some (jm_r 8 0), some (jm_i a0), some (jm_i v2)], [jm_i v4], h4)) rfl ?_
      exact jm_E_ret rfl (by rw [H]; rfl)
    · replace H := H.2 hc
      refine jm_E_n 2 (x' := (19, [some (jm_r 8 0), some (jm_i a0), some (jm_i v2)], [jm_i a0, jm_r 8 0], h3)) rfl ?_
      obtain ⟨v5, h5, hR, H⟩ := H
      refine jm_E_call rfl (Nat.le_of_ble_eq_true rfl) (Nat.le_of_ble_eq_true rfl) rfl hR trivial ?_
      refine jm_E_eq (x := (20, [some (jm_r 8 0), some (jm_i a0), some (jm_i v2)], [jm_i v5], h5)) rfl ?_
      refine jm_E_n 1 (x' := (24, [some (jm_r 8 0), some (jm_i a0), some (jm_i v2)], [jm_i v5], h5)) rfl ?_
      exact jm_E_ret rfl (by rw [H]; rfl)
  · replace H := H.2 hc
    refine jm_E_n 2 (x' := (10, [some (jm_r 8 0), some (jm_i a0), some (jm_i v2)], [jm_i v2, jm_r 8 0], h2)) rfl ?_
    obtain ⟨v6, h6, hR, H⟩ := H
    refine jm_E_call rfl (Nat.le_of_ble_eq_true rfl) (Nat.le_of_ble_eq_true rfl) rfl hR trivial ?_
    refine jm_E_eq (x := (11, [some (jm_r 8 0), some (jm_i a0), some (jm_i v2)], [jm_i v6], h6)) rfl ?_
    exact jm_E_ret rfl (by rw [H]; rfl)
set_option maxRecDepth 100000 in
theorem wp_M_run_28 {x1 : Int32} {x3 : Int32} {x4 : Int32} {h : jm_H} {r : jm_Rs} (H :
  (x1 ≤ x4 →
    r = (some (jm_i ((h.1 56 0 4) - x3)), h)) ∧
  (¬ (x1 ≤ x4) →
    ∃ (v6 : Int32) (h6 : jm_H), m_M_steps 0 h v6 h6 ∧
    l_M_run_28 x1 x3 (x4 + 1) h6 r)) : l_M_run_28 x1 x3 x4 h r := by
  refine jm_E_n 3 (x' := (if x1 ≤ x4 then 37 else 31, [some (jm_r 8 0), some (jm_i x1), none, some (jm_i x3), some (jm_i x4)], [], h)) rfl ?_
  refine jm_E_ite (fun hc => ?_) (fun hc => ?_)
  · replace H := H.1 hc
    refine jm_E_n 3 (x' := (40, [some (jm_r 8 0), some (jm_i x1), none, some (jm_i x3), some (jm_i x4)], [jm_i 4, jm_r 56 0], h)) rfl ?_
    refine jm_E_iald rfl rfl (by decide) ?_
    refine jm_E_eq (x := (41, [some (jm_r 8 0), some (jm_i x1), none, some (jm_i x3), some (jm_i x4)], [jm_i (h.1 56 0 4)], h)) rfl ?_
    refine jm_E_n 2 (x' := (43, [some (jm_r 8 0), some (jm_i x1), none, some (jm_i x3), some (jm_i x4)], [jm_i ((h.1 56 0 4) - x3)], h)) rfl ?_
    exact jm_E_ret rfl (by rw [H]; rfl)
  · replace H := H.2 hc
    refine jm_E_n 2 (x' := (33, [some (jm_r 8 0), some (jm_i x1), none, some (jm_i x3), some (jm_i x4)], [jm_i 0, jm_r 8 0], h)) rfl ?_
    obtain ⟨v6, h6, hR, H⟩ := H
    refine jm_E_call rfl (Nat.le_of_ble_eq_true rfl) (Nat.le_of_ble_eq_true rfl) rfl hR trivial ?_
    refine jm_E_eq (x := (34, [some (jm_r 8 0), some (jm_i x1), none, some (jm_i x3), some (jm_i x4)], [jm_i v6], h6)) rfl ?_
    refine jm_E_n 3 (x' := (28, [some (jm_r 8 0), some (jm_i x1), none, some (jm_i x3), some (jm_i (x4 + 1))], [], h6)) rfl ?_
    exact H
set_option maxRecDepth 100000 in
theorem wp_M_run {a0 : Int32} {h : jm_H} {r : jm_Rs} (H :
  ∃ h1 : jm_H, m_M_anew h h1 ∧
  ∃ (v2 : Int32) (h2 : jm_H), m_M_clockWhy 1 h1 v2 h2 ∧
  (v2 = 0 →
    ∃ (v3 : Int32) (h3 : jm_H), m_M_in a0 1 100 h2 v3 h3 ∧
    (v3 = 0 →
      ∃ (v4 : Int32) (h4 : jm_H), m_M_no 2 h3 v4 h4 ∧
      r = (some (jm_i v4), h4)) ∧
    (¬ (v3 = 0) →
      l_M_run_28 a0 (h3.1 56 0 4) 0 h3 r)) ∧
  (¬ (v2 = 0) →
    ∃ (v5 : Int32) (h5 : jm_H), m_M_no v2 h2 v5 h5 ∧
    r = (some (jm_i v5), h5))) : jm_R 185 [jm_r 8 0, jm_i a0] h r := by
  refine jm_R_of hz_185 (Nat.le_of_ble_eq_true rfl) ?_
  show jm_E cod_185 (0, [some (jm_r 8 0), some (jm_i a0), none, none, none], [], h) r
  refine jm_E_n 1 (x' := (1, [some (jm_r 8 0), some (jm_i a0), none, none, none], [jm_r 8 0], h)) rfl ?_
  obtain ⟨h1, hR, H⟩ := H
  refine jm_E_call rfl (Nat.le_of_ble_eq_true rfl) (Nat.le_of_ble_eq_true rfl) rfl hR trivial ?_
  refine jm_E_eq (x := (2, [some (jm_r 8 0), some (jm_i a0), none, none, none], [], h1)) rfl ?_
  refine jm_E_n 2 (x' := (4, [some (jm_r 8 0), some (jm_i a0), none, none, none], [jm_i 1, jm_r 8 0], h1)) rfl ?_
  obtain ⟨v2, h2, hR, H⟩ := H
  refine jm_E_call rfl (Nat.le_of_ble_eq_true rfl) (Nat.le_of_ble_eq_true rfl) rfl hR trivial ?_
  refine jm_E_eq (x := (5, [some (jm_r 8 0), some (jm_i a0), none, none, none], [jm_i v2], h2)) rfl ?_
  refine jm_E_n 3 (x' := (if v2 = 0 then 12 else 8, [some (jm_r 8 0), some (jm_i a0), some (jm_i v2), none, none], [], h2)) rfl ?_
  refine jm_E_ite (fun hc => ?_) (fun hc => ?_)
  · replace H := H.1 hc
    refine jm_E_n 3 (x' := (15, [some (jm_r 8 0), some (jm_i a0), some (jm_i v2), none, none], [jm_i 100, jm_i 1, jm_i a0], h2)) rfl ?_
    obtain ⟨v3, h3, hR, H⟩ := H
    refine jm_E_call rfl (Nat.le_of_ble_eq_true rfl) (Nat.le_of_ble_eq_true rfl) trivial hR trivial ?_
    refine jm_E_eq (x := (16, [some (jm_r 8 0), some (jm_i a0), some (jm_i v2), none, none], [jm_i v3], h3)) rfl ?_
    refine jm_E_n 1 (x' := (if v3 = 0 then 17 else 21, [some (jm_r 8 0), some (jm_i a0), some (jm_i v2), none, none], [], h3)) rfl ?_
    refine jm_E_ite (fun hc => ?_) (fun hc => ?_)
    · replace H := H.1 hc
      refine jm_E_n 2 (x' := (19, [some (jm_r 8 0), some (jm_i a0), some (jm_i v2), none, none], [jm_i 2, jm_r 8 0], h3)) rfl ?_
      obtain ⟨v4, h4, hR, H⟩ := H
      refine jm_E_call rfl (Nat.le_of_ble_eq_true rfl) (Nat.le_of_ble_eq_true rfl) rfl hR trivial ?_
      refine jm_E_eq (x := (20, [some (jm_r 8 0), some (jm_i a0), some (jm_i v2), none, none], [jm_i v4], h4)) rfl ?_
      exact jm_E_ret rfl (by rw [H]; rfl)
    · replace H := H.2 hc
      refine jm_E_n 3 (x' := (24, [some (jm_r 8 0), some (jm_i a0), some (jm_i v2), none, none], [jm_i 4, jm_r 56 0], h3)) rfl ?_
      refine jm_E_iald rfl rfl (by decide) ?_
      refine jm_E_eq (x := (25, [some (jm_r 8 0), some (jm_i a0), some (jm_i v2), none, none], [jm_i (h3.1 56 0 4)], h3)) rfl ?_
      refine jm_E_n 3 (x' := (28, [some (jm_r 8 0), some (jm_i a0), some (jm_i v2), some (jm_i (h3.1 56 0 4)), some (jm_i 0)], [], h3)) rfl ?_
      exact jm_E_weak (jm_le_s (jm_le_s (jm_le_n (jm_le_s (jm_le_s jm_le_nil))))) H
  · replace H := H.2 hc
    refine jm_E_n 2 (x' := (10, [some (jm_r 8 0), some (jm_i a0), some (jm_i v2), none, none], [jm_i v2, jm_r 8 0], h2)) rfl ?_
    obtain ⟨v5, h5, hR, H⟩ := H
    refine jm_E_call rfl (Nat.le_of_ble_eq_true rfl) (Nat.le_of_ble_eq_true rfl) rfl hR trivial ?_
    refine jm_E_eq (x := (11, [some (jm_r 8 0), some (jm_i a0), some (jm_i v2), none, none], [jm_i v5], h5)) rfl ?_
    exact jm_E_ret rfl (by rw [H]; rfl)
