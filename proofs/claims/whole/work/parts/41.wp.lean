set_option maxRecDepth 100000 in
theorem wp_Flow_spread_6 {x0 : Nat} {x1 : Int32} {x2 : Int32} {h : jm_H} {r : jm_Rs} (H :
  ((h.1 1 x0 2) ≤ x2 →
    r = (some (jm_i x1), h)) ∧
  (¬ ((h.1 1 x0 2) ≤ x2) →
    ∃ (v2 : Int32) (h2 : jm_H), m_Flow_spreadIn x0 x2 h v2 h2 ∧
    l_Flow_spread_6 x0 (x1 + v2) (x2 + 1) h2 r)) : l_Flow_spread_6 x0 x1 x2 h r := by
  refine jm_E_n 4 (x' := (if (h.1 1 x0 2) ≤ x2 then 18 else 10, [some (jm_r 1 x0), some (jm_i x1), some (jm_i x2)], [], h)) rfl ?_
  refine jm_E_ite (fun hc => ?_) (fun hc => ?_)
  · replace H := H.1 hc
    refine jm_E_n 1 (x' := (19, [some (jm_r 1 x0), some (jm_i x1), some (jm_i x2)], [jm_i x1], h)) rfl ?_
    exact jm_E_ret rfl (by rw [H]; rfl)
  · replace H := H.2 hc
    refine jm_E_n 3 (x' := (13, [some (jm_r 1 x0), some (jm_i x1), some (jm_i x2)], [jm_i x2, jm_r 1 x0, jm_i x1], h)) rfl ?_
    obtain ⟨v2, h2, hR, H⟩ := H
    refine jm_E_call rfl (Nat.le_of_ble_eq_true rfl) (Nat.le_of_ble_eq_true rfl) rfl hR trivial ?_
    refine jm_E_eq (x := (14, [some (jm_r 1 x0), some (jm_i x1), some (jm_i x2)], [jm_i v2, jm_i x1], h2)) rfl ?_
    refine jm_E_n 4 (x' := (6, [some (jm_r 1 x0), some (jm_i (x1 + v2)), some (jm_i (x2 + 1))], [], h2)) rfl ?_
    exact H
set_option maxRecDepth 100000 in
theorem wp_Flow_spread {o : Nat} {h : jm_H} {r : jm_Rs} (H :
  ∃ h1 : jm_H, m_Flow_empty o h h1 ∧
  l_Flow_spread_6 o 0 0 h1 r) : jm_R 219 [jm_r 1 o] h r := by
  refine jm_R_of hz_219 (Nat.le_of_ble_eq_true rfl) ?_
  show jm_E cod_219 (0, [some (jm_r 1 o), none, none], [], h) r
  refine jm_E_n 1 (x' := (1, [some (jm_r 1 o), none, none], [jm_r 1 o], h)) rfl ?_
  obtain ⟨h1, hR, H⟩ := H
  refine jm_E_call rfl (Nat.le_of_ble_eq_true rfl) (Nat.le_of_ble_eq_true rfl) rfl hR trivial ?_
  refine jm_E_eq (x := (2, [some (jm_r 1 o), none, none], [], h1)) rfl ?_
  refine jm_E_n 4 (x' := (6, [some (jm_r 1 o), some (jm_i 0), some (jm_i 0)], [], h1)) rfl ?_
  exact H
set_option maxRecDepth 100000 in
theorem wp_Flow_allCosts_4 {x0 : Nat} {x1 : Int32} {x2 : Int32} {h : jm_H} {r : jm_Rs} (H :
  ((h.1 1 x0 3) ≤ x2 →
    r = (some (jm_i x1), h)) ∧
  (¬ ((h.1 1 x0 3) ≤ x2) →
    jm_in x2 24 ∧
    l_Flow_allCosts_4 x0 (x1 + (h.1 15 x0 x2.toNatClampNeg)) (x2 + 1) h r)) : l_Flow_allCosts_4 x0 x1 x2 h r := by
  refine jm_E_n 4 (x' := (if (h.1 1 x0 3) ≤ x2 then 17 else 8, [some (jm_r 1 x0), some (jm_i x1), some (jm_i x2)], [], h)) rfl ?_
  refine jm_E_ite (fun hc => ?_) (fun hc => ?_)
  · replace H := H.1 hc
    refine jm_E_n 1 (x' := (18, [some (jm_r 1 x0), some (jm_i x1), some (jm_i x2)], [jm_i x1], h)) rfl ?_
    exact jm_E_ret rfl (by rw [H]; rfl)
  · replace H := H.2 hc
    refine jm_E_n 4 (x' := (12, [some (jm_r 1 x0), some (jm_i x1), some (jm_i x2)], [jm_i x2, jm_r 15 x0, jm_i x1], h)) rfl ?_
    refine jm_E_iald rfl rfl H.1 ?_
    replace H := H.2
    refine jm_E_eq (x := (13, [some (jm_r 1 x0), some (jm_i x1), some (jm_i x2)], [jm_i (h.1 15 x0 x2.toNatClampNeg), jm_i x1], h)) rfl ?_
    refine jm_E_n 4 (x' := (4, [some (jm_r 1 x0), some (jm_i (x1 + (h.1 15 x0 x2.toNatClampNeg))), some (jm_i (x2 + 1))], [], h)) rfl ?_
    exact H
set_option maxRecDepth 100000 in
theorem wp_Flow_allCosts {o : Nat} {h : jm_H} {r : jm_Rs} (H :
  l_Flow_allCosts_4 o 0 0 h r) : jm_R 214 [jm_r 1 o] h r := by
  refine jm_R_of hz_214 (Nat.le_of_ble_eq_true rfl) ?_
  show jm_E cod_214 (0, [some (jm_r 1 o), none, none], [], h) r
  refine jm_E_n 4 (x' := (4, [some (jm_r 1 o), some (jm_i 0), some (jm_i 0)], [], h)) rfl ?_
  exact H
set_option maxRecDepth 100000 in
theorem wp_Flow_fits {o : Nat} {h : jm_H} {r : jm_Rs} (H :
  ∃ (v1 : Int32) (h1 : jm_H), m_Flow_spread o h v1 h1 ∧
  ∃ (v2 : Int32) (h2 : jm_H), m_Flow_allCosts o h1 v2 h2 ∧
  (v1 = v2 →
    r = (some (jm_i 1), h2)) ∧
  (¬ (v1 = v2) →
    r = (some (jm_i 0), h2))) : jm_R 216 [jm_r 1 o] h r := by
  refine jm_R_of hz_216 (Nat.le_of_ble_eq_true rfl) ?_
  show jm_E cod_216 (0, [some (jm_r 1 o)], [], h) r
  refine jm_E_n 1 (x' := (1, [some (jm_r 1 o)], [jm_r 1 o], h)) rfl ?_
  obtain ⟨v1, h1, hR, H⟩ := H
  refine jm_E_call rfl (Nat.le_of_ble_eq_true rfl) (Nat.le_of_ble_eq_true rfl) rfl hR trivial ?_
  refine jm_E_eq (x := (2, [some (jm_r 1 o)], [jm_i v1], h1)) rfl ?_
  refine jm_E_n 1 (x' := (3, [some (jm_r 1 o)], [jm_r 1 o, jm_i v1], h1)) rfl ?_
  obtain ⟨v2, h2, hR, H⟩ := H
  refine jm_E_call rfl (Nat.le_of_ble_eq_true rfl) (Nat.le_of_ble_eq_true rfl) rfl hR trivial ?_
  refine jm_E_eq (x := (4, [some (jm_r 1 o)], [jm_i v2, jm_i v1], h2)) rfl ?_
  refine jm_E_n 1 (x' := (if v1 = v2 then 5 else 7, [some (jm_r 1 o)], [], h2)) rfl ?_
  refine jm_E_ite (fun hc => ?_) (fun hc => ?_)
  · replace H := H.1 hc
    refine jm_E_n 2 (x' := (8, [some (jm_r 1 o)], [jm_i 1], h2)) rfl ?_
    exact jm_E_ret rfl (by rw [H]; rfl)
  · replace H := H.2 hc
    refine jm_E_n 1 (x' := (8, [some (jm_r 1 o)], [jm_i 0], h2)) rfl ?_
    exact jm_E_ret rfl (by rw [H]; rfl)
set_option maxRecDepth 100000 in
theorem wp_Flow_isGoodIn {o : Nat} {a0 : Nat} {h : jm_H} {r : jm_Rs} (H :
  ∃ (v1 : Int32) (h1 : jm_H), m_Mode_isInRound a0 (h.1 1 o 0) h v1 h1 ∧
  (v1 = 0 →
    r = (some (jm_i 0), h1)) ∧
  (¬ (v1 = 0) →
    ∃ (v2 : Int32) (h2 : jm_H), m_Flow_hasEmptyWindow o h1 v2 h2 ∧
    (v2 = 0 →
      ∃ (v3 : Int32) (h3 : jm_H), m_Flow_fits o h2 v3 h3 ∧
      (v3 = 0 →
        r = (some (jm_i 0), h3)) ∧
      (¬ (v3 = 0) →
        r = (some (jm_i 1), h3))) ∧
    (¬ (v2 = 0) →
      r = (some (jm_i 0), h2)))) : jm_R 215 [jm_r 1 o, jm_r 2 a0] h r := by
  refine jm_R_of hz_215 (Nat.le_of_ble_eq_true rfl) ?_
  show jm_E cod_215 (0, [some (jm_r 1 o), some (jm_r 2 a0)], [], h) r
  refine jm_E_n 3 (x' := (3, [some (jm_r 1 o), some (jm_r 2 a0)], [jm_i (h.1 1 o 0), jm_r 2 a0], h)) rfl ?_
  obtain ⟨v1, h1, hR, H⟩ := H
  refine jm_E_call rfl (Nat.le_of_ble_eq_true rfl) (Nat.le_of_ble_eq_true rfl) rfl hR trivial ?_
  refine jm_E_eq (x := (4, [some (jm_r 1 o), some (jm_r 2 a0)], [jm_i v1], h1)) rfl ?_
  refine jm_E_n 1 (x' := (if v1 = 0 then 13 else 5, [some (jm_r 1 o), some (jm_r 2 a0)], [], h1)) rfl ?_
  refine jm_E_ite (fun hc => ?_) (fun hc => ?_)
  · replace H := H.1 hc
    refine jm_E_n 1 (x' := (14, [some (jm_r 1 o), some (jm_r 2 a0)], [jm_i 0], h1)) rfl ?_
    exact jm_E_ret rfl (by rw [H]; rfl)
  · replace H := H.2 hc
    refine jm_E_n 1 (x' := (6, [some (jm_r 1 o), some (jm_r 2 a0)], [jm_r 1 o], h1)) rfl ?_
    obtain ⟨v2, h2, hR, H⟩ := H
    refine jm_E_call rfl (Nat.le_of_ble_eq_true rfl) (Nat.le_of_ble_eq_true rfl) rfl hR trivial ?_
    refine jm_E_eq (x := (7, [some (jm_r 1 o), some (jm_r 2 a0)], [jm_i v2], h2)) rfl ?_
    refine jm_E_n 1 (x' := (if v2 = 0 then 8 else 13, [some (jm_r 1 o), some (jm_r 2 a0)], [], h2)) rfl ?_
    refine jm_E_ite (fun hc => ?_) (fun hc => ?_)
    · replace H := H.1 hc
      refine jm_E_n 1 (x' := (9, [some (jm_r 1 o), some (jm_r 2 a0)], [jm_r 1 o], h2)) rfl ?_
      obtain ⟨v3, h3, hR, H⟩ := H
      refine jm_E_call rfl (Nat.le_of_ble_eq_true rfl) (Nat.le_of_ble_eq_true rfl) rfl hR trivial ?_
      refine jm_E_eq (x := (10, [some (jm_r 1 o), some (jm_r 2 a0)], [jm_i v3], h3)) rfl ?_
      refine jm_E_n 1 (x' := (if v3 = 0 then 13 else 11, [some (jm_r 1 o), some (jm_r 2 a0)], [], h3)) rfl ?_
      refine jm_E_ite (fun hc => ?_) (fun hc => ?_)
      · replace H := H.1 hc
        refine jm_E_n 1 (x' := (14, [some (jm_r 1 o), some (jm_r 2 a0)], [jm_i 0], h3)) rfl ?_
        exact jm_E_ret rfl (by rw [H]; rfl)
      · replace H := H.2 hc
        refine jm_E_n 2 (x' := (14, [some (jm_r 1 o), some (jm_r 2 a0)], [jm_i 1], h3)) rfl ?_
        exact jm_E_ret rfl (by rw [H]; rfl)
    · replace H := H.2 hc
      refine jm_E_n 1 (x' := (14, [some (jm_r 1 o), some (jm_r 2 a0)], [jm_i 0], h2)) rfl ?_
      exact jm_E_ret rfl (by rw [H]; rfl)
set_option maxRecDepth 100000 in
theorem wp_Table_costsOfLater_6 {x0 : Nat} {x2 : Int32} {x3 : Int32} {x4 : Int32} {x5 : Int32} {h : jm_H} {r : jm_Rs} (H :
  ((h.1 1 x0 3) ≤ x5 →
    r = (some (jm_i x4), h)) ∧
  (¬ ((h.1 1 x0 3) ≤ x5) →
    jm_in x5 24 ∧
    ((h.1 16 x0 x5.toNatClampNeg) < x2 →
      l_Table_costsOfLater_6 x0 x2 x3 x4 (x5 + 1) h r) ∧
    (¬ ((h.1 16 x0 x5.toNatClampNeg) < x2) →
      jm_in x5 24 ∧
      ((h.1 17 x0 x5.toNatClampNeg) = x3 →
        jm_in x5 24 ∧
        l_Table_costsOfLater_6 x0 x2 x3 (x4 + (h.1 15 x0 x5.toNatClampNeg)) (x5 + 1) h r) ∧
      (¬ ((h.1 17 x0 x5.toNatClampNeg) = x3) →
        l_Table_costsOfLater_6 x0 x2 x3 x4 (x5 + 1) h r)))) : l_Table_costsOfLater_6 x0 x2 x3 x4 x5 h r := by
  refine jm_E_n 5 (x' := (if (h.1 1 x0 3) ≤ x5 then 35 else 11, [some (jm_r 6 x0), none, some (jm_i x2), some (jm_i x3), some (jm_i x4), some (jm_i x5)], [], h)) rfl ?_
  refine jm_E_ite (fun hc => ?_) (fun hc => ?_)
  · replace H := H.1 hc
    refine jm_E_n 1 (x' := (36, [some (jm_r 6 x0), none, some (jm_i x2), some (jm_i x3), some (jm_i x4), some (jm_i x5)], [jm_i x4], h)) rfl ?_
    exact jm_E_ret rfl (by rw [H]; rfl)
  · replace H := H.2 hc
    refine jm_E_n 4 (x' := (15, [some (jm_r 6 x0), none, some (jm_i x2), some (jm_i x3), some (jm_i x4), some (jm_i x5)], [jm_i x5, jm_r 16 x0], h)) rfl ?_
    refine jm_E_iald rfl rfl H.1 ?_
    replace H := H.2
    refine jm_E_eq (x := (16, [some (jm_r 6 x0), none, some (jm_i x2), some (jm_i x3), some (jm_i x4), some (jm_i x5)], [jm_i (h.1 16 x0 x5.toNatClampNeg)], h)) rfl ?_
    refine jm_E_n 2 (x' := (if (h.1 16 x0 x5.toNatClampNeg) < x2 then 33 else 18, [some (jm_r 6 x0), none, some (jm_i x2), some (jm_i x3), some (jm_i x4), some (jm_i x5)], [], h)) rfl ?_
    refine jm_E_ite (fun hc => ?_) (fun hc => ?_)
    · replace H := H.1 hc
      refine jm_E_n 2 (x' := (6, [some (jm_r 6 x0), none, some (jm_i x2), some (jm_i x3), some (jm_i x4), some (jm_i (x5 + 1))], [], h)) rfl ?_
      exact H
    · replace H := H.2 hc
      refine jm_E_n 4 (x' := (22, [some (jm_r 6 x0), none, some (jm_i x2), some (jm_i x3), some (jm_i x4), some (jm_i x5)], [jm_i x5, jm_r 17 x0], h)) rfl ?_
      refine jm_E_iald rfl rfl H.1 ?_
      replace H := H.2
      refine jm_E_eq (x := (23, [some (jm_r 6 x0), none, some (jm_i x2), some (jm_i x3), some (jm_i x4), some (jm_i x5)], [jm_i (h.1 17 x0 x5.toNatClampNeg)], h)) rfl ?_
      refine jm_E_n 2 (x' := (if (h.1 17 x0 x5.toNatClampNeg) = x3 then 25 else 33, [some (jm_r 6 x0), none, some (jm_i x2), some (jm_i x3), some (jm_i x4), some (jm_i x5)], [], h)) rfl ?_
      refine jm_E_ite (fun hc => ?_) (fun hc => ?_)
      · replace H := H.1 hc
        refine jm_E_n 5 (x' := (30, [some (jm_r 6 x0), none, some (jm_i x2), some (jm_i x3), some (jm_i x4), some (jm_i x5)], [jm_i x5, jm_r 15 x0, jm_i x4], h)) rfl ?_
        refine jm_E_iald rfl rfl H.1 ?_
        replace H := H.2
        refine jm_E_eq (x := (31, [some (jm_r 6 x0), none, some (jm_i x2), some (jm_i x3), some (jm_i x4), some (jm_i x5)], [jm_i (h.1 15 x0 x5.toNatClampNeg), jm_i x4], h)) rfl ?_
        refine jm_E_n 4 (x' := (6, [some (jm_r 6 x0), none, some (jm_i x2), some (jm_i x3), some (jm_i (x4 + (h.1 15 x0 x5.toNatClampNeg))), some (jm_i (x5 + 1))], [], h)) rfl ?_
        exact H
      · replace H := H.2 hc
        refine jm_E_n 2 (x' := (6, [some (jm_r 6 x0), none, some (jm_i x2), some (jm_i x3), some (jm_i x4), some (jm_i (x5 + 1))], [], h)) rfl ?_
        exact H
set_option maxRecDepth 100000 in
theorem wp_Table_costsOfLater {o : Nat} {a0 : Int32} {a1 : Int32} {a2 : Int32} {h : jm_H} {r : jm_Rs} (H :
  l_Table_costsOfLater_6 o a1 a2 0 (a0 + 1) h r) : jm_R 262 [jm_r 6 o, jm_i a0, jm_i a1, jm_i a2] h r := by
  refine jm_R_of hz_262 (Nat.le_of_ble_eq_true rfl) ?_
  show jm_E cod_262 (0, [some (jm_r 6 o), some (jm_i a0), some (jm_i a1), some (jm_i a2), none, none], [], h) r
  refine jm_E_n 6 (x' := (6, [some (jm_r 6 o), some (jm_i a0), some (jm_i a1), some (jm_i a2), some (jm_i 0), some (jm_i (a0 + 1))], [], h)) rfl ?_
  exact jm_E_weak (jm_le_s (jm_le_n (jm_le_s (jm_le_s (jm_le_s (jm_le_s jm_le_nil)))))) H
set_option maxRecDepth 100000 in
theorem wp_Table_leastLeft_6 {x0 : Nat} {x1 : Int32} {x2 : Int32} {x3 : Int32} {x4 : Int32} {x5 : Int32} {x6 : Int32} {h : jm_H} {r : jm_Rs} (H :
  jm_in x1 24 ∧
  ((h.1 17 x0 x1.toNatClampNeg) ≤ x6 →
    r = (some (jm_i x4), h)) ∧
  (¬ ((h.1 17 x0 x1.toNatClampNeg) ≤ x6) →
    jm_in x6 24 ∧
    ∃ (v1 : Int32) (h1 : jm_H), m_Table_costsOfLater x0 x1 x2 x6 h v1 h1 ∧
    (x6 < x3 →
      l_Table_leastLeft_6 x0 x1 x2 x3 x4 (x5 + ((h.1 19 x0 x6.toNatClampNeg) - v1)) (x6 + 1) h1 r) ∧
    (¬ (x6 < x3) →
      l_Table_leastLeft_6 x0 x1 x2 x3 (if (x5 + ((h.1 19 x0 x6.toNatClampNeg) - v1)) < x4 then (x5 + ((h.1 19 x0 x6.toNatClampNeg) - v1)) else x4) (x5 + ((h.1 19 x0 x6.toNatClampNeg) - v1)) (x6 + 1) h1 r))) : l_Table_leastLeft_6 x0 x1 x2 x3 x4 x5 x6 h r := by
  refine jm_E_n 5 (x' := (11, [some (jm_r 6 x0), some (jm_i x1), some (jm_i x2), some (jm_i x3), some (jm_i x4), some (jm_i x5), some (jm_i x6)], [jm_i x1, jm_r 17 x0, jm_i x6], h)) rfl ?_
  refine jm_E_iald rfl rfl H.1 ?_
  replace H := H.2
  refine jm_E_eq (x := (12, [some (jm_r 6 x0), some (jm_i x1), some (jm_i x2), some (jm_i x3), some (jm_i x4), some (jm_i x5), some (jm_i x6)], [jm_i (h.1 17 x0 x1.toNatClampNeg), jm_i x6], h)) rfl ?_
  refine jm_E_n 1 (x' := (if (h.1 17 x0 x1.toNatClampNeg) ≤ x6 then 36 else 13, [some (jm_r 6 x0), some (jm_i x1), some (jm_i x2), some (jm_i x3), some (jm_i x4), some (jm_i x5), some (jm_i x6)], [], h)) rfl ?_
  refine jm_E_ite (fun hc => ?_) (fun hc => ?_)
  · replace H := H.1 hc
    refine jm_E_n 1 (x' := (37, [some (jm_r 6 x0), some (jm_i x1), some (jm_i x2), some (jm_i x3), some (jm_i x4), some (jm_i x5), some (jm_i x6)], [jm_i x4], h)) rfl ?_
    exact jm_E_ret rfl (by rw [H]; rfl)
  · replace H := H.2 hc
    refine jm_E_n 5 (x' := (18, [some (jm_r 6 x0), some (jm_i x1), some (jm_i x2), some (jm_i x3), some (jm_i x4), some (jm_i x5), some (jm_i x6)], [jm_i x6, jm_r 19 x0, jm_i x5], h)) rfl ?_
    refine jm_E_iald rfl rfl H.1 ?_
    replace H := H.2
    refine jm_E_eq (x := (19, [some (jm_r 6 x0), some (jm_i x1), some (jm_i x2), some (jm_i x3), some (jm_i x4), some (jm_i x5), some (jm_i x6)], [jm_i (h.1 19 x0 x6.toNatClampNeg), jm_i x5], h)) rfl ?_
    refine jm_E_n 4 (x' := (23, [some (jm_r 6 x0), some (jm_i x1), some (jm_i x2), some (jm_i x3), some (jm_i x4), some (jm_i x5), some (jm_i x6)], [jm_i x6, jm_i x2, jm_i x1, jm_r 6 x0, jm_i (h.1 19 x0 x6.toNatClampNeg), jm_i x5], h)) rfl ?_
    obtain ⟨v1, h1, hR, H⟩ := H
    refine jm_E_call rfl (Nat.le_of_ble_eq_true rfl) (Nat.le_of_ble_eq_true rfl) rfl hR trivial ?_
    refine jm_E_eq (x := (24, [some (jm_r 6 x0), some (jm_i x1), some (jm_i x2), some (jm_i x3), some (jm_i x4), some (jm_i x5), some (jm_i x6)], [jm_i v1, jm_i (h.1 19 x0 x6.toNatClampNeg), jm_i x5], h1)) rfl ?_
    refine jm_E_n 6 (x' := (if x6 < x3 then 34 else 30, [some (jm_r 6 x0), some (jm_i x1), some (jm_i x2), some (jm_i x3), some (jm_i x4), some (jm_i (x5 + ((h.1 19 x0 x6.toNatClampNeg) - v1))), some (jm_i x6)], [], h1)) rfl ?_
    refine jm_E_ite (fun hc => ?_) (fun hc => ?_)
    · replace H := H.1 hc
      refine jm_E_n 2 (x' := (6, [some (jm_r 6 x0), some (jm_i x1), some (jm_i x2), some (jm_i x3), some (jm_i x4), some (jm_i (x5 + ((h.1 19 x0 x6.toNatClampNeg) - v1))), some (jm_i (x6 + 1))], [], h1)) rfl ?_
      exact H
    · replace H := H.2 hc
      refine jm_E_n 6 (x' := (6, [some (jm_r 6 x0), some (jm_i x1), some (jm_i x2), some (jm_i x3), some (jm_i (if (x5 + ((h.1 19 x0 x6.toNatClampNeg) - v1)) < x4 then (x5 + ((h.1 19 x0 x6.toNatClampNeg) - v1)) else x4)), some (jm_i (x5 + ((h.1 19 x0 x6.toNatClampNeg) - v1))), some (jm_i (x6 + 1))], [], h1)) rfl ?_
      exact H
set_option maxRecDepth 100000 in
theorem wp_Table_leastLeft {o : Nat} {a0 : Int32} {a1 : Int32} {a2 : Int32} {h : jm_H} {r : jm_Rs} (H :
  l_Table_leastLeft_6 o a0 a1 a2 1000000 0 a1 h r) : jm_R 261 [jm_r 6 o, jm_i a0, jm_i a1, jm_i a2] h r := by
  refine jm_R_of hz_261 (Nat.le_of_ble_eq_true rfl) ?_
  show jm_E cod_261 (0, [some (jm_r 6 o), some (jm_i a0), some (jm_i a1), some (jm_i a2), none, none, none], [], h) r
  refine jm_E_n 6 (x' := (6, [some (jm_r 6 o), some (jm_i a0), some (jm_i a1), some (jm_i a2), some (jm_i 1000000), some (jm_i 0), some (jm_i a1)], [], h)) rfl ?_
  exact H
set_option maxRecDepth 100000 in
theorem wp_Table_mostIn_18 {x0 : Nat} {x1 : Int32} {x2 : Int32} {x3 : Int32} {x4 : Int32} {h : jm_H} {r : jm_Rs} (H :
  (x2 < x4 →
    r = (some (jm_i (if (0 : Int32) < x3 then x3 else 0)), h)) ∧
  (¬ (x2 < x4) →
    (x3 ≤ 0 →
      r = (some (jm_i (if (0 : Int32) < x3 then x3 else 0)), h)) ∧
    (¬ (x3 ≤ 0) →
      ∃ (v1 : Int32) (h1 : jm_H), m_Table_leastLeft x0 x1 x4 x2 h v1 h1 ∧
      l_Table_mostIn_18 x0 x1 x2 (if v1 < x3 then v1 else x3) (x4 + 1) h1 r))) : l_Table_mostIn_18 x0 x1 x2 x3 x4 h r := by
  refine jm_E_n 3 (x' := (if x2 < x4 then 33 else 21, [some (jm_r 6 x0), some (jm_i x1), some (jm_i x2), some (jm_i x3), some (jm_i x4)], [], h)) rfl ?_
  refine jm_E_ite (fun hc => ?_) (fun hc => ?_)
  · replace H := H.1 hc
    refine jm_E_n 3 (x' := (36, [some (jm_r 6 x0), some (jm_i x1), some (jm_i x2), some (jm_i x3), some (jm_i x4)], [jm_i (if (0 : Int32) < x3 then x3 else 0)], h)) rfl ?_
    exact jm_E_ret rfl (by rw [H]; rfl)
  · replace H := H.2 hc
    refine jm_E_n 2 (x' := (if x3 ≤ 0 then 33 else 23, [some (jm_r 6 x0), some (jm_i x1), some (jm_i x2), some (jm_i x3), some (jm_i x4)], [], h)) rfl ?_
    refine jm_E_ite (fun hc => ?_) (fun hc => ?_)
    · replace H := H.1 hc
      refine jm_E_n 3 (x' := (36, [some (jm_r 6 x0), some (jm_i x1), some (jm_i x2), some (jm_i x3), some (jm_i x4)], [jm_i (if (0 : Int32) < x3 then x3 else 0)], h)) rfl ?_
      exact jm_E_ret rfl (by rw [H]; rfl)
    · replace H := H.2 hc
      refine jm_E_n 5 (x' := (28, [some (jm_r 6 x0), some (jm_i x1), some (jm_i x2), some (jm_i x3), some (jm_i x4)], [jm_i x2, jm_i x4, jm_i x1, jm_r 6 x0, jm_i x3], h)) rfl ?_
      obtain ⟨v1, h1, hR, H⟩ := H
      refine jm_E_call rfl (Nat.le_of_ble_eq_true rfl) (Nat.le_of_ble_eq_true rfl) rfl hR trivial ?_
      refine jm_E_eq (x := (29, [some (jm_r 6 x0), some (jm_i x1), some (jm_i x2), some (jm_i x3), some (jm_i x4)], [jm_i v1, jm_i x3], h1)) rfl ?_
      refine jm_E_n 4 (x' := (18, [some (jm_r 6 x0), some (jm_i x1), some (jm_i x2), some (jm_i (if v1 < x3 then v1 else x3)), some (jm_i (x4 + 1))], [], h1)) rfl ?_
      exact H
set_option maxRecDepth 100000 in
theorem wp_Table_mostIn {o : Nat} {a0 : Int32} {a1 : Int32} {h : jm_H} {r : jm_Rs} (H :
  jm_in a0 24 ∧
  jm_in a1 24 ∧
  jm_in a0 24 ∧
  l_Table_mostIn_18 o a0 a1 (if (h.1 19 o a1.toNatClampNeg) < (h.1 18 o a0.toNatClampNeg) then (h.1 19 o a1.toNatClampNeg) else (h.1 18 o a0.toNatClampNeg)) (h.1 16 o a0.toNatClampNeg) h r) : jm_R 260 [jm_r 6 o, jm_i a0, jm_i a1] h r := by
  refine jm_R_of hz_260 (Nat.le_of_ble_eq_true rfl) ?_
  show jm_E cod_260 (0, [some (jm_r 6 o), some (jm_i a0), some (jm_i a1), none, none], [], h) r
  refine jm_E_n 4 (x' := (4, [some (jm_r 6 o), some (jm_i a0), some (jm_i a1), none, none], [jm_i a0, jm_r 18 o], h)) rfl ?_
  refine jm_E_iald rfl rfl H.1 ?_
  replace H := H.2
  refine jm_E_eq (x := (5, [some (jm_r 6 o), some (jm_i a0), some (jm_i a1), none, none], [jm_i (h.1 18 o a0.toNatClampNeg)], h)) rfl ?_
  refine jm_E_n 4 (x' := (9, [some (jm_r 6 o), some (jm_i a0), some (jm_i a1), none, none], [jm_i a1, jm_r 19 o, jm_i (h.1 18 o a0.toNatClampNeg)], h)) rfl ?_
  refine jm_E_iald rfl rfl H.1 ?_
  replace H := H.2
  refine jm_E_eq (x := (10, [some (jm_r 6 o), some (jm_i a0), some (jm_i a1), none, none], [jm_i (h.1 19 o a1.toNatClampNeg), jm_i (h.1 18 o a0.toNatClampNeg)], h)) rfl ?_
  refine jm_E_n 6 (x' := (16, [some (jm_r 6 o), some (jm_i a0), some (jm_i a1), some (jm_i (if (h.1 19 o a1.toNatClampNeg) < (h.1 18 o a0.toNatClampNeg) then (h.1 19 o a1.toNatClampNeg) else (h.1 18 o a0.toNatClampNeg))), none], [jm_i a0, jm_r 16 o], h)) rfl ?_
  refine jm_E_iald rfl rfl H.1 ?_
  replace H := H.2
  refine jm_E_eq (x := (17, [some (jm_r 6 o), some (jm_i a0), some (jm_i a1), some (jm_i (if (h.1 19 o a1.toNatClampNeg) < (h.1 18 o a0.toNatClampNeg) then (h.1 19 o a1.toNatClampNeg) else (h.1 18 o a0.toNatClampNeg))), none], [jm_i (h.1 16 o a0.toNatClampNeg)], h)) rfl ?_
  refine jm_E_n 1 (x' := (18, [some (jm_r 6 o), some (jm_i a0), some (jm_i a1), some (jm_i (if (h.1 19 o a1.toNatClampNeg) < (h.1 18 o a0.toNatClampNeg) then (h.1 19 o a1.toNatClampNeg) else (h.1 18 o a0.toNatClampNeg))), some (jm_i (h.1 16 o a0.toNatClampNeg))], [], h)) rfl ?_
  exact H
set_option maxRecDepth 100000 in
theorem wp_Table_fill_5 {x0 : Nat} {x1 : Int32} {h : jm_H} {r : jm_Rs} (H :
  ((h.1 1 x0 3) ≤ x1 →
    r = (none, h)) ∧
  (¬ ((h.1 1 x0 3) ≤ x1) →
    jm_in x1 24 ∧
    l_Table_fill_16 x0 x1 (h.1 16 x0 x1.toNatClampNeg) h r)) : l_Table_fill_5 x0 x1 h r := by
  refine jm_E_n 5 (x' := (if (h.1 1 x0 3) ≤ x1 then 36 else 10, [some (jm_r 6 x0), some (jm_i x1), none], [], h)) rfl ?_
  refine jm_E_ite (fun hc => ?_) (fun hc => ?_)
  · replace H := H.1 hc
    exact jm_E_ret rfl (by rw [H]; rfl)
  · replace H := H.2 hc
    refine jm_E_n 4 (x' := (14, [some (jm_r 6 x0), some (jm_i x1), none], [jm_i x1, jm_r 16 x0], h)) rfl ?_
    refine jm_E_iald rfl rfl H.1 ?_
    replace H := H.2
    refine jm_E_eq (x := (15, [some (jm_r 6 x0), some (jm_i x1), none], [jm_i (h.1 16 x0 x1.toNatClampNeg)], h)) rfl ?_
    refine jm_E_n 1 (x' := (16, [some (jm_r 6 x0), some (jm_i x1), some (jm_i (h.1 16 x0 x1.toNatClampNeg))], [], h)) rfl ?_
    exact H
set_option maxRecDepth 100000 in
theorem wp_Table_fill_16 {x0 : Nat} {x1 : Int32} {x2 : Int32} {h : jm_H} {r : jm_Rs} (H :
  jm_in x1 24 ∧
  ((h.1 17 x0 x1.toNatClampNeg) < x2 →
    l_Table_fill_5 x0 (x1 + 1) h r) ∧
  (¬ ((h.1 17 x0 x1.toNatClampNeg) < x2) →
    ∃ (v2 : Int32) (h2 : jm_H), m_Table_mostIn x0 x1 x2 h v2 h2 ∧
    ∃ h3 : jm_H, m_Flow_put x0 x1 x2 v2 h2 h3 ∧
    l_Table_fill_16 x0 x1 (x2 + 1) h3 r)) : l_Table_fill_16 x0 x1 x2 h r := by
  refine jm_E_n 5 (x' := (21, [some (jm_r 6 x0), some (jm_i x1), some (jm_i x2)], [jm_i x1, jm_r 17 x0, jm_i x2], h)) rfl ?_
  refine jm_E_iald rfl rfl H.1 ?_
  replace H := H.2
  refine jm_E_eq (x := (22, [some (jm_r 6 x0), some (jm_i x1), some (jm_i x2)], [jm_i (h.1 17 x0 x1.toNatClampNeg), jm_i x2], h)) rfl ?_
  refine jm_E_n 1 (x' := (if (h.1 17 x0 x1.toNatClampNeg) < x2 then 34 else 23, [some (jm_r 6 x0), some (jm_i x1), some (jm_i x2)], [], h)) rfl ?_
  refine jm_E_ite (fun hc => ?_) (fun hc => ?_)
  · replace H := H.1 hc
    refine jm_E_n 2 (x' := (5, [some (jm_r 6 x0), some (jm_i (x1 + 1)), some (jm_i x2)], [], h)) rfl ?_
    exact jm_E_weak (jm_le_s (jm_le_s (jm_le_n jm_le_nil))) H
  · replace H := H.2 hc
    refine jm_E_n 7 (x' := (30, [some (jm_r 6 x0), some (jm_i x1), some (jm_i x2)], [jm_i x2, jm_i x1, jm_r 6 x0, jm_i x2, jm_i x1, jm_r 1 x0], h)) rfl ?_
    obtain ⟨v2, h2, hR, H⟩ := H
    refine jm_E_call rfl (Nat.le_of_ble_eq_true rfl) (Nat.le_of_ble_eq_true rfl) rfl hR trivial ?_
    refine jm_E_eq (x := (31, [some (jm_r 6 x0), some (jm_i x1), some (jm_i x2)], [jm_i v2, jm_i x2, jm_i x1, jm_r 1 x0], h2)) rfl ?_
    obtain ⟨h3, hR, H⟩ := H
    refine jm_E_call rfl (Nat.le_of_ble_eq_true rfl) (Nat.le_of_ble_eq_true rfl) rfl hR trivial ?_
    refine jm_E_eq (x := (32, [some (jm_r 6 x0), some (jm_i x1), some (jm_i x2)], [], h3)) rfl ?_
    refine jm_E_n 2 (x' := (16, [some (jm_r 6 x0), some (jm_i x1), some (jm_i (x2 + 1))], [], h3)) rfl ?_
    exact H
set_option maxRecDepth 100000 in
theorem wp_Table_fill {o : Nat} {h : jm_H} {r : jm_Rs} (H :
  ∃ h1 : jm_H, m_Flow_empty o h h1 ∧
  l_Table_fill_5 o 0 h1 r) : jm_R 259 [jm_r 6 o] h r := by
  refine jm_R_of hz_259 (Nat.le_of_ble_eq_true rfl) ?_
  show jm_E cod_259 (0, [some (jm_r 6 o), none, none], [], h) r
  refine jm_E_n 2 (x' := (2, [some (jm_r 6 o), none, none], [jm_r 1 o], h)) rfl ?_
  obtain ⟨h1, hR, H⟩ := H
  refine jm_E_call rfl (Nat.le_of_ble_eq_true rfl) (Nat.le_of_ble_eq_true rfl) rfl hR trivial ?_
  refine jm_E_eq (x := (3, [some (jm_r 6 o), none, none], [], h1)) rfl ?_
  refine jm_E_n 2 (x' := (5, [some (jm_r 6 o), some (jm_i 0), none], [], h1)) rfl ?_
  exact H
set_option maxRecDepth 100000 in
theorem wp_Table_otherFrameFor_6 {x0 : Nat} {x1 : Int32} {x2 : Int32} {x3 : Int32} {h : jm_H} {r : jm_Rs} (H :
  jm_in x1 24 ∧
  ((h.1 17 x0 x1.toNatClampNeg) < x3 →
    r = (some (jm_i (-1)), h)) ∧
  (¬ ((h.1 17 x0 x1.toNatClampNeg) < x3) →
    (x3 = x2 →
      l_Table_otherFrameFor_6 x0 x1 x2 (x3 + 1) h r) ∧
    (¬ (x3 = x2) →
      jm_in x1 24 ∧
      jm_in x3 24 ∧
      ((h.1 21 (24 * x0 + x1.toNatClampNeg) x3.toNatClampNeg) ≤ 0 →
        l_Table_otherFrameFor_6 x0 x1 x2 (x3 + 1) h r) ∧
      (¬ ((h.1 21 (24 * x0 + x1.toNatClampNeg) x3.toNatClampNeg) ≤ 0) →
        jm_in x3 24 ∧
        jm_in x1 24 ∧
        jm_in x2 24 ∧
        ((h.1 19 x0 x3.toNatClampNeg) < (h.1 21 (24 * x0 + x1.toNatClampNeg) x2.toNatClampNeg) →
          l_Table_otherFrameFor_6 x0 x1 x2 (x3 + 1) h r) ∧
        (¬ ((h.1 19 x0 x3.toNatClampNeg) < (h.1 21 (24 * x0 + x1.toNatClampNeg) x2.toNatClampNeg)) →
          r = (some (jm_i x3), h)))))) : l_Table_otherFrameFor_6 x0 x1 x2 x3 h r := by
  refine jm_E_n 5 (x' := (11, [some (jm_r 6 x0), some (jm_i x1), some (jm_i x2), some (jm_i x3)], [jm_i x1, jm_r 17 x0, jm_i x3], h)) rfl ?_
  refine jm_E_iald rfl rfl H.1 ?_
  replace H := H.2
  refine jm_E_eq (x := (12, [some (jm_r 6 x0), some (jm_i x1), some (jm_i x2), some (jm_i x3)], [jm_i (h.1 17 x0 x1.toNatClampNeg), jm_i x3], h)) rfl ?_
  refine jm_E_n 1 (x' := (if (h.1 17 x0 x1.toNatClampNeg) < x3 then 41 else 13, [some (jm_r 6 x0), some (jm_i x1), some (jm_i x2), some (jm_i x3)], [], h)) rfl ?_
  refine jm_E_ite (fun hc => ?_) (fun hc => ?_)
  · replace H := H.1 hc
    refine jm_E_n 1 (x' := (42, [some (jm_r 6 x0), some (jm_i x1), some (jm_i x2), some (jm_i x3)], [jm_i (-1)], h)) rfl ?_
    exact jm_E_ret rfl (by rw [H]; rfl)
  · replace H := H.2 hc
    refine jm_E_n 3 (x' := (if x3 = x2 then 39 else 16, [some (jm_r 6 x0), some (jm_i x1), some (jm_i x2), some (jm_i x3)], [], h)) rfl ?_
    refine jm_E_ite (fun hc => ?_) (fun hc => ?_)
    · replace H := H.1 hc
      refine jm_E_n 2 (x' := (6, [some (jm_r 6 x0), some (jm_i x1), some (jm_i x2), some (jm_i (x3 + 1))], [], h)) rfl ?_
      exact H
    · replace H := H.2 hc
      refine jm_E_n 4 (x' := (20, [some (jm_r 6 x0), some (jm_i x1), some (jm_i x2), some (jm_i x3)], [jm_i x1, jm_r 20 x0], h)) rfl ?_
      refine jm_E_aald rfl rfl H.1 ?_
      replace H := H.2
      refine jm_E_eq (x := (21, [some (jm_r 6 x0), some (jm_i x1), some (jm_i x2), some (jm_i x3)], [jm_r 21 (24 * x0 + x1.toNatClampNeg)], h)) rfl ?_
      refine jm_E_n 1 (x' := (22, [some (jm_r 6 x0), some (jm_i x1), some (jm_i x2), some (jm_i x3)], [jm_i x3, jm_r 21 (24 * x0 + x1.toNatClampNeg)], h)) rfl ?_
      refine jm_E_iald rfl rfl H.1 ?_
      replace H := H.2
      refine jm_E_eq (x := (23, [some (jm_r 6 x0), some (jm_i x1), some (jm_i x2), some (jm_i x3)], [jm_i (h.1 21 (24 * x0 + x1.toNatClampNeg) x3.toNatClampNeg)], h)) rfl ?_
      refine jm_E_n 1 (x' := (if (h.1 21 (24 * x0 + x1.toNatClampNeg) x3.toNatClampNeg) ≤ 0 then 39 else 24, [some (jm_r 6 x0), some (jm_i x1), some (jm_i x2), some (jm_i x3)], [], h)) rfl ?_
      refine jm_E_ite (fun hc => ?_) (fun hc => ?_)
      · replace H := H.1 hc
        refine jm_E_n 2 (x' := (6, [some (jm_r 6 x0), some (jm_i x1), some (jm_i x2), some (jm_i (x3 + 1))], [], h)) rfl ?_
        exact H
      · replace H := H.2 hc
        refine jm_E_n 4 (x' := (28, [some (jm_r 6 x0), some (jm_i x1), some (jm_i x2), some (jm_i x3)], [jm_i x3, jm_r 19 x0], h)) rfl ?_
        refine jm_E_iald rfl rfl H.1 ?_
        replace H := H.2
        refine jm_E_eq (x := (29, [some (jm_r 6 x0), some (jm_i x1), some (jm_i x2), some (jm_i x3)], [jm_i (h.1 19 x0 x3.toNatClampNeg)], h)) rfl ?_
        refine jm_E_n 4 (x' := (33, [some (jm_r 6 x0), some (jm_i x1), some (jm_i x2), some (jm_i x3)], [jm_i x1, jm_r 20 x0, jm_i (h.1 19 x0 x3.toNatClampNeg)], h)) rfl ?_
        refine jm_E_aald rfl rfl H.1 ?_
        replace H := H.2
        refine jm_E_eq (x := (34, [some (jm_r 6 x0), some (jm_i x1), some (jm_i x2), some (jm_i x3)], [jm_r 21 (24 * x0 + x1.toNatClampNeg), jm_i (h.1 19 x0 x3.toNatClampNeg)], h)) rfl ?_
        refine jm_E_n 1 (x' := (35, [some (jm_r 6 x0), some (jm_i x1), some (jm_i x2), some (jm_i x3)], [jm_i x2, jm_r 21 (24 * x0 + x1.toNatClampNeg), jm_i (h.1 19 x0 x3.toNatClampNeg)], h)) rfl ?_
        refine jm_E_iald rfl rfl H.1 ?_
        replace H := H.2
        refine jm_E_eq (x := (36, [some (jm_r 6 x0), some (jm_i x1), some (jm_i x2), some (jm_i x3)], [jm_i (h.1 21 (24 * x0 + x1.toNatClampNeg) x2.toNatClampNeg), jm_i (h.1 19 x0 x3.toNatClampNeg)], h)) rfl ?_
        refine jm_E_n 1 (x' := (if (h.1 19 x0 x3.toNatClampNeg) < (h.1 21 (24 * x0 + x1.toNatClampNeg) x2.toNatClampNeg) then 39 else 37, [some (jm_r 6 x0), some (jm_i x1), some (jm_i x2), some (jm_i x3)], [], h)) rfl ?_
        refine jm_E_ite (fun hc => ?_) (fun hc => ?_)
        · replace H := H.1 hc
          refine jm_E_n 2 (x' := (6, [some (jm_r 6 x0), some (jm_i x1), some (jm_i x2), some (jm_i (x3 + 1))], [], h)) rfl ?_
          exact H
        · replace H := H.2 hc
          refine jm_E_n 1 (x' := (38, [some (jm_r 6 x0), some (jm_i x1), some (jm_i x2), some (jm_i x3)], [jm_i x3], h)) rfl ?_
          exact jm_E_ret rfl (by rw [H]; rfl)
set_option maxRecDepth 100000 in
theorem wp_Table_otherFrameFor {o : Nat} {a0 : Int32} {a1 : Int32} {h : jm_H} {r : jm_Rs} (H :
  jm_in a0 24 ∧
  l_Table_otherFrameFor_6 o a0 a1 (h.1 16 o a0.toNatClampNeg) h r) : jm_R 265 [jm_r 6 o, jm_i a0, jm_i a1] h r := by
  refine jm_R_of hz_265 (Nat.le_of_ble_eq_true rfl) ?_
  show jm_E cod_265 (0, [some (jm_r 6 o), some (jm_i a0), some (jm_i a1), none], [], h) r
  refine jm_E_n 4 (x' := (4, [some (jm_r 6 o), some (jm_i a0), some (jm_i a1), none], [jm_i a0, jm_r 16 o], h)) rfl ?_
  refine jm_E_iald rfl rfl H.1 ?_
  replace H := H.2
  refine jm_E_eq (x := (5, [some (jm_r 6 o), some (jm_i a0), some (jm_i a1), none], [jm_i (h.1 16 o a0.toNatClampNeg)], h)) rfl ?_
  refine jm_E_n 1 (x' := (6, [some (jm_r 6 o), some (jm_i a0), some (jm_i a1), some (jm_i (h.1 16 o a0.toNatClampNeg))], [], h)) rfl ?_
  exact H
set_option maxRecDepth 100000 in
theorem wp_Table_tidyOnce_2 {x0 : Nat} {x1 : Int32} {h : jm_H} {r : jm_Rs} (H :
  ((h.1 1 x0 3) ≤ x1 →
    r = (some (jm_i 0), h)) ∧
  (¬ ((h.1 1 x0 3) ≤ x1) →
    jm_in x1 24 ∧
    l_Table_tidyOnce_13 x0 x1 (h.1 16 x0 x1.toNatClampNeg) h r)) : l_Table_tidyOnce_2 x0 x1 h r := by
  refine jm_E_n 5 (x' := (if (h.1 1 x0 3) ≤ x1 then 58 else 7, [some (jm_r 6 x0), some (jm_i x1), none, none, none], [], h)) rfl ?_
  refine jm_E_ite (fun hc => ?_) (fun hc => ?_)
  · replace H := H.1 hc
    refine jm_E_n 1 (x' := (59, [some (jm_r 6 x0), some (jm_i x1), none, none, none], [jm_i 0], h)) rfl ?_
    exact jm_E_ret rfl (by rw [H]; rfl)
  · replace H := H.2 hc
    refine jm_E_n 4 (x' := (11, [some (jm_r 6 x0), some (jm_i x1), none, none, none], [jm_i x1, jm_r 16 x0], h)) rfl ?_
    refine jm_E_iald rfl rfl H.1 ?_
    replace H := H.2
    refine jm_E_eq (x := (12, [some (jm_r 6 x0), some (jm_i x1), none, none, none], [jm_i (h.1 16 x0 x1.toNatClampNeg)], h)) rfl ?_
    refine jm_E_n 1 (x' := (13, [some (jm_r 6 x0), some (jm_i x1), some (jm_i (h.1 16 x0 x1.toNatClampNeg)), none, none], [], h)) rfl ?_
    exact H
set_option maxRecDepth 100000 in
theorem wp_Table_tidyOnce_13 {x0 : Nat} {x1 : Int32} {x2 : Int32} {h : jm_H} {r : jm_Rs} (H :
  jm_in x1 24 ∧
  ((h.1 17 x0 x1.toNatClampNeg) < x2 →
    l_Table_tidyOnce_2 x0 (x1 + 1) h r) ∧
  (¬ ((h.1 17 x0 x1.toNatClampNeg) < x2) →
    jm_in x1 24 ∧
    jm_in x2 24 ∧
    ((h.1 21 (24 * x0 + x1.toNatClampNeg) x2.toNatClampNeg) ≤ 0 →
      ((-1 : Int32) < 0 →
        l_Table_tidyOnce_13 x0 x1 (x2 + 1) h r) ∧
      (¬ ((-1 : Int32) < 0) →
        ∃ h1 : jm_H, m_Flow_put x0 x1 x2 (-(h.1 21 (24 * x0 + x1.toNatClampNeg) x2.toNatClampNeg)) h h1 ∧
        ∃ h2 : jm_H, m_Flow_put x0 x1 (-1) (h.1 21 (24 * x0 + x1.toNatClampNeg) x2.toNatClampNeg) h1 h2 ∧
        r = (some (jm_i 1), h2))) ∧
    (¬ ((h.1 21 (24 * x0 + x1.toNatClampNeg) x2.toNatClampNeg) ≤ 0) →
      ∃ (v3 : Int32) (h3 : jm_H), m_Table_otherFrameFor x0 x1 x2 h v3 h3 ∧
      (v3 < 0 →
        l_Table_tidyOnce_13 x0 x1 (x2 + 1) h3 r) ∧
      (¬ (v3 < 0) →
        ∃ h4 : jm_H, m_Flow_put x0 x1 x2 (-(h.1 21 (24 * x0 + x1.toNatClampNeg) x2.toNatClampNeg)) h3 h4 ∧
        ∃ h5 : jm_H, m_Flow_put x0 x1 v3 (h.1 21 (24 * x0 + x1.toNatClampNeg) x2.toNatClampNeg) h4 h5 ∧
        r = (some (jm_i 1), h5))))) : l_Table_tidyOnce_13 x0 x1 x2 h r := by
  refine jm_E_n 5 (x' := (18, [some (jm_r 6 x0), some (jm_i x1), some (jm_i x2), none, none], [jm_i x1, jm_r 17 x0, jm_i x2], h)) rfl ?_
  refine jm_E_iald rfl rfl H.1 ?_
  replace H := H.2
  refine jm_E_eq (x := (19, [some (jm_r 6 x0), some (jm_i x1), some (jm_i x2), none, none], [jm_i (h.1 17 x0 x1.toNatClampNeg), jm_i x2], h)) rfl ?_
  refine jm_E_n 1 (x' := (if (h.1 17 x0 x1.toNatClampNeg) < x2 then 56 else 20, [some (jm_r 6 x0), some (jm_i x1), some (jm_i x2), none, none], [], h)) rfl ?_
  refine jm_E_ite (fun hc => ?_) (fun hc => ?_)
  · replace H := H.1 hc
    refine jm_E_n 2 (x' := (2, [some (jm_r 6 x0), some (jm_i (x1 + 1)), some (jm_i x2), none, none], [], h)) rfl ?_
    exact jm_E_weak (jm_le_s (jm_le_s (jm_le_n (jm_le_n (jm_le_n jm_le_nil))))) H
  · replace H := H.2 hc
    refine jm_E_n 4 (x' := (24, [some (jm_r 6 x0), some (jm_i x1), some (jm_i x2), none, none], [jm_i x1, jm_r 20 x0], h)) rfl ?_
    refine jm_E_aald rfl rfl H.1 ?_
    replace H := H.2
    refine jm_E_eq (x := (25, [some (jm_r 6 x0), some (jm_i x1), some (jm_i x2), none, none], [jm_r 21 (24 * x0 + x1.toNatClampNeg)], h)) rfl ?_
    refine jm_E_n 1 (x' := (26, [some (jm_r 6 x0), some (jm_i x1), some (jm_i x2), none, none], [jm_i x2, jm_r 21 (24 * x0 + x1.toNatClampNeg)], h)) rfl ?_
    refine jm_E_iald rfl rfl H.1 ?_
    replace H := H.2
    refine jm_E_eq (x := (27, [some (jm_r 6 x0), some (jm_i x1), some (jm_i x2), none, none], [jm_i (h.1 21 (24 * x0 + x1.toNatClampNeg) x2.toNatClampNeg)], h)) rfl ?_
    refine jm_E_n 3 (x' := (if (h.1 21 (24 * x0 + x1.toNatClampNeg) x2.toNatClampNeg) ≤ 0 then 35 else 30, [some (jm_r 6 x0), some (jm_i x1), some (jm_i x2), some (jm_i (h.1 21 (24 * x0 + x1.toNatClampNeg) x2.toNatClampNeg)), none], [], h)) rfl ?_
    refine jm_E_ite (fun hc => ?_) (fun hc => ?_)
    · replace H := H.1 hc
      refine jm_E_n 4 (x' := (if (-1 : Int32) < 0 then 54 else 39, [some (jm_r 6 x0), some (jm_i x1), some (jm_i x2), some (jm_i (h.1 21 (24 * x0 + x1.toNatClampNeg) x2.toNatClampNeg)), some (jm_i (-1))], [], h)) rfl ?_
      refine jm_E_ite (fun hc => ?_) (fun hc => ?_)
      · replace H := H.1 hc
        refine jm_E_n 2 (x' := (13, [some (jm_r 6 x0), some (jm_i x1), some (jm_i (x2 + 1)), some (jm_i (h.1 21 (24 * x0 + x1.toNatClampNeg) x2.toNatClampNeg)), some (jm_i (-1))], [], h)) rfl ?_
        exact jm_E_weak (jm_le_s (jm_le_s (jm_le_s (jm_le_n (jm_le_n jm_le_nil))))) H
      · replace H := H.2 hc
        refine jm_E_n 6 (x' := (45, [some (jm_r 6 x0), some (jm_i x1), some (jm_i x2), some (jm_i (h.1 21 (24 * x0 + x1.toNatClampNeg) x2.toNatClampNeg)), some (jm_i (-1))], [jm_i (-(h.1 21 (24 * x0 + x1.toNatClampNeg) x2.toNatClampNeg)), jm_i x2, jm_i x1, jm_r 1 x0], h)) rfl ?_
        obtain ⟨h1, hR, H⟩ := H
        refine jm_E_call rfl (Nat.le_of_ble_eq_true rfl) (Nat.le_of_ble_eq_true rfl) rfl hR trivial ?_
        refine jm_E_eq (x := (46, [some (jm_r 6 x0), some (jm_i x1), some (jm_i x2), some (jm_i (h.1 21 (24 * x0 + x1.toNatClampNeg) x2.toNatClampNeg)), some (jm_i (-1))], [], h1)) rfl ?_
        refine jm_E_n 5 (x' := (51, [some (jm_r 6 x0), some (jm_i x1), some (jm_i x2), some (jm_i (h.1 21 (24 * x0 + x1.toNatClampNeg) x2.toNatClampNeg)), some (jm_i (-1))], [jm_i (h.1 21 (24 * x0 + x1.toNatClampNeg) x2.toNatClampNeg), jm_i (-1), jm_i x1, jm_r 1 x0], h1)) rfl ?_
        obtain ⟨h2, hR, H⟩ := H
        refine jm_E_call rfl (Nat.le_of_ble_eq_true rfl) (Nat.le_of_ble_eq_true rfl) rfl hR trivial ?_
        refine jm_E_eq (x := (52, [some (jm_r 6 x0), some (jm_i x1), some (jm_i x2), some (jm_i (h.1 21 (24 * x0 + x1.toNatClampNeg) x2.toNatClampNeg)), some (jm_i (-1))], [], h2)) rfl ?_
        refine jm_E_n 1 (x' := (53, [some (jm_r 6 x0), some (jm_i x1), some (jm_i x2), some (jm_i (h.1 21 (24 * x0 + x1.toNatClampNeg) x2.toNatClampNeg)), some (jm_i (-1))], [jm_i 1], h2)) rfl ?_
        exact jm_E_ret rfl (by rw [H]; rfl)
    · replace H := H.2 hc
      refine jm_E_n 3 (x' := (33, [some (jm_r 6 x0), some (jm_i x1), some (jm_i x2), some (jm_i (h.1 21 (24 * x0 + x1.toNatClampNeg) x2.toNatClampNeg)), none], [jm_i x2, jm_i x1, jm_r 6 x0], h)) rfl ?_
      obtain ⟨v3, h3, hR, H⟩ := H
      refine jm_E_call rfl (Nat.le_of_ble_eq_true rfl) (Nat.le_of_ble_eq_true rfl) rfl hR trivial ?_
      refine jm_E_eq (x := (34, [some (jm_r 6 x0), some (jm_i x1), some (jm_i x2), some (jm_i (h.1 21 (24 * x0 + x1.toNatClampNeg) x2.toNatClampNeg)), none], [jm_i v3], h3)) rfl ?_
      refine jm_E_n 4 (x' := (if v3 < 0 then 54 else 39, [some (jm_r 6 x0), some (jm_i x1), some (jm_i x2), some (jm_i (h.1 21 (24 * x0 + x1.toNatClampNeg) x2.toNatClampNeg)), some (jm_i v3)], [], h3)) rfl ?_
      refine jm_E_ite (fun hc => ?_) (fun hc => ?_)
      · replace H := H.1 hc
        refine jm_E_n 2 (x' := (13, [some (jm_r 6 x0), some (jm_i x1), some (jm_i (x2 + 1)), some (jm_i (h.1 21 (24 * x0 + x1.toNatClampNeg) x2.toNatClampNeg)), some (jm_i v3)], [], h3)) rfl ?_
        exact jm_E_weak (jm_le_s (jm_le_s (jm_le_s (jm_le_n (jm_le_n jm_le_nil))))) H
      · replace H := H.2 hc
        refine jm_E_n 6 (x' := (45, [some (jm_r 6 x0), some (jm_i x1), some (jm_i x2), some (jm_i (h.1 21 (24 * x0 + x1.toNatClampNeg) x2.toNatClampNeg)), some (jm_i v3)], [jm_i (-(h.1 21 (24 * x0 + x1.toNatClampNeg) x2.toNatClampNeg)), jm_i x2, jm_i x1, jm_r 1 x0], h3)) rfl ?_
        obtain ⟨h4, hR, H⟩ := H
        refine jm_E_call rfl (Nat.le_of_ble_eq_true rfl) (Nat.le_of_ble_eq_true rfl) rfl hR trivial ?_
        refine jm_E_eq (x := (46, [some (jm_r 6 x0), some (jm_i x1), some (jm_i x2), some (jm_i (h.1 21 (24 * x0 + x1.toNatClampNeg) x2.toNatClampNeg)), some (jm_i v3)], [], h4)) rfl ?_
        refine jm_E_n 5 (x' := (51, [some (jm_r 6 x0), some (jm_i x1), some (jm_i x2), some (jm_i (h.1 21 (24 * x0 + x1.toNatClampNeg) x2.toNatClampNeg)), some (jm_i v3)], [jm_i (h.1 21 (24 * x0 + x1.toNatClampNeg) x2.toNatClampNeg), jm_i v3, jm_i x1, jm_r 1 x0], h4)) rfl ?_
        obtain ⟨h5, hR, H⟩ := H
        refine jm_E_call rfl (Nat.le_of_ble_eq_true rfl) (Nat.le_of_ble_eq_true rfl) rfl hR trivial ?_
        refine jm_E_eq (x := (52, [some (jm_r 6 x0), some (jm_i x1), some (jm_i x2), some (jm_i (h.1 21 (24 * x0 + x1.toNatClampNeg) x2.toNatClampNeg)), some (jm_i v3)], [], h5)) rfl ?_
        refine jm_E_n 1 (x' := (53, [some (jm_r 6 x0), some (jm_i x1), some (jm_i x2), some (jm_i (h.1 21 (24 * x0 + x1.toNatClampNeg) x2.toNatClampNeg)), some (jm_i v3)], [jm_i 1], h5)) rfl ?_
        exact jm_E_ret rfl (by rw [H]; rfl)
set_option maxRecDepth 100000 in
theorem wp_Table_tidyOnce {o : Nat} {h : jm_H} {r : jm_Rs} (H :
  l_Table_tidyOnce_2 o 0 h r) : jm_R 264 [jm_r 6 o] h r := by
  refine jm_R_of hz_264 (Nat.le_of_ble_eq_true rfl) ?_
  show jm_E cod_264 (0, [some (jm_r 6 o), none, none, none, none], [], h) r
  refine jm_E_n 2 (x' := (2, [some (jm_r 6 o), some (jm_i 0), none, none, none], [], h)) rfl ?_
  exact H
set_option maxRecDepth 100000 in
theorem wp_Table_tidy_2 {x0 : Nat} {x1 : Int32} {h : jm_H} {r : jm_Rs} (H :
  (576 ≤ x1 →
    r = (none, h)) ∧
  (¬ (576 ≤ x1) →
    ∃ (v1 : Int32) (h1 : jm_H), m_Table_tidyOnce x0 h v1 h1 ∧
    (v1 = 0 →
      r = (none, h1)) ∧
    (¬ (v1 = 0) →
      l_Table_tidy_2 x0 (x1 + 1) (jm_sI h1 6 x0 3 ((h1.1 6 x0 3) + 1)) r))) : l_Table_tidy_2 x0 x1 h r := by
  refine jm_E_n 3 (x' := (if 576 ≤ x1 then 17 else 5, [some (jm_r 6 x0), some (jm_i x1)], [], h)) rfl ?_
  refine jm_E_ite (fun hc => ?_) (fun hc => ?_)
  · replace H := H.1 hc
    exact jm_E_ret rfl (by rw [H]; rfl)
  · replace H := H.2 hc
    refine jm_E_n 1 (x' := (6, [some (jm_r 6 x0), some (jm_i x1)], [jm_r 6 x0], h)) rfl ?_
    obtain ⟨v1, h1, hR, H⟩ := H
    refine jm_E_call rfl (Nat.le_of_ble_eq_true rfl) (Nat.le_of_ble_eq_true rfl) rfl hR trivial ?_
    refine jm_E_eq (x := (7, [some (jm_r 6 x0), some (jm_i x1)], [jm_i v1], h1)) rfl ?_
    refine jm_E_n 1 (x' := (if v1 = 0 then 8 else 9, [some (jm_r 6 x0), some (jm_i x1)], [], h1)) rfl ?_
    refine jm_E_ite (fun hc => ?_) (fun hc => ?_)
    · replace H := H.1 hc
      exact jm_E_ret rfl (by rw [H]; rfl)
    · replace H := H.2 hc
      refine jm_E_n 8 (x' := (2, [some (jm_r 6 x0), some (jm_i (x1 + 1))], [], (jm_sI h1 6 x0 3 ((h1.1 6 x0 3) + 1)))) rfl ?_
      exact H
set_option maxRecDepth 100000 in
theorem wp_Table_tidy {o : Nat} {h : jm_H} {r : jm_Rs} (H :
  l_Table_tidy_2 o 0 h r) : jm_R 263 [jm_r 6 o] h r := by
  refine jm_R_of hz_263 (Nat.le_of_ble_eq_true rfl) ?_
  show jm_E cod_263 (0, [some (jm_r 6 o), none], [], h) r
  refine jm_E_n 2 (x' := (2, [some (jm_r 6 o), some (jm_i 0)], [], h)) rfl ?_
  exact H
set_option maxRecDepth 100000 in
theorem wp_Table_countPieces_4 {x0 : Nat} {x1 : Int32} {x2 : Int32} {h : jm_H} {r : jm_Rs} (H :
  ((h.1 1 x0 3) ≤ x2 →
    r = (some (jm_i x1), h)) ∧
  (¬ ((h.1 1 x0 3) ≤ x2) →
    jm_in x2 24 ∧
    l_Table_countPieces_15 x0 x1 x2 (h.1 16 x0 x2.toNatClampNeg) h r)) : l_Table_countPieces_4 x0 x1 x2 h r := by
  refine jm_E_n 5 (x' := (if (h.1 1 x0 3) ≤ x2 then 35 else 9, [some (jm_r 6 x0), some (jm_i x1), some (jm_i x2), none], [], h)) rfl ?_
  refine jm_E_ite (fun hc => ?_) (fun hc => ?_)
  · replace H := H.1 hc
    refine jm_E_n 1 (x' := (36, [some (jm_r 6 x0), some (jm_i x1), some (jm_i x2), none], [jm_i x1], h)) rfl ?_
    exact jm_E_ret rfl (by rw [H]; rfl)
  · replace H := H.2 hc
    refine jm_E_n 4 (x' := (13, [some (jm_r 6 x0), some (jm_i x1), some (jm_i x2), none], [jm_i x2, jm_r 16 x0], h)) rfl ?_
    refine jm_E_iald rfl rfl H.1 ?_
    replace H := H.2
    refine jm_E_eq (x := (14, [some (jm_r 6 x0), some (jm_i x1), some (jm_i x2), none], [jm_i (h.1 16 x0 x2.toNatClampNeg)], h)) rfl ?_
    refine jm_E_n 1 (x' := (15, [some (jm_r 6 x0), some (jm_i x1), some (jm_i x2), some (jm_i (h.1 16 x0 x2.toNatClampNeg))], [], h)) rfl ?_
    exact H
set_option maxRecDepth 100000 in
theorem wp_Table_countPieces_15 {x0 : Nat} {x1 : Int32} {x2 : Int32} {x3 : Int32} {h : jm_H} {r : jm_Rs} (H :
  jm_in x2 24 ∧
  ((h.1 17 x0 x2.toNatClampNeg) < x3 →
    l_Table_countPieces_4 x0 x1 (x2 + 1) h r) ∧
  (¬ ((h.1 17 x0 x2.toNatClampNeg) < x3) →
    jm_in x2 24 ∧
    jm_in x3 24 ∧
    ((h.1 21 (24 * x0 + x2.toNatClampNeg) x3.toNatClampNeg) ≤ 0 →
      l_Table_countPieces_15 x0 x1 x2 (x3 + 1) h r) ∧
    (¬ ((h.1 21 (24 * x0 + x2.toNatClampNeg) x3.toNatClampNeg) ≤ 0) →
      l_Table_countPieces_15 x0 (x1 + 1) x2 (x3 + 1) h r))) : l_Table_countPieces_15 x0 x1 x2 x3 h r := by
  refine jm_E_n 5 (x' := (20, [some (jm_r 6 x0), some (jm_i x1), some (jm_i x2), some (jm_i x3)], [jm_i x2, jm_r 17 x0, jm_i x3], h)) rfl ?_
  refine jm_E_iald rfl rfl H.1 ?_
  replace H := H.2
  refine jm_E_eq (x := (21, [some (jm_r 6 x0), some (jm_i x1), some (jm_i x2), some (jm_i x3)], [jm_i (h.1 17 x0 x2.toNatClampNeg), jm_i x3], h)) rfl ?_
  refine jm_E_n 1 (x' := (if (h.1 17 x0 x2.toNatClampNeg) < x3 then 33 else 22, [some (jm_r 6 x0), some (jm_i x1), some (jm_i x2), some (jm_i x3)], [], h)) rfl ?_
  refine jm_E_ite (fun hc => ?_) (fun hc => ?_)
  · replace H := H.1 hc
    refine jm_E_n 2 (x' := (4, [some (jm_r 6 x0), some (jm_i x1), some (jm_i (x2 + 1)), some (jm_i x3)], [], h)) rfl ?_
    exact jm_E_weak (jm_le_s (jm_le_s (jm_le_s (jm_le_n jm_le_nil)))) H
  · replace H := H.2 hc
    refine jm_E_n 4 (x' := (26, [some (jm_r 6 x0), some (jm_i x1), some (jm_i x2), some (jm_i x3)], [jm_i x2, jm_r 20 x0], h)) rfl ?_
    refine jm_E_aald rfl rfl H.1 ?_
    replace H := H.2
    refine jm_E_eq (x := (27, [some (jm_r 6 x0), some (jm_i x1), some (jm_i x2), some (jm_i x3)], [jm_r 21 (24 * x0 + x2.toNatClampNeg)], h)) rfl ?_
    refine jm_E_n 1 (x' := (28, [some (jm_r 6 x0), some (jm_i x1), some (jm_i x2), some (jm_i x3)], [jm_i x3, jm_r 21 (24 * x0 + x2.toNatClampNeg)], h)) rfl ?_
    refine jm_E_iald rfl rfl H.1 ?_
    replace H := H.2
    refine jm_E_eq (x := (29, [some (jm_r 6 x0), some (jm_i x1), some (jm_i x2), some (jm_i x3)], [jm_i (h.1 21 (24 * x0 + x2.toNatClampNeg) x3.toNatClampNeg)], h)) rfl ?_
    refine jm_E_n 1 (x' := (if (h.1 21 (24 * x0 + x2.toNatClampNeg) x3.toNatClampNeg) ≤ 0 then 31 else 30, [some (jm_r 6 x0), some (jm_i x1), some (jm_i x2), some (jm_i x3)], [], h)) rfl ?_
    refine jm_E_ite (fun hc => ?_) (fun hc => ?_)
    · replace H := H.1 hc
      refine jm_E_n 2 (x' := (15, [some (jm_r 6 x0), some (jm_i x1), some (jm_i x2), some (jm_i (x3 + 1))], [], h)) rfl ?_
      exact H
    · replace H := H.2 hc
      refine jm_E_n 3 (x' := (15, [some (jm_r 6 x0), some (jm_i (x1 + 1)), some (jm_i x2), some (jm_i (x3 + 1))], [], h)) rfl ?_
      exact H
set_option maxRecDepth 100000 in
theorem wp_Table_countPieces {o : Nat} {h : jm_H} {r : jm_Rs} (H :
  l_Table_countPieces_4 o 0 0 h r) : jm_R 266 [jm_r 6 o] h r := by
  refine jm_R_of hz_266 (Nat.le_of_ble_eq_true rfl) ?_
  show jm_E cod_266 (0, [some (jm_r 6 o), none, none, none], [], h) r
  refine jm_E_n 4 (x' := (4, [some (jm_r 6 o), some (jm_i 0), some (jm_i 0), none], [], h)) rfl ?_
  exact H
set_option maxRecDepth 100000 in
theorem wp_Table_make {o : Nat} {a0 : Nat} {a1 : Int32} {h : jm_H} {r : jm_Rs} (H :
  ∃ h1 : jm_H, m_Flow_lay o a0 a1 (h.1 2 a0 1) h h1 ∧
  ∃ (v2 : Int32) (h2 : jm_H), m_Flow_isGoodIn o a0 h1 v2 h2 ∧
  (v2 = 0 ∨ v2 = 1) ∧
  (((jm_sI h2 6 o 1 v2).1 6 o 1) = 0 →
    r = (none, (jm_sI (jm_sI (jm_sI h2 6 o 1 v2) 6 o 2 0) 6 o 3 0))) ∧
  (¬ (((jm_sI h2 6 o 1 v2).1 6 o 1) = 0) →
    ∃ h3 : jm_H, m_Table_fill o (jm_sI (jm_sI (jm_sI h2 6 o 1 v2) 6 o 2 0) 6 o 3 0) h3 ∧
    ∃ h4 : jm_H, m_Table_tidy o h3 h4 ∧
    ∃ (v5 : Int32) (h5 : jm_H), m_Table_countPieces o h4 v5 h5 ∧
    r = (none, (jm_sI h5 6 o 2 v5)))) : jm_R 258 [jm_r 6 o, jm_r 2 a0, jm_i a1] h r := by
  refine jm_R_of hz_258 (Nat.le_of_ble_eq_true rfl) ?_
  show jm_E cod_258 (0, [some (jm_r 6 o), some (jm_r 2 a0), some (jm_i a1)], [], h) r
  refine jm_E_n 6 (x' := (6, [some (jm_r 6 o), some (jm_r 2 a0), some (jm_i a1)], [jm_i (h.1 2 a0 1), jm_i a1, jm_r 2 a0, jm_r 1 o], h)) rfl ?_
  obtain ⟨h1, hR, H⟩ := H
  refine jm_E_call rfl (Nat.le_of_ble_eq_true rfl) (Nat.le_of_ble_eq_true rfl) rfl hR trivial ?_
  refine jm_E_eq (x := (7, [some (jm_r 6 o), some (jm_r 2 a0), some (jm_i a1)], [], h1)) rfl ?_
  refine jm_E_n 4 (x' := (11, [some (jm_r 6 o), some (jm_r 2 a0), some (jm_i a1)], [jm_r 2 a0, jm_r 1 o, jm_r 6 o], h1)) rfl ?_
  obtain ⟨v2, h2, hR, H⟩ := H
  refine jm_E_call rfl (Nat.le_of_ble_eq_true rfl) (Nat.le_of_ble_eq_true rfl) rfl hR trivial ?_
  refine jm_E_eq (x := (12, [some (jm_r 6 o), some (jm_r 2 a0), some (jm_i a1)], [jm_i v2, jm_r 6 o], h2)) rfl ?_
  refine jm_E_pZ rfl H.1 ?_
  replace H := H.2
  refine jm_E_eq (x := (13, [some (jm_r 6 o), some (jm_r 2 a0), some (jm_i a1)], [], (jm_sI h2 6 o 1 v2))) rfl ?_
  refine jm_E_n 9 (x' := (if ((jm_sI h2 6 o 1 v2).1 6 o 1) = 0 then 30 else 22, [some (jm_r 6 o), some (jm_r 2 a0), some (jm_i a1)], [], (jm_sI (jm_sI (jm_sI h2 6 o 1 v2) 6 o 2 0) 6 o 3 0))) rfl ?_
  refine jm_E_ite (fun hc => ?_) (fun hc => ?_)
  · replace H := H.1 hc
    exact jm_E_ret rfl (by rw [H]; rfl)
  · replace H := H.2 hc
    refine jm_E_n 1 (x' := (23, [some (jm_r 6 o), some (jm_r 2 a0), some (jm_i a1)], [jm_r 6 o], (jm_sI (jm_sI (jm_sI h2 6 o 1 v2) 6 o 2 0) 6 o 3 0))) rfl ?_
    obtain ⟨h3, hR, H⟩ := H
    refine jm_E_call rfl (Nat.le_of_ble_eq_true rfl) (Nat.le_of_ble_eq_true rfl) rfl hR trivial ?_
    refine jm_E_eq (x := (24, [some (jm_r 6 o), some (jm_r 2 a0), some (jm_i a1)], [], h3)) rfl ?_
    refine jm_E_n 1 (x' := (25, [some (jm_r 6 o), some (jm_r 2 a0), some (jm_i a1)], [jm_r 6 o], h3)) rfl ?_
    obtain ⟨h4, hR, H⟩ := H
    refine jm_E_call rfl (Nat.le_of_ble_eq_true rfl) (Nat.le_of_ble_eq_true rfl) rfl hR trivial ?_
    refine jm_E_eq (x := (26, [some (jm_r 6 o), some (jm_r 2 a0), some (jm_i a1)], [], h4)) rfl ?_
    refine jm_E_n 2 (x' := (28, [some (jm_r 6 o), some (jm_r 2 a0), some (jm_i a1)], [jm_r 6 o, jm_r 6 o], h4)) rfl ?_
    obtain ⟨v5, h5, hR, H⟩ := H
    refine jm_E_call rfl (Nat.le_of_ble_eq_true rfl) (Nat.le_of_ble_eq_true rfl) rfl hR trivial ?_
    refine jm_E_eq (x := (29, [some (jm_r 6 o), some (jm_r 2 a0), some (jm_i a1)], [jm_i v5, jm_r 6 o], h5)) rfl ?_
    refine jm_E_n 1 (x' := (30, [some (jm_r 6 o), some (jm_r 2 a0), some (jm_i a1)], [], (jm_sI h5 6 o 2 v5))) rfl ?_
    exact jm_E_ret rfl (by rw [H]; rfl)
set_option maxRecDepth 100000 in
theorem wp_Clock_begin {o : Nat} {h : jm_H} {r : jm_Rs} (H :
  r = (none, (jm_sI (jm_sI (jm_sI (jm_sI (jm_sI (jm_sI (jm_sI (jm_sI (jm_sI (jm_sI h 0 o 0 0) 0 o 1 0) 0 o 2 0) 0 o 3 0) 0 o 4 0) 0 o 5 0) 0 o 6 0) 0 o 7 (-2)) 0 o 8 (-2)) 0 o 9 (-2)))) : jm_R 201 [jm_r 0 o] h r := by
  refine jm_R_of hz_201 (Nat.le_of_ble_eq_true rfl) ?_
  show jm_E cod_201 (0, [some (jm_r 0 o)], [], h) r
  refine jm_E_n 30 (x' := (30, [some (jm_r 0 o)], [], (jm_sI (jm_sI (jm_sI (jm_sI (jm_sI (jm_sI (jm_sI (jm_sI (jm_sI (jm_sI h 0 o 0 0) 0 o 1 0) 0 o 2 0) 0 o 3 0) 0 o 4 0) 0 o 5 0) 0 o 6 0) 0 o 7 (-2)) 0 o 8 (-2)) 0 o 9 (-2)))) rfl ?_
  exact jm_E_ret rfl (by rw [H]; rfl)
set_option maxRecDepth 100000 in
theorem wp_FR_beginClock  {h : jm_H} {r : jm_Rs} (H :
  ∃ h1 : jm_H, m_Clock_begin 0 h h1 ∧
  r = (none, (jm_sI h1 7 0 7 0))) : jm_R 11 [jm_r 7 0] h r := by
  refine jm_R_of hz_11 (Nat.le_of_ble_eq_true rfl) ?_
  show jm_E cod_11 (0, [some (jm_r 7 0)], [], h) r
  refine jm_E_n 2 (x' := (2, [some (jm_r 7 0)], [jm_r 0 0], h)) rfl ?_
  obtain ⟨h1, hR, H⟩ := H
  refine jm_E_call rfl (Nat.le_of_ble_eq_true rfl) (Nat.le_of_ble_eq_true rfl) rfl hR trivial ?_
  refine jm_E_eq (x := (3, [some (jm_r 7 0)], [], h1)) rfl ?_
  refine jm_E_n 3 (x' := (6, [some (jm_r 7 0)], [], (jm_sI h1 7 0 7 0))) rfl ?_
  exact jm_E_ret rfl (by rw [H]; rfl)
set_option maxRecDepth 100000 in
theorem wp_FR_answered {a0 : Int32} {h : jm_H} {r : jm_Rs} (H :
  r = (some (jm_i a0), (jm_sI h 7 0 8 0))) : jm_R 10 [jm_r 7 0, jm_i a0] h r := by
  refine jm_R_of hz_10 (Nat.le_of_ble_eq_true rfl) ?_
  show jm_E cod_10 (0, [some (jm_r 7 0), some (jm_i a0)], [], h) r
  refine jm_E_n 4 (x' := (4, [some (jm_r 7 0), some (jm_i a0)], [jm_i a0], (jm_sI h 7 0 8 0))) rfl ?_
  exact jm_E_ret rfl (by rw [H]; rfl)
set_option maxRecDepth 100000 in
theorem wp_FR_plan_43 {x3 : Int32} {h : jm_H} {r : jm_Rs} (H :
  ((h.1 3 (h.2.1 7 0 1) 0) ≤ x3 →
    ∃ h5 : jm_H, m_FR_beginClock h h5 ∧
    ∃ (v6 : Int32) (h6 : jm_H), m_FR_answered (h5.1 3 (h5.2.1 7 0 1) 0) h5 v6 h6 ∧
    r = (some (jm_i v6), h6)) ∧
  (¬ ((h.1 3 (h.2.1 7 0 1) 0) ≤ x3) →
    jm_in x3 3 ∧
    jm_in x3 3 ∧
    jm_in x3 3 ∧
    ∃ h7 : jm_H, m_Table_make (3 * 0 + x3.toNatClampNeg) (3 * (h.2.1 7 0 1) + x3.toNatClampNeg) (h.1 2 (3 * (h.2.1 7 0 1) + x3.toNatClampNeg) 0) h h7 ∧
    l_FR_plan_43 (x3 + 1) h7 r)) : l_FR_plan_43 x3 h r := by
  refine jm_E_n 5 (x' := (if (h.1 3 (h.2.1 7 0 1) 0) ≤ x3 then 66 else 48, [some (jm_r 7 0), none, none, some (jm_i x3)], [], h)) rfl ?_
  refine jm_E_ite (fun hc => ?_) (fun hc => ?_)
  · replace H := H.1 hc
    refine jm_E_n 1 (x' := (67, [some (jm_r 7 0), none, none, some (jm_i x3)], [jm_r 7 0], h)) rfl ?_
    obtain ⟨h5, hR, H⟩ := H
    refine jm_E_call rfl (Nat.le_of_ble_eq_true rfl) (Nat.le_of_ble_eq_true rfl) rfl hR trivial ?_
    refine jm_E_eq (x := (68, [some (jm_r 7 0), none, none, some (jm_i x3)], [], h5)) rfl ?_
    refine jm_E_n 4 (x' := (72, [some (jm_r 7 0), none, none, some (jm_i x3)], [jm_i (h5.1 3 (h5.2.1 7 0 1) 0), jm_r 7 0], h5)) rfl ?_
    obtain ⟨v6, h6, hR, H⟩ := H
    refine jm_E_call rfl (Nat.le_of_ble_eq_true rfl) (Nat.le_of_ble_eq_true rfl) rfl hR trivial ?_
    refine jm_E_eq (x := (73, [some (jm_r 7 0), none, none, some (jm_i x3)], [jm_i v6], h6)) rfl ?_
    exact jm_E_ret rfl (by rw [H]; rfl)
  · replace H := H.2 hc
    refine jm_E_n 3 (x' := (51, [some (jm_r 7 0), none, none, some (jm_i x3)], [jm_i x3, jm_r 32 0], h)) rfl ?_
    refine jm_E_aald rfl rfl H.1 ?_
    replace H := H.2
    refine jm_E_eq (x := (52, [some (jm_r 7 0), none, none, some (jm_i x3)], [jm_r 6 (3 * 0 + x3.toNatClampNeg)], h)) rfl ?_
    refine jm_E_n 4 (x' := (56, [some (jm_r 7 0), none, none, some (jm_i x3)], [jm_i x3, jm_r 28 (h.2.1 7 0 1), jm_r 6 (3 * 0 + x3.toNatClampNeg)], h)) rfl ?_
    refine jm_E_aald rfl rfl H.1 ?_
    replace H := H.2
    refine jm_E_eq (x := (57, [some (jm_r 7 0), none, none, some (jm_i x3)], [jm_r 2 (3 * (h.2.1 7 0 1) + x3.toNatClampNeg), jm_r 6 (3 * 0 + x3.toNatClampNeg)], h)) rfl ?_
    refine jm_E_n 4 (x' := (61, [some (jm_r 7 0), none, none, some (jm_i x3)], [jm_i x3, jm_r 28 (h.2.1 7 0 1), jm_r 2 (3 * (h.2.1 7 0 1) + x3.toNatClampNeg), jm_r 6 (3 * 0 + x3.toNatClampNeg)], h)) rfl ?_
    refine jm_E_aald rfl rfl H.1 ?_
    replace H := H.2
    refine jm_E_eq (x := (62, [some (jm_r 7 0), none, none, some (jm_i x3)], [jm_r 2 (3 * (h.2.1 7 0 1) + x3.toNatClampNeg), jm_r 2 (3 * (h.2.1 7 0 1) + x3.toNatClampNeg), jm_r 6 (3 * 0 + x3.toNatClampNeg)], h)) rfl ?_
    refine jm_E_n 1 (x' := (63, [some (jm_r 7 0), none, none, some (jm_i x3)], [jm_i (h.1 2 (3 * (h.2.1 7 0 1) + x3.toNatClampNeg) 0), jm_r 2 (3 * (h.2.1 7 0 1) + x3.toNatClampNeg), jm_r 6 (3 * 0 + x3.toNatClampNeg)], h)) rfl ?_
    obtain ⟨h7, hR, H⟩ := H
    refine jm_E_call rfl (Nat.le_of_ble_eq_true rfl) (Nat.le_of_ble_eq_true rfl) rfl hR trivial ?_
    refine jm_E_eq (x := (64, [some (jm_r 7 0), none, none, some (jm_i x3)], [], h7)) rfl ?_
    refine jm_E_n 2 (x' := (43, [some (jm_r 7 0), none, none, some (jm_i (x3 + 1))], [], h7)) rfl ?_
    exact H
set_option maxRecDepth 100000 in
theorem wp_FR_plan {a0 : Int32} {h : jm_H} {r : jm_Rs} (H :
  (a0 < 0 →
    ∃ (v1 : Int32) (h1 : jm_H), m_FR_refused 2 h v1 h1 ∧
    r = (some (jm_i v1), h1)) ∧
  (¬ (a0 < 0) →
    (a0 ≤ (h.1 4 0 1) →
      ∃ (v2 : Int32) (h2 : jm_H), m_Reader_read a0 h v2 h2 ∧
      (v2 = 0 →
        l_FR_plan_43 0 (jm_sR (jm_sR (jm_sI h2 7 0 9 v2) 7 0 1 (h2.2.1 4 0 9)) 4 0 9 (h2.2.1 7 0 1)) r) ∧
      (¬ (v2 = 0) →
        ∃ (v3 : Int32) (h3 : jm_H), m_FR_refused 4 (jm_sI (jm_sI h2 7 0 9 v2) 7 0 10 (h2.1 4 0 8)) v3 h3 ∧
        r = (some (jm_i v3), h3))) ∧
    (¬ (a0 ≤ (h.1 4 0 1)) →
      ∃ (v4 : Int32) (h4 : jm_H), m_FR_refused 2 h v4 h4 ∧
      r = (some (jm_i v4), h4)))) : jm_R 6 [jm_r 7 0, jm_i a0] h r := by
  refine jm_R_of hz_6 (Nat.le_of_ble_eq_true rfl) ?_
  show jm_E cod_6 (0, [some (jm_r 7 0), some (jm_i a0), none, none], [], h) r
  refine jm_E_n 2 (x' := (if a0 < 0 then 7 else 2, [some (jm_r 7 0), some (jm_i a0), none, none], [], h)) rfl ?_
  refine jm_E_ite (fun hc => ?_) (fun hc => ?_)
  · replace H := H.1 hc
    refine jm_E_n 2 (x' := (9, [some (jm_r 7 0), some (jm_i a0), none, none], [jm_i 2, jm_r 7 0], h)) rfl ?_
    obtain ⟨v1, h1, hR, H⟩ := H
    refine jm_E_call rfl (Nat.le_of_ble_eq_true rfl) (Nat.le_of_ble_eq_true rfl) rfl hR trivial ?_
    refine jm_E_eq (x := (10, [some (jm_r 7 0), some (jm_i a0), none, none], [jm_i v1], h1)) rfl ?_
    exact jm_E_ret rfl (by rw [H]; rfl)
  · replace H := H.2 hc
    refine jm_E_n 5 (x' := (if a0 ≤ (h.1 4 0 1) then 11 else 7, [some (jm_r 7 0), some (jm_i a0), none, none], [], h)) rfl ?_
    refine jm_E_ite (fun hc => ?_) (fun hc => ?_)
    · replace H := H.1 hc
      refine jm_E_n 4 (x' := (15, [some (jm_r 7 0), some (jm_i a0), none, none], [jm_i a0, jm_r 4 0, jm_r 7 0], h)) rfl ?_
      obtain ⟨v2, h2, hR, H⟩ := H
      refine jm_E_call rfl (Nat.le_of_ble_eq_true rfl) (Nat.le_of_ble_eq_true rfl) rfl hR trivial ?_
      refine jm_E_eq (x := (16, [some (jm_r 7 0), some (jm_i a0), none, none], [jm_i v2, jm_r 7 0], h2)) rfl ?_
      refine jm_E_n 4 (x' := (if v2 = 0 then 29 else 20, [some (jm_r 7 0), some (jm_i a0), none, none], [], (jm_sI h2 7 0 9 v2))) rfl ?_
      refine jm_E_ite (fun hc => ?_) (fun hc => ?_)
      · replace H := H.1 hc
        refine jm_E_n 14 (x' := (43, [some (jm_r 7 0), some (jm_i a0), some (jm_r 3 (h2.2.1 7 0 1)), some (jm_i 0)], [], (jm_sR (jm_sR (jm_sI h2 7 0 9 v2) 7 0 1 (h2.2.1 4 0 9)) 4 0 9 (h2.2.1 7 0 1)))) rfl ?_
        exact jm_E_weak (jm_le_s (jm_le_n (jm_le_n (jm_le_s jm_le_nil)))) H
      · replace H := H.2 hc
        refine jm_E_n 7 (x' := (27, [some (jm_r 7 0), some (jm_i a0), none, none], [jm_i 4, jm_r 7 0], (jm_sI (jm_sI h2 7 0 9 v2) 7 0 10 (h2.1 4 0 8)))) rfl ?_
        obtain ⟨v3, h3, hR, H⟩ := H
        refine jm_E_call rfl (Nat.le_of_ble_eq_true rfl) (Nat.le_of_ble_eq_true rfl) rfl hR trivial ?_
        refine jm_E_eq (x := (28, [some (jm_r 7 0), some (jm_i a0), none, none], [jm_i v3], h3)) rfl ?_
        exact jm_E_ret rfl (by rw [H]; rfl)
    · replace H := H.2 hc
      refine jm_E_n 2 (x' := (9, [some (jm_r 7 0), some (jm_i a0), none, none], [jm_i 2, jm_r 7 0], h)) rfl ?_
      obtain ⟨v4, h4, hR, H⟩ := H
      refine jm_E_call rfl (Nat.le_of_ble_eq_true rfl) (Nat.le_of_ble_eq_true rfl) rfl hR trivial ?_
      refine jm_E_eq (x := (10, [some (jm_r 7 0), some (jm_i a0), none, none], [jm_i v4], h4)) rfl ?_
      exact jm_E_ret rfl (by rw [H]; rfl)
set_option maxRecDepth 100000 in
theorem wp_FR_fault  {h : jm_H} {r : jm_Rs} (H :
  r = (some (jm_i (h.1 7 0 9)), h)) : jm_R 7 [jm_r 7 0] h r := by
  refine jm_R_of hz_7 (Nat.le_of_ble_eq_true rfl) ?_
  show jm_E cod_7 (0, [some (jm_r 7 0)], [], h) r
  refine jm_E_n 2 (x' := (2, [some (jm_r 7 0)], [jm_i (h.1 7 0 9)], h)) rfl ?_
  exact jm_E_ret rfl (by rw [H]; rfl)
set_option maxRecDepth 100000 in
theorem wp_FR_where  {h : jm_H} {r : jm_Rs} (H :
  ((h.1 7 0 8) = 4 →
    r = (some (jm_i (h.1 7 0 10)), h)) ∧
  (¬ ((h.1 7 0 8) = 4) →
    r = (some (jm_i (-1)), h))) : jm_R 8 [jm_r 7 0] h r := by
  refine jm_R_of hz_8 (Nat.le_of_ble_eq_true rfl) ?_
  show jm_E cod_8 (0, [some (jm_r 7 0)], [], h) r
  refine jm_E_n 4 (x' := (if (h.1 7 0 8) = 4 then 4 else 7, [some (jm_r 7 0)], [], h)) rfl ?_
  refine jm_E_ite (fun hc => ?_) (fun hc => ?_)
  · replace H := H.1 hc
    refine jm_E_n 3 (x' := (8, [some (jm_r 7 0)], [jm_i (h.1 7 0 10)], h)) rfl ?_
    exact jm_E_ret rfl (by rw [H]; rfl)
  · replace H := H.2 hc
    refine jm_E_n 1 (x' := (8, [some (jm_r 7 0)], [jm_i (-1)], h)) rfl ?_
    exact jm_E_ret rfl (by rw [H]; rfl)
set_option maxRecDepth 100000 in
theorem wp_FR_isMode {a0 : Int32} {h : jm_H} {r : jm_Rs} (H :
  (a0 < 0 →
    r = (some (jm_i 0), h)) ∧
  (¬ (a0 < 0) →
    ((h.1 3 (h.2.1 7 0 1) 0) ≤ a0 →
      r = (some (jm_i 0), h)) ∧
    (¬ ((h.1 3 (h.2.1 7 0 1) 0) ≤ a0) →
      r = (some (jm_i 1), h)))) : jm_R 16 [jm_r 7 0, jm_i a0] h r := by
  refine jm_R_of hz_16 (Nat.le_of_ble_eq_true rfl) ?_
  show jm_E cod_16 (0, [some (jm_r 7 0), some (jm_i a0)], [], h) r
  refine jm_E_n 2 (x' := (if a0 < 0 then 9 else 2, [some (jm_r 7 0), some (jm_i a0)], [], h)) rfl ?_
  refine jm_E_ite (fun hc => ?_) (fun hc => ?_)
  · replace H := H.1 hc
    refine jm_E_n 1 (x' := (10, [some (jm_r 7 0), some (jm_i a0)], [jm_i 0], h)) rfl ?_
    exact jm_E_ret rfl (by rw [H]; rfl)
  · replace H := H.2 hc
    refine jm_E_n 5 (x' := (if (h.1 3 (h.2.1 7 0 1) 0) ≤ a0 then 9 else 7, [some (jm_r 7 0), some (jm_i a0)], [], h)) rfl ?_
    refine jm_E_ite (fun hc => ?_) (fun hc => ?_)
    · replace H := H.1 hc
      refine jm_E_n 1 (x' := (10, [some (jm_r 7 0), some (jm_i a0)], [jm_i 0], h)) rfl ?_
      exact jm_E_ret rfl (by rw [H]; rfl)
    · replace H := H.2 hc
      refine jm_E_n 2 (x' := (10, [some (jm_r 7 0), some (jm_i a0)], [jm_i 1], h)) rfl ?_
      exact jm_E_ret rfl (by rw [H]; rfl)
set_option maxRecDepth 100000 in
theorem wp_FR_mode {a0 : Int32} {a1 : Int32} {h : jm_H} {r : jm_Rs} (H :
  ∃ (v1 : Int32) (h1 : jm_H), m_FR_isMode a0 h v1 h1 ∧
  (v1 = 0 →
    ∃ (v2 : Int32) (h2 : jm_H), m_FR_refused 1 h1 v2 h2 ∧
    r = (some (jm_i v2), h2)) ∧
  (¬ (v1 = 0) →
    (a1 < 0 →
      ∃ (v3 : Int32) (h3 : jm_H), m_FR_refused 1 h1 v3 h3 ∧
      r = (some (jm_i v3), h3)) ∧
    (¬ (a1 < 0) →
      (a1 ≤ 6 →
        jm_in a0 3 ∧
        (a1 = 0 →
          ∃ (v4 : Int32) (h4 : jm_H), m_FR_answered (h1.1 2 (3 * (h1.2.1 7 0 1) + a0.toNatClampNeg) 0) h1 v4 h4 ∧
          r = (some (jm_i v4), h4)) ∧
        (a1 = 1 →
          ∃ (v5 : Int32) (h5 : jm_H), m_FR_answered (h1.1 2 (3 * (h1.2.1 7 0 1) + a0.toNatClampNeg) 1) h1 v5 h5 ∧
          r = (some (jm_i v5), h5)) ∧
        (a1 = 2 →
          ∃ (v6 : Int32) (h6 : jm_H), m_FR_answered (h1.1 2 (3 * (h1.2.1 7 0 1) + a0.toNatClampNeg) 2) h1 v6 h6 ∧
          r = (some (jm_i v6), h6)) ∧
        (a1 = 3 →
          ∃ (v7 : Int32) (h7 : jm_H), m_Mode_round (3 * (h1.2.1 7 0 1) + a0.toNatClampNeg) h1 v7 h7 ∧
          ∃ (v8 : Int32) (h8 : jm_H), m_FR_answered v7 h7 v8 h8 ∧
          r = (some (jm_i v8), h8)) ∧
        (a1 = 4 →
          ∃ (v9 : Int32) (h9 : jm_H), m_FR_answered (h1.1 2 (3 * (h1.2.1 7 0 1) + a0.toNatClampNeg) 3) h1 v9 h9 ∧
          r = (some (jm_i v9), h9)) ∧
        (a1 = 5 →
          jm_in a0 3 ∧
          ∃ (v10 : Int32) (h10 : jm_H), m_FR_answered (h1.1 1 (3 * 0 + a0.toNatClampNeg) 2) h1 v10 h10 ∧
          r = (some (jm_i v10), h10)) ∧
        (a1.toInt < 0 ∨ 6 ≤ a1.toInt →
          jm_in a0 3 ∧
          ∃ (v11 : Int32) (h11 : jm_H), m_Flow_allCosts (3 * 0 + a0.toNatClampNeg) h1 v11 h11 ∧
          ∃ (v12 : Int32) (h12 : jm_H), m_FR_answered v11 h11 v12 h12 ∧
          r = (some (jm_i v12), h12))) ∧
      (¬ (a1 ≤ 6) →
        ∃ (v13 : Int32) (h13 : jm_H), m_FR_refused 1 h1 v13 h13 ∧
        r = (some (jm_i v13), h13))))) : jm_R 12 [jm_r 7 0, jm_i a0, jm_i a1] h r := by
  refine jm_R_of hz_12 (Nat.le_of_ble_eq_true rfl) ?_
  show jm_E cod_12 (0, [some (jm_r 7 0), some (jm_i a0), some (jm_i a1), none], [], h) r
  refine jm_E_n 2 (x' := (2, [some (jm_r 7 0), some (jm_i a0), some (jm_i a1), none], [jm_i a0, jm_r 7 0], h)) rfl ?_
  obtain ⟨v1, h1, hR, H⟩ := H
  refine jm_E_call rfl (Nat.le_of_ble_eq_true rfl) (Nat.le_of_ble_eq_true rfl) rfl hR trivial ?_
  refine jm_E_eq (x := (3, [some (jm_r 7 0), some (jm_i a0), some (jm_i a1), none], [jm_i v1], h1)) rfl ?_
  refine jm_E_n 1 (x' := (if v1 = 0 then 9 else 4, [some (jm_r 7 0), some (jm_i a0), some (jm_i a1), none], [], h1)) rfl ?_
  refine jm_E_ite (fun hc => ?_) (fun hc => ?_)
  · replace H := H.1 hc
    refine jm_E_n 2 (x' := (11, [some (jm_r 7 0), some (jm_i a0), some (jm_i a1), none], [jm_i 1, jm_r 7 0], h1)) rfl ?_
    obtain ⟨v2, h2, hR, H⟩ := H
    refine jm_E_call rfl (Nat.le_of_ble_eq_true rfl) (Nat.le_of_ble_eq_true rfl) rfl hR trivial ?_
    refine jm_E_eq (x := (12, [some (jm_r 7 0), some (jm_i a0), some (jm_i a1), none], [jm_i v2], h2)) rfl ?_
    exact jm_E_ret rfl (by rw [H]; rfl)
  · replace H := H.2 hc
    refine jm_E_n 2 (x' := (if a1 < 0 then 9 else 6, [some (jm_r 7 0), some (jm_i a0), some (jm_i a1), none], [], h1)) rfl ?_
    refine jm_E_ite (fun hc => ?_) (fun hc => ?_)
    · replace H := H.1 hc
      refine jm_E_n 2 (x' := (11, [some (jm_r 7 0), some (jm_i a0), some (jm_i a1), none], [jm_i 1, jm_r 7 0], h1)) rfl ?_
      obtain ⟨v3, h3, hR, H⟩ := H
      refine jm_E_call rfl (Nat.le_of_ble_eq_true rfl) (Nat.le_of_ble_eq_true rfl) rfl hR trivial ?_
      refine jm_E_eq (x := (12, [some (jm_r 7 0), some (jm_i a0), some (jm_i a1), none], [jm_i v3], h3)) rfl ?_
      exact jm_E_ret rfl (by rw [H]; rfl)
    · replace H := H.2 hc
      refine jm_E_n 3 (x' := (if a1 ≤ 6 then 13 else 9, [some (jm_r 7 0), some (jm_i a0), some (jm_i a1), none], [], h1)) rfl ?_
      refine jm_E_ite (fun hc => ?_) (fun hc => ?_)
      · replace H := H.1 hc
        refine jm_E_n 4 (x' := (17, [some (jm_r 7 0), some (jm_i a0), some (jm_i a1), none], [jm_i a0, jm_r 28 (h1.2.1 7 0 1)], h1)) rfl ?_
        refine jm_E_aald rfl rfl H.1 ?_
        replace H := H.2
        refine jm_E_eq (x := (18, [some (jm_r 7 0), some (jm_i a0), some (jm_i a1), none], [jm_r 2 (3 * (h1.2.1 7 0 1) + a0.toNatClampNeg)], h1)) rfl ?_
        refine jm_E_n 3 (x' := (if a1.toInt < 0 ∨ 0 + (6 : Nat) ≤ a1.toInt then 55 else ([21, 26, 31, 36, 41, 46] : List Nat).getD (a1.toInt - 0).toNat 0, [some (jm_r 7 0), some (jm_i a0), some (jm_i a1), some (jm_r 2 (3 * (h1.2.1 7 0 1) + a0.toNatClampNeg))], [], h1)) rfl ?_
        obtain ⟨H0, H1, H2, H3, H4, H5, HD⟩ := H
        refine jm_E_tsw6 (fun hc => ?_) (fun hc => ?_) (fun hc => ?_) (fun hc => ?_) (fun hc => ?_) (fun hc => ?_) (fun hc => ?_)
        · replace H := HD hc
          refine jm_E_n 4 (x' := (59, [some (jm_r 7 0), some (jm_i a0), some (jm_i a1), some (jm_r 2 (3 * (h1.2.1 7 0 1) + a0.toNatClampNeg))], [jm_i a0, jm_r 32 0, jm_r 7 0], h1)) rfl ?_
          refine jm_E_aald rfl rfl H.1 ?_
          replace H := H.2
          refine jm_E_eq (x := (60, [some (jm_r 7 0), some (jm_i a0), some (jm_i a1), some (jm_r 2 (3 * (h1.2.1 7 0 1) + a0.toNatClampNeg))], [jm_r 6 (3 * 0 + a0.toNatClampNeg), jm_r 7 0], h1)) rfl ?_
          refine jm_E_n 1 (x' := (61, [some (jm_r 7 0), some (jm_i a0), some (jm_i a1), some (jm_r 2 (3 * (h1.2.1 7 0 1) + a0.toNatClampNeg))], [jm_r 1 (3 * 0 + a0.toNatClampNeg), jm_r 7 0], h1)) rfl ?_
          obtain ⟨v11, h11, hR, H⟩ := H
          refine jm_E_call rfl (Nat.le_of_ble_eq_true rfl) (Nat.le_of_ble_eq_true rfl) rfl hR trivial ?_
          refine jm_E_eq (x := (62, [some (jm_r 7 0), some (jm_i a0), some (jm_i a1), some (jm_r 2 (3 * (h1.2.1 7 0 1) + a0.toNatClampNeg))], [jm_i v11, jm_r 7 0], h11)) rfl ?_
          obtain ⟨v12, h12, hR, H⟩ := H
          refine jm_E_call rfl (Nat.le_of_ble_eq_true rfl) (Nat.le_of_ble_eq_true rfl) rfl hR trivial ?_
          refine jm_E_eq (x := (63, [some (jm_r 7 0), some (jm_i a0), some (jm_i a1), some (jm_r 2 (3 * (h1.2.1 7 0 1) + a0.toNatClampNeg))], [jm_i v12], h12)) rfl ?_
          exact jm_E_ret rfl (by rw [H]; rfl)
        · replace H := H0 hc
          refine jm_E_n 3 (x' := (24, [some (jm_r 7 0), some (jm_i a0), some (jm_i a1), some (jm_r 2 (3 * (h1.2.1 7 0 1) + a0.toNatClampNeg))], [jm_i (h1.1 2 (3 * (h1.2.1 7 0 1) + a0.toNatClampNeg) 0), jm_r 7 0], h1)) rfl ?_
          obtain ⟨v4, h4, hR, H⟩ := H
          refine jm_E_call rfl (Nat.le_of_ble_eq_true rfl) (Nat.le_of_ble_eq_true rfl) rfl hR trivial ?_
          refine jm_E_eq (x := (25, [some (jm_r 7 0), some (jm_i a0), some (jm_i a1), some (jm_r 2 (3 * (h1.2.1 7 0 1) + a0.toNatClampNeg))], [jm_i v4], h4)) rfl ?_
          exact jm_E_ret rfl (by rw [H]; rfl)
        · replace H := H1 hc
          refine jm_E_n 3 (x' := (29, [some (jm_r 7 0), some (jm_i a0), some (jm_i a1), some (jm_r 2 (3 * (h1.2.1 7 0 1) + a0.toNatClampNeg))], [jm_i (h1.1 2 (3 * (h1.2.1 7 0 1) + a0.toNatClampNeg) 1), jm_r 7 0], h1)) rfl ?_
          obtain ⟨v5, h5, hR, H⟩ := H
          refine jm_E_call rfl (Nat.le_of_ble_eq_true rfl) (Nat.le_of_ble_eq_true rfl) rfl hR trivial ?_
          refine jm_E_eq (x := (30, [some (jm_r 7 0), some (jm_i a0), some (jm_i a1), some (jm_r 2 (3 * (h1.2.1 7 0 1) + a0.toNatClampNeg))], [jm_i v5], h5)) rfl ?_
          exact jm_E_ret rfl (by rw [H]; rfl)
        · replace H := H2 hc
          refine jm_E_n 3 (x' := (34, [some (jm_r 7 0), some (jm_i a0), some (jm_i a1), some (jm_r 2 (3 * (h1.2.1 7 0 1) + a0.toNatClampNeg))], [jm_i (h1.1 2 (3 * (h1.2.1 7 0 1) + a0.toNatClampNeg) 2), jm_r 7 0], h1)) rfl ?_
          obtain ⟨v6, h6, hR, H⟩ := H
          refine jm_E_call rfl (Nat.le_of_ble_eq_true rfl) (Nat.le_of_ble_eq_true rfl) rfl hR trivial ?_
          refine jm_E_eq (x := (35, [some (jm_r 7 0), some (jm_i a0), some (jm_i a1), some (jm_r 2 (3 * (h1.2.1 7 0 1) + a0.toNatClampNeg))], [jm_i v6], h6)) rfl ?_
          exact jm_E_ret rfl (by rw [H]; rfl)
        · replace H := H3 hc
          refine jm_E_n 2 (x' := (38, [some (jm_r 7 0), some (jm_i a0), some (jm_i a1), some (jm_r 2 (3 * (h1.2.1 7 0 1) + a0.toNatClampNeg))], [jm_r 2 (3 * (h1.2.1 7 0 1) + a0.toNatClampNeg), jm_r 7 0], h1)) rfl ?_
          obtain ⟨v7, h7, hR, H⟩ := H
          refine jm_E_call rfl (Nat.le_of_ble_eq_true rfl) (Nat.le_of_ble_eq_true rfl) rfl hR trivial ?_
          refine jm_E_eq (x := (39, [some (jm_r 7 0), some (jm_i a0), some (jm_i a1), some (jm_r 2 (3 * (h1.2.1 7 0 1) + a0.toNatClampNeg))], [jm_i v7, jm_r 7 0], h7)) rfl ?_
          obtain ⟨v8, h8, hR, H⟩ := H
          refine jm_E_call rfl (Nat.le_of_ble_eq_true rfl) (Nat.le_of_ble_eq_true rfl) rfl hR trivial ?_
          refine jm_E_eq (x := (40, [some (jm_r 7 0), some (jm_i a0), some (jm_i a1), some (jm_r 2 (3 * (h1.2.1 7 0 1) + a0.toNatClampNeg))], [jm_i v8], h8)) rfl ?_
          exact jm_E_ret rfl (by rw [H]; rfl)
        · replace H := H4 hc
          refine jm_E_n 3 (x' := (44, [some (jm_r 7 0), some (jm_i a0), some (jm_i a1), some (jm_r 2 (3 * (h1.2.1 7 0 1) + a0.toNatClampNeg))], [jm_i (h1.1 2 (3 * (h1.2.1 7 0 1) + a0.toNatClampNeg) 3), jm_r 7 0], h1)) rfl ?_
          obtain ⟨v9, h9, hR, H⟩ := H
          refine jm_E_call rfl (Nat.le_of_ble_eq_true rfl) (Nat.le_of_ble_eq_true rfl) rfl hR trivial ?_
          refine jm_E_eq (x := (45, [some (jm_r 7 0), some (jm_i a0), some (jm_i a1), some (jm_r 2 (3 * (h1.2.1 7 0 1) + a0.toNatClampNeg))], [jm_i v9], h9)) rfl ?_
          exact jm_E_ret rfl (by rw [H]; rfl)
        · replace H := H5 hc
          refine jm_E_n 4 (x' := (50, [some (jm_r 7 0), some (jm_i a0), some (jm_i a1), some (jm_r 2 (3 * (h1.2.1 7 0 1) + a0.toNatClampNeg))], [jm_i a0, jm_r 32 0, jm_r 7 0], h1)) rfl ?_
          refine jm_E_aald rfl rfl H.1 ?_
          replace H := H.2
          refine jm_E_eq (x := (51, [some (jm_r 7 0), some (jm_i a0), some (jm_i a1), some (jm_r 2 (3 * (h1.2.1 7 0 1) + a0.toNatClampNeg))], [jm_r 6 (3 * 0 + a0.toNatClampNeg), jm_r 7 0], h1)) rfl ?_
          refine jm_E_n 2 (x' := (53, [some (jm_r 7 0), some (jm_i a0), some (jm_i a1), some (jm_r 2 (3 * (h1.2.1 7 0 1) + a0.toNatClampNeg))], [jm_i (h1.1 1 (3 * 0 + a0.toNatClampNeg) 2), jm_r 7 0], h1)) rfl ?_
          obtain ⟨v10, h10, hR, H⟩ := H
          refine jm_E_call rfl (Nat.le_of_ble_eq_true rfl) (Nat.le_of_ble_eq_true rfl) rfl hR trivial ?_
          refine jm_E_eq (x := (54, [some (jm_r 7 0), some (jm_i a0), some (jm_i a1), some (jm_r 2 (3 * (h1.2.1 7 0 1) + a0.toNatClampNeg))], [jm_i v10], h10)) rfl ?_
          exact jm_E_ret rfl (by rw [H]; rfl)
      · replace H := H.2 hc
        refine jm_E_n 2 (x' := (11, [some (jm_r 7 0), some (jm_i a0), some (jm_i a1), none], [jm_i 1, jm_r 7 0], h1)) rfl ?_
        obtain ⟨v13, h13, hR, H⟩ := H
        refine jm_E_call rfl (Nat.le_of_ble_eq_true rfl) (Nat.le_of_ble_eq_true rfl) rfl hR trivial ?_
        refine jm_E_eq (x := (12, [some (jm_r 7 0), some (jm_i a0), some (jm_i a1), none], [jm_i v13], h13)) rfl ?_
        exact jm_E_ret rfl (by rw [H]; rfl)
set_option maxRecDepth 100000 in
theorem wp_FR_isTask {a0 : Int32} {a1 : Int32} {h : jm_H} {r : jm_Rs} (H :
  ∃ (v1 : Int32) (h1 : jm_H), m_FR_isMode a0 h v1 h1 ∧
  (v1 = 0 →
    r = (some (jm_i 0), h1)) ∧
  (¬ (v1 = 0) →
    (a1 < 0 →
      r = (some (jm_i 0), h1)) ∧
    (¬ (a1 < 0) →
      jm_in a0 3 ∧
      ((h1.1 2 (3 * (h1.2.1 7 0 1) + a0.toNatClampNeg) 2) ≤ a1 →
        r = (some (jm_i 0), h1)) ∧
      (¬ ((h1.1 2 (3 * (h1.2.1 7 0 1) + a0.toNatClampNeg) 2) ≤ a1) →
        r = (some (jm_i 1), h1))))) : jm_R 17 [jm_r 7 0, jm_i a0, jm_i a1] h r := by
  refine jm_R_of hz_17 (Nat.le_of_ble_eq_true rfl) ?_
  show jm_E cod_17 (0, [some (jm_r 7 0), some (jm_i a0), some (jm_i a1)], [], h) r
  refine jm_E_n 2 (x' := (2, [some (jm_r 7 0), some (jm_i a0), some (jm_i a1)], [jm_i a0, jm_r 7 0], h)) rfl ?_
  obtain ⟨v1, h1, hR, H⟩ := H
  refine jm_E_call rfl (Nat.le_of_ble_eq_true rfl) (Nat.le_of_ble_eq_true rfl) rfl hR trivial ?_
  refine jm_E_eq (x := (3, [some (jm_r 7 0), some (jm_i a0), some (jm_i a1)], [jm_i v1], h1)) rfl ?_
  refine jm_E_n 1 (x' := (if v1 = 0 then 16 else 4, [some (jm_r 7 0), some (jm_i a0), some (jm_i a1)], [], h1)) rfl ?_
  refine jm_E_ite (fun hc => ?_) (fun hc => ?_)
  · replace H := H.1 hc
    refine jm_E_n 1 (x' := (17, [some (jm_r 7 0), some (jm_i a0), some (jm_i a1)], [jm_i 0], h1)) rfl ?_
    exact jm_E_ret rfl (by rw [H]; rfl)
  · replace H := H.2 hc
    refine jm_E_n 2 (x' := (if a1 < 0 then 16 else 6, [some (jm_r 7 0), some (jm_i a0), some (jm_i a1)], [], h1)) rfl ?_
    refine jm_E_ite (fun hc => ?_) (fun hc => ?_)
    · replace H := H.1 hc
      refine jm_E_n 1 (x' := (17, [some (jm_r 7 0), some (jm_i a0), some (jm_i a1)], [jm_i 0], h1)) rfl ?_
      exact jm_E_ret rfl (by rw [H]; rfl)
    · replace H := H.2 hc
      refine jm_E_n 5 (x' := (11, [some (jm_r 7 0), some (jm_i a0), some (jm_i a1)], [jm_i a0, jm_r 28 (h1.2.1 7 0 1), jm_i a1], h1)) rfl ?_
      refine jm_E_aald rfl rfl H.1 ?_
      replace H := H.2
      refine jm_E_eq (x := (12, [some (jm_r 7 0), some (jm_i a0), some (jm_i a1)], [jm_r 2 (3 * (h1.2.1 7 0 1) + a0.toNatClampNeg), jm_i a1], h1)) rfl ?_
      refine jm_E_n 2 (x' := (if (h1.1 2 (3 * (h1.2.1 7 0 1) + a0.toNatClampNeg) 2) ≤ a1 then 16 else 14, [some (jm_r 7 0), some (jm_i a0), some (jm_i a1)], [], h1)) rfl ?_
      refine jm_E_ite (fun hc => ?_) (fun hc => ?_)
      · replace H := H.1 hc
        refine jm_E_n 1 (x' := (17, [some (jm_r 7 0), some (jm_i a0), some (jm_i a1)], [jm_i 0], h1)) rfl ?_
        exact jm_E_ret rfl (by rw [H]; rfl)
      · replace H := H.2 hc
        refine jm_E_n 2 (x' := (17, [some (jm_r 7 0), some (jm_i a0), some (jm_i a1)], [jm_i 1], h1)) rfl ?_
        exact jm_E_ret rfl (by rw [H]; rfl)
set_option maxRecDepth 100000 in
theorem wp_Mode_jobsOf {o : Nat} {a0 : Int32} {h : jm_H} {r : jm_Rs} (H :
  jm_in a0 6 ∧
  ((h.1 23 o a0.toNatClampNeg) ≤ 0 →
    r = (some (jm_i 0), h)) ∧
  (¬ ((h.1 23 o a0.toNatClampNeg) ≤ 0) →
    jm_in a0 6 ∧
    ¬ (h.1 23 o a0.toNatClampNeg) = 0 ∧
    r = (some (jm_i ((h.1 2 o 4) / (h.1 23 o a0.toNatClampNeg))), h))) : jm_R 233 [jm_r 2 o, jm_i a0] h r := by
  refine jm_R_of hz_233 (Nat.le_of_ble_eq_true rfl) ?_
  show jm_E cod_233 (0, [some (jm_r 2 o), some (jm_i a0)], [], h) r
  refine jm_E_n 3 (x' := (3, [some (jm_r 2 o), some (jm_i a0)], [jm_i a0, jm_r 23 o], h)) rfl ?_
  refine jm_E_iald rfl rfl H.1 ?_
  replace H := H.2
  refine jm_E_eq (x := (4, [some (jm_r 2 o), some (jm_i a0)], [jm_i (h.1 23 o a0.toNatClampNeg)], h)) rfl ?_
  refine jm_E_n 1 (x' := (if (h.1 23 o a0.toNatClampNeg) ≤ 0 then 13 else 5, [some (jm_r 2 o), some (jm_i a0)], [], h)) rfl ?_
  refine jm_E_ite (fun hc => ?_) (fun hc => ?_)
  · replace H := H.1 hc
    refine jm_E_n 1 (x' := (14, [some (jm_r 2 o), some (jm_i a0)], [jm_i 0], h)) rfl ?_
    exact jm_E_ret rfl (by rw [H]; rfl)
  · replace H := H.2 hc
    refine jm_E_n 5 (x' := (10, [some (jm_r 2 o), some (jm_i a0)], [jm_i a0, jm_r 23 o, jm_i (h.1 2 o 4)], h)) rfl ?_
    refine jm_E_iald rfl rfl H.1 ?_
    replace H := H.2
    refine jm_E_eq (x := (11, [some (jm_r 2 o), some (jm_i a0)], [jm_i (h.1 23 o a0.toNatClampNeg), jm_i (h.1 2 o 4)], h)) rfl ?_
    refine jm_E_idiv rfl H.1 ?_
    replace H := H.2
    refine jm_E_eq (x := (12, [some (jm_r 2 o), some (jm_i a0)], [jm_i ((h.1 2 o 4) / (h.1 23 o a0.toNatClampNeg))], h)) rfl ?_
    refine jm_E_n 1 (x' := (14, [some (jm_r 2 o), some (jm_i a0)], [jm_i ((h.1 2 o 4) / (h.1 23 o a0.toNatClampNeg))], h)) rfl ?_
    exact jm_E_ret rfl (by rw [H]; rfl)
set_option maxRecDepth 100000 in
theorem wp_Mode_reach {o : Nat} {a0 : Int32} {a1 : Int32} {h : jm_H} {r : jm_Rs} (H :
  jm_in a0 6 ∧
  ∃ (v1 : Int32) (h1 : jm_H), m_FR_commonDivisor a1 (h.1 23 o a0.toNatClampNeg) h v1 h1 ∧
  (v1 ≤ 0 →
    r = (some (jm_i ((2 * a1) - v1)), h1)) ∧
  (¬ (v1 ≤ 0) →
    jm_in a0 6 ∧
    ¬ v1 = 0 ∧
    (((h1.1 22 o a0.toNatClampNeg) - (h1.1 22 o a0.toNatClampNeg) / v1 * v1) = 0 →
      r = (some (jm_i ((2 * a1) - v1)), h1)) ∧
    (¬ (((h1.1 22 o a0.toNatClampNeg) - (h1.1 22 o a0.toNatClampNeg) / v1 * v1) = 0) →
      r = (some (jm_i ((2 * a1) - ((h1.1 22 o a0.toNatClampNeg) - (h1.1 22 o a0.toNatClampNeg) / v1 * v1))), h1)))) : jm_R 237 [jm_r 2 o, jm_i a0, jm_i a1] h r := by
  refine jm_R_of hz_237 (Nat.le_of_ble_eq_true rfl) ?_
  show jm_E cod_237 (0, [some (jm_r 2 o), some (jm_i a0), some (jm_i a1), none, none], [], h) r
  refine jm_E_n 4 (x' := (4, [some (jm_r 2 o), some (jm_i a0), some (jm_i a1), none, none], [jm_i a0, jm_r 23 o, jm_i a1], h)) rfl ?_
  refine jm_E_iald rfl rfl H.1 ?_
  replace H := H.2
  refine jm_E_eq (x := (5, [some (jm_r 2 o), some (jm_i a0), some (jm_i a1), none, none], [jm_i (h.1 23 o a0.toNatClampNeg), jm_i a1], h)) rfl ?_
  obtain ⟨v1, h1, hR, H⟩ := H
  refine jm_E_call rfl (Nat.le_of_ble_eq_true rfl) (Nat.le_of_ble_eq_true rfl) trivial hR trivial ?_
  refine jm_E_eq (x := (6, [some (jm_r 2 o), some (jm_i a0), some (jm_i a1), none, none], [jm_i v1], h1)) rfl ?_
  refine jm_E_n 3 (x' := (if v1 ≤ 0 then 16 else 9, [some (jm_r 2 o), some (jm_i a0), some (jm_i a1), some (jm_i v1), none], [], h1)) rfl ?_
  refine jm_E_ite (fun hc => ?_) (fun hc => ?_)
  · replace H := H.1 hc
    refine jm_E_n 10 (x' := (27, [some (jm_r 2 o), some (jm_i a0), some (jm_i a1), some (jm_i v1), some (jm_i 0)], [jm_i ((2 * a1) - v1)], h1)) rfl ?_
    exact jm_E_ret rfl (by rw [H]; rfl)
  · replace H := H.2 hc
    refine jm_E_n 3 (x' := (12, [some (jm_r 2 o), some (jm_i a0), some (jm_i a1), some (jm_i v1), none], [jm_i a0, jm_r 22 o], h1)) rfl ?_
    refine jm_E_iald rfl rfl H.1 ?_
    replace H := H.2
    refine jm_E_eq (x := (13, [some (jm_r 2 o), some (jm_i a0), some (jm_i a1), some (jm_i v1), none], [jm_i (h1.1 22 o a0.toNatClampNeg)], h1)) rfl ?_
    refine jm_E_n 1 (x' := (14, [some (jm_r 2 o), some (jm_i a0), some (jm_i a1), some (jm_i v1), none], [jm_i v1, jm_i (h1.1 22 o a0.toNatClampNeg)], h1)) rfl ?_
    refine jm_E_irem rfl H.1 ?_
    replace H := H.2
    refine jm_E_eq (x := (15, [some (jm_r 2 o), some (jm_i a0), some (jm_i a1), some (jm_i v1), none], [jm_i ((h1.1 22 o a0.toNatClampNeg) - (h1.1 22 o a0.toNatClampNeg) / v1 * v1)], h1)) rfl ?_
    refine jm_E_n 7 (x' := (if ((h1.1 22 o a0.toNatClampNeg) - (h1.1 22 o a0.toNatClampNeg) / v1 * v1) = 0 then 23 else 25, [some (jm_r 2 o), some (jm_i a0), some (jm_i a1), some (jm_i v1), some (jm_i ((h1.1 22 o a0.toNatClampNeg) - (h1.1 22 o a0.toNatClampNeg) / v1 * v1))], [jm_i (2 * a1)], h1)) rfl ?_
    refine jm_E_ite (fun hc => ?_) (fun hc => ?_)
    · replace H := H.1 hc
      refine jm_E_n 3 (x' := (27, [some (jm_r 2 o), some (jm_i a0), some (jm_i a1), some (jm_i v1), some (jm_i ((h1.1 22 o a0.toNatClampNeg) - (h1.1 22 o a0.toNatClampNeg) / v1 * v1))], [jm_i ((2 * a1) - v1)], h1)) rfl ?_
      exact jm_E_ret rfl (by rw [H]; rfl)
    · replace H := H.2 hc
      refine jm_E_n 2 (x' := (27, [some (jm_r 2 o), some (jm_i a0), some (jm_i a1), some (jm_i v1), some (jm_i ((h1.1 22 o a0.toNatClampNeg) - (h1.1 22 o a0.toNatClampNeg) / v1 * v1))], [jm_i ((2 * a1) - ((h1.1 22 o a0.toNatClampNeg) - (h1.1 22 o a0.toNatClampNeg) / v1 * v1))], h1)) rfl ?_
      exact jm_E_ret rfl (by rw [H]; rfl)
set_option maxRecDepth 100000 in
theorem wp_FR_task {a0 : Int32} {a1 : Int32} {a2 : Int32} {h : jm_H} {r : jm_Rs} (H :
  ∃ (v1 : Int32) (h1 : jm_H), m_FR_isTask a0 a1 h v1 h1 ∧
  (v1 = 0 →
    ∃ (v2 : Int32) (h2 : jm_H), m_FR_refused 1 h1 v2 h2 ∧
    r = (some (jm_i v2), h2)) ∧
  (¬ (v1 = 0) →
    (a2 < 0 →
      ∃ (v3 : Int32) (h3 : jm_H), m_FR_refused 1 h1 v3 h3 ∧
      r = (some (jm_i v3), h3)) ∧
    (¬ (a2 < 0) →
      (a2 ≤ 5 →
        jm_in a0 3 ∧
        (a2 = 0 →
          jm_in a1 6 ∧
          ∃ (v4 : Int32) (h4 : jm_H), m_FR_answered (h1.1 22 (3 * (h1.2.1 7 0 1) + a0.toNatClampNeg) a1.toNatClampNeg) h1 v4 h4 ∧
          r = (some (jm_i v4), h4)) ∧
        (a2 = 1 →
          jm_in a1 6 ∧
          ∃ (v5 : Int32) (h5 : jm_H), m_FR_answered (h1.1 23 (3 * (h1.2.1 7 0 1) + a0.toNatClampNeg) a1.toNatClampNeg) h1 v5 h5 ∧
          r = (some (jm_i v5), h5)) ∧
        (a2 = 2 →
          jm_in a1 6 ∧
          ∃ (v6 : Int32) (h6 : jm_H), m_FR_answered (h1.1 24 (3 * (h1.2.1 7 0 1) + a0.toNatClampNeg) a1.toNatClampNeg) h1 v6 h6 ∧
          r = (some (jm_i v6), h6)) ∧
        (a2 = 3 →
          jm_in a1 6 ∧
          ∃ (v7 : Int32) (h7 : jm_H), m_FR_answered (h1.1 25 (3 * (h1.2.1 7 0 1) + a0.toNatClampNeg) a1.toNatClampNeg) h1 v7 h7 ∧
          r = (some (jm_i v7), h7)) ∧
        (a2 = 4 →
          ∃ (v8 : Int32) (h8 : jm_H), m_Mode_jobsOf (3 * (h1.2.1 7 0 1) + a0.toNatClampNeg) a1 h1 v8 h8 ∧
          ∃ (v9 : Int32) (h9 : jm_H), m_FR_answered v8 h8 v9 h9 ∧
          r = (some (jm_i v9), h9)) ∧
        (a2.toInt < 0 ∨ 5 ≤ a2.toInt →
          ∃ (v10 : Int32) (h10 : jm_H), m_Mode_reach (3 * (h1.2.1 7 0 1) + a0.toNatClampNeg) a1 (h1.1 2 (3 * (h1.2.1 7 0 1) + a0.toNatClampNeg) 0) h1 v10 h10 ∧
          ∃ (v11 : Int32) (h11 : jm_H), m_FR_answered v10 h10 v11 h11 ∧
          r = (some (jm_i v11), h11))) ∧
      (¬ (a2 ≤ 5) →
        ∃ (v12 : Int32) (h12 : jm_H), m_FR_refused 1 h1 v12 h12 ∧
        r = (some (jm_i v12), h12))))) : jm_R 13 [jm_r 7 0, jm_i a0, jm_i a1, jm_i a2] h r := by
  refine jm_R_of hz_13 (Nat.le_of_ble_eq_true rfl) ?_
  show jm_E cod_13 (0, [some (jm_r 7 0), some (jm_i a0), some (jm_i a1), some (jm_i a2), none], [], h) r
  refine jm_E_n 3 (x' := (3, [some (jm_r 7 0), some (jm_i a0), some (jm_i a1), some (jm_i a2), none], [jm_i a1, jm_i a0, jm_r 7 0], h)) rfl ?_
  obtain ⟨v1, h1, hR, H⟩ := H
  refine jm_E_call rfl (Nat.le_of_ble_eq_true rfl) (Nat.le_of_ble_eq_true rfl) rfl hR trivial ?_
  refine jm_E_eq (x := (4, [some (jm_r 7 0), some (jm_i a0), some (jm_i a1), some (jm_i a2), none], [jm_i v1], h1)) rfl ?_
  refine jm_E_n 1 (x' := (if v1 = 0 then 10 else 5, [some (jm_r 7 0), some (jm_i a0), some (jm_i a1), some (jm_i a2), none], [], h1)) rfl ?_
  refine jm_E_ite (fun hc => ?_) (fun hc => ?_)
  · replace H := H.1 hc
    refine jm_E_n 2 (x' := (12, [some (jm_r 7 0), some (jm_i a0), some (jm_i a1), some (jm_i a2), none], [jm_i 1, jm_r 7 0], h1)) rfl ?_
    obtain ⟨v2, h2, hR, H⟩ := H
    refine jm_E_call rfl (Nat.le_of_ble_eq_true rfl) (Nat.le_of_ble_eq_true rfl) rfl hR trivial ?_
    refine jm_E_eq (x := (13, [some (jm_r 7 0), some (jm_i a0), some (jm_i a1), some (jm_i a2), none], [jm_i v2], h2)) rfl ?_
    exact jm_E_ret rfl (by rw [H]; rfl)
  · replace H := H.2 hc
    refine jm_E_n 2 (x' := (if a2 < 0 then 10 else 7, [some (jm_r 7 0), some (jm_i a0), some (jm_i a1), some (jm_i a2), none], [], h1)) rfl ?_
    refine jm_E_ite (fun hc => ?_) (fun hc => ?_)
    · replace H := H.1 hc
      refine jm_E_n 2 (x' := (12, [some (jm_r 7 0), some (jm_i a0), some (jm_i a1), some (jm_i a2), none], [jm_i 1, jm_r 7 0], h1)) rfl ?_
      obtain ⟨v3, h3, hR, H⟩ := H
      refine jm_E_call rfl (Nat.le_of_ble_eq_true rfl) (Nat.le_of_ble_eq_true rfl) rfl hR trivial ?_
      refine jm_E_eq (x := (13, [some (jm_r 7 0), some (jm_i a0), some (jm_i a1), some (jm_i a2), none], [jm_i v3], h3)) rfl ?_
      exact jm_E_ret rfl (by rw [H]; rfl)
    · replace H := H.2 hc
      refine jm_E_n 3 (x' := (if a2 ≤ 5 then 14 else 10, [some (jm_r 7 0), some (jm_i a0), some (jm_i a1), some (jm_i a2), none], [], h1)) rfl ?_
      refine jm_E_ite (fun hc => ?_) (fun hc => ?_)
      · replace H := H.1 hc
        refine jm_E_n 4 (x' := (18, [some (jm_r 7 0), some (jm_i a0), some (jm_i a1), some (jm_i a2), none], [jm_i a0, jm_r 28 (h1.2.1 7 0 1)], h1)) rfl ?_
        refine jm_E_aald rfl rfl H.1 ?_
        replace H := H.2
        refine jm_E_eq (x := (19, [some (jm_r 7 0), some (jm_i a0), some (jm_i a1), some (jm_i a2), none], [jm_r 2 (3 * (h1.2.1 7 0 1) + a0.toNatClampNeg)], h1)) rfl ?_
        refine jm_E_n 3 (x' := (if a2.toInt < 0 ∨ 0 + (5 : Nat) ≤ a2.toInt then 56 else ([22, 29, 36, 43, 50] : List Nat).getD (a2.toInt - 0).toNat 0, [some (jm_r 7 0), some (jm_i a0), some (jm_i a1), some (jm_i a2), some (jm_r 2 (3 * (h1.2.1 7 0 1) + a0.toNatClampNeg))], [], h1)) rfl ?_
        obtain ⟨H0, H1, H2, H3, H4, HD⟩ := H
        refine jm_E_tsw5 (fun hc => ?_) (fun hc => ?_) (fun hc => ?_) (fun hc => ?_) (fun hc => ?_) (fun hc => ?_)
        · replace H := HD hc
          refine jm_E_n 5 (x' := (61, [some (jm_r 7 0), some (jm_i a0), some (jm_i a1), some (jm_i a2), some (jm_r 2 (3 * (h1.2.1 7 0 1) + a0.toNatClampNeg))], [jm_i (h1.1 2 (3 * (h1.2.1 7 0 1) + a0.toNatClampNeg) 0), jm_i a1, jm_r 2 (3 * (h1.2.1 7 0 1) + a0.toNatClampNeg), jm_r 7 0], h1)) rfl ?_
          obtain ⟨v10, h10, hR, H⟩ := H
          refine jm_E_call rfl (Nat.le_of_ble_eq_true rfl) (Nat.le_of_ble_eq_true rfl) rfl hR trivial ?_
          refine jm_E_eq (x := (62, [some (jm_r 7 0), some (jm_i a0), some (jm_i a1), some (jm_i a2), some (jm_r 2 (3 * (h1.2.1 7 0 1) + a0.toNatClampNeg))], [jm_i v10, jm_r 7 0], h10)) rfl ?_
          obtain ⟨v11, h11, hR, H⟩ := H
          refine jm_E_call rfl (Nat.le_of_ble_eq_true rfl) (Nat.le_of_ble_eq_true rfl) rfl hR trivial ?_
          refine jm_E_eq (x := (63, [some (jm_r 7 0), some (jm_i a0), some (jm_i a1), some (jm_i a2), some (jm_r 2 (3 * (h1.2.1 7 0 1) + a0.toNatClampNeg))], [jm_i v11], h11)) rfl ?_
          exact jm_E_ret rfl (by rw [H]; rfl)
        · replace H := H0 hc
          refine jm_E_n 4 (x' := (26, [some (jm_r 7 0), some (jm_i a0), some (jm_i a1), some (jm_i a2), some (jm_r 2 (3 * (h1.2.1 7 0 1) + a0.toNatClampNeg))], [jm_i a1, jm_r 22 (3 * (h1.2.1 7 0 1) + a0.toNatClampNeg), jm_r 7 0], h1)) rfl ?_
          refine jm_E_iald rfl rfl H.1 ?_
          replace H := H.2
          refine jm_E_eq (x := (27, [some (jm_r 7 0), some (jm_i a0), some (jm_i a1), some (jm_i a2), some (jm_r 2 (3 * (h1.2.1 7 0 1) + a0.toNatClampNeg))], [jm_i (h1.1 22 (3 * (h1.2.1 7 0 1) + a0.toNatClampNeg) a1.toNatClampNeg), jm_r 7 0], h1)) rfl ?_
          obtain ⟨v4, h4, hR, H⟩ := H
          refine jm_E_call rfl (Nat.le_of_ble_eq_true rfl) (Nat.le_of_ble_eq_true rfl) rfl hR trivial ?_
          refine jm_E_eq (x := (28, [some (jm_r 7 0), some (jm_i a0), some (jm_i a1), some (jm_i a2), some (jm_r 2 (3 * (h1.2.1 7 0 1) + a0.toNatClampNeg))], [jm_i v4], h4)) rfl ?_
          exact jm_E_ret rfl (by rw [H]; rfl)
        · replace H := H1 hc
          refine jm_E_n 4 (x' := (33, [some (jm_r 7 0), some (jm_i a0), some (jm_i a1), some (jm_i a2), some (jm_r 2 (3 * (h1.2.1 7 0 1) + a0.toNatClampNeg))], [jm_i a1, jm_r 23 (3 * (h1.2.1 7 0 1) + a0.toNatClampNeg), jm_r 7 0], h1)) rfl ?_
          refine jm_E_iald rfl rfl H.1 ?_
          replace H := H.2
          refine jm_E_eq (x := (34, [some (jm_r 7 0), some (jm_i a0), some (jm_i a1), some (jm_i a2), some (jm_r 2 (3 * (h1.2.1 7 0 1) + a0.toNatClampNeg))], [jm_i (h1.1 23 (3 * (h1.2.1 7 0 1) + a0.toNatClampNeg) a1.toNatClampNeg), jm_r 7 0], h1)) rfl ?_
          obtain ⟨v5, h5, hR, H⟩ := H
          refine jm_E_call rfl (Nat.le_of_ble_eq_true rfl) (Nat.le_of_ble_eq_true rfl) rfl hR trivial ?_
          refine jm_E_eq (x := (35, [some (jm_r 7 0), some (jm_i a0), some (jm_i a1), some (jm_i a2), some (jm_r 2 (3 * (h1.2.1 7 0 1) + a0.toNatClampNeg))], [jm_i v5], h5)) rfl ?_
          exact jm_E_ret rfl (by rw [H]; rfl)
        · replace H := H2 hc
          refine jm_E_n 4 (x' := (40, [some (jm_r 7 0), some (jm_i a0), some (jm_i a1), some (jm_i a2), some (jm_r 2 (3 * (h1.2.1 7 0 1) + a0.toNatClampNeg))], [jm_i a1, jm_r 24 (3 * (h1.2.1 7 0 1) + a0.toNatClampNeg), jm_r 7 0], h1)) rfl ?_
          refine jm_E_iald rfl rfl H.1 ?_
          replace H := H.2
          refine jm_E_eq (x := (41, [some (jm_r 7 0), some (jm_i a0), some (jm_i a1), some (jm_i a2), some (jm_r 2 (3 * (h1.2.1 7 0 1) + a0.toNatClampNeg))], [jm_i (h1.1 24 (3 * (h1.2.1 7 0 1) + a0.toNatClampNeg) a1.toNatClampNeg), jm_r 7 0], h1)) rfl ?_
          obtain ⟨v6, h6, hR, H⟩ := H
          refine jm_E_call rfl (Nat.le_of_ble_eq_true rfl) (Nat.le_of_ble_eq_true rfl) rfl hR trivial ?_
          refine jm_E_eq (x := (42, [some (jm_r 7 0), some (jm_i a0), some (jm_i a1), some (jm_i a2), some (jm_r 2 (3 * (h1.2.1 7 0 1) + a0.toNatClampNeg))], [jm_i v6], h6)) rfl ?_
          exact jm_E_ret rfl (by rw [H]; rfl)
        · replace H := H3 hc
          refine jm_E_n 4 (x' := (47, [some (jm_r 7 0), some (jm_i a0), some (jm_i a1), some (jm_i a2), some (jm_r 2 (3 * (h1.2.1 7 0 1) + a0.toNatClampNeg))], [jm_i a1, jm_r 25 (3 * (h1.2.1 7 0 1) + a0.toNatClampNeg), jm_r 7 0], h1)) rfl ?_
          refine jm_E_iald rfl rfl H.1 ?_
          replace H := H.2
          refine jm_E_eq (x := (48, [some (jm_r 7 0), some (jm_i a0), some (jm_i a1), some (jm_i a2), some (jm_r 2 (3 * (h1.2.1 7 0 1) + a0.toNatClampNeg))], [jm_i (h1.1 25 (3 * (h1.2.1 7 0 1) + a0.toNatClampNeg) a1.toNatClampNeg), jm_r 7 0], h1)) rfl ?_
          obtain ⟨v7, h7, hR, H⟩ := H
          refine jm_E_call rfl (Nat.le_of_ble_eq_true rfl) (Nat.le_of_ble_eq_true rfl) rfl hR trivial ?_
          refine jm_E_eq (x := (49, [some (jm_r 7 0), some (jm_i a0), some (jm_i a1), some (jm_i a2), some (jm_r 2 (3 * (h1.2.1 7 0 1) + a0.toNatClampNeg))], [jm_i v7], h7)) rfl ?_
          exact jm_E_ret rfl (by rw [H]; rfl)
        · replace H := H4 hc
          refine jm_E_n 3 (x' := (53, [some (jm_r 7 0), some (jm_i a0), some (jm_i a1), some (jm_i a2), some (jm_r 2 (3 * (h1.2.1 7 0 1) + a0.toNatClampNeg))], [jm_i a1, jm_r 2 (3 * (h1.2.1 7 0 1) + a0.toNatClampNeg), jm_r 7 0], h1)) rfl ?_
          obtain ⟨v8, h8, hR, H⟩ := H
          refine jm_E_call rfl (Nat.le_of_ble_eq_true rfl) (Nat.le_of_ble_eq_true rfl) rfl hR trivial ?_
          refine jm_E_eq (x := (54, [some (jm_r 7 0), some (jm_i a0), some (jm_i a1), some (jm_i a2), some (jm_r 2 (3 * (h1.2.1 7 0 1) + a0.toNatClampNeg))], [jm_i v8, jm_r 7 0], h8)) rfl ?_
          obtain ⟨v9, h9, hR, H⟩ := H
          refine jm_E_call rfl (Nat.le_of_ble_eq_true rfl) (Nat.le_of_ble_eq_true rfl) rfl hR trivial ?_
          refine jm_E_eq (x := (55, [some (jm_r 7 0), some (jm_i a0), some (jm_i a1), some (jm_i a2), some (jm_r 2 (3 * (h1.2.1 7 0 1) + a0.toNatClampNeg))], [jm_i v9], h9)) rfl ?_
          exact jm_E_ret rfl (by rw [H]; rfl)
      · replace H := H.2 hc
        refine jm_E_n 2 (x' := (12, [some (jm_r 7 0), some (jm_i a0), some (jm_i a1), some (jm_i a2), none], [jm_i 1, jm_r 7 0], h1)) rfl ?_
        obtain ⟨v12, h12, hR, H⟩ := H
        refine jm_E_call rfl (Nat.le_of_ble_eq_true rfl) (Nat.le_of_ble_eq_true rfl) rfl hR trivial ?_
        refine jm_E_eq (x := (13, [some (jm_r 7 0), some (jm_i a0), some (jm_i a1), some (jm_i a2), none], [jm_i v12], h12)) rfl ?_
        exact jm_E_ret rfl (by rw [H]; rfl)
set_option maxRecDepth 100000 in
theorem wp_FR_isJob {a0 : Int32} {a1 : Int32} {h : jm_H} {r : jm_Rs} (H :
  ∃ (v1 : Int32) (h1 : jm_H), m_FR_isMode a0 h v1 h1 ∧
  (v1 = 0 →
    r = (some (jm_i 0), h1)) ∧
  (¬ (v1 = 0) →
    (a1 < 0 →
      r = (some (jm_i 0), h1)) ∧
    (¬ (a1 < 0) →
      jm_in a0 3 ∧
      ((h1.1 2 (3 * (h1.2.1 7 0 1) + a0.toNatClampNeg) 3) ≤ a1 →
        r = (some (jm_i 0), h1)) ∧
      (¬ ((h1.1 2 (3 * (h1.2.1 7 0 1) + a0.toNatClampNeg) 3) ≤ a1) →
        r = (some (jm_i 1), h1))))) : jm_R 18 [jm_r 7 0, jm_i a0, jm_i a1] h r := by
  refine jm_R_of hz_18 (Nat.le_of_ble_eq_true rfl) ?_
  show jm_E cod_18 (0, [some (jm_r 7 0), some (jm_i a0), some (jm_i a1)], [], h) r
  refine jm_E_n 2 (x' := (2, [some (jm_r 7 0), some (jm_i a0), some (jm_i a1)], [jm_i a0, jm_r 7 0], h)) rfl ?_
  obtain ⟨v1, h1, hR, H⟩ := H
  refine jm_E_call rfl (Nat.le_of_ble_eq_true rfl) (Nat.le_of_ble_eq_true rfl) rfl hR trivial ?_
  refine jm_E_eq (x := (3, [some (jm_r 7 0), some (jm_i a0), some (jm_i a1)], [jm_i v1], h1)) rfl ?_
  refine jm_E_n 1 (x' := (if v1 = 0 then 16 else 4, [some (jm_r 7 0), some (jm_i a0), some (jm_i a1)], [], h1)) rfl ?_
  refine jm_E_ite (fun hc => ?_) (fun hc => ?_)
  · replace H := H.1 hc
    refine jm_E_n 1 (x' := (17, [some (jm_r 7 0), some (jm_i a0), some (jm_i a1)], [jm_i 0], h1)) rfl ?_
    exact jm_E_ret rfl (by rw [H]; rfl)
  · replace H := H.2 hc
    refine jm_E_n 2 (x' := (if a1 < 0 then 16 else 6, [some (jm_r 7 0), some (jm_i a0), some (jm_i a1)], [], h1)) rfl ?_
    refine jm_E_ite (fun hc => ?_) (fun hc => ?_)
    · replace H := H.1 hc
      refine jm_E_n 1 (x' := (17, [some (jm_r 7 0), some (jm_i a0), some (jm_i a1)], [jm_i 0], h1)) rfl ?_
      exact jm_E_ret rfl (by rw [H]; rfl)
    · replace H := H.2 hc
      refine jm_E_n 5 (x' := (11, [some (jm_r 7 0), some (jm_i a0), some (jm_i a1)], [jm_i a0, jm_r 28 (h1.2.1 7 0 1), jm_i a1], h1)) rfl ?_
      refine jm_E_aald rfl rfl H.1 ?_
      replace H := H.2
      refine jm_E_eq (x := (12, [some (jm_r 7 0), some (jm_i a0), some (jm_i a1)], [jm_r 2 (3 * (h1.2.1 7 0 1) + a0.toNatClampNeg), jm_i a1], h1)) rfl ?_
      refine jm_E_n 2 (x' := (if (h1.1 2 (3 * (h1.2.1 7 0 1) + a0.toNatClampNeg) 3) ≤ a1 then 16 else 14, [some (jm_r 7 0), some (jm_i a0), some (jm_i a1)], [], h1)) rfl ?_
      refine jm_E_ite (fun hc => ?_) (fun hc => ?_)
      · replace H := H.1 hc
        refine jm_E_n 1 (x' := (17, [some (jm_r 7 0), some (jm_i a0), some (jm_i a1)], [jm_i 0], h1)) rfl ?_
        exact jm_E_ret rfl (by rw [H]; rfl)
      · replace H := H.2 hc
        refine jm_E_n 2 (x' := (17, [some (jm_r 7 0), some (jm_i a0), some (jm_i a1)], [jm_i 1], h1)) rfl ?_
        exact jm_E_ret rfl (by rw [H]; rfl)
set_option maxRecDepth 100000 in
theorem wp_FR_job {a0 : Int32} {a1 : Int32} {a2 : Int32} {h : jm_H} {r : jm_Rs} (H :
  ∃ (v1 : Int32) (h1 : jm_H), m_FR_isJob a0 a1 h v1 h1 ∧
  (v1 = 0 →
    ∃ (v2 : Int32) (h2 : jm_H), m_FR_refused 1 h1 v2 h2 ∧
    r = (some (jm_i v2), h2)) ∧
  (¬ (v1 = 0) →
    (a2 < 0 →
      ∃ (v3 : Int32) (h3 : jm_H), m_FR_refused 1 h1 v3 h3 ∧
      r = (some (jm_i v3), h3)) ∧
    (¬ (a2 < 0) →
      (a2 ≤ 5 →
        jm_in a0 3 ∧
        (a2 = 0 →
          jm_in a1 24 ∧
          ∃ (v4 : Int32) (h4 : jm_H), m_FR_answered (h1.1 12 (3 * 0 + a0.toNatClampNeg) a1.toNatClampNeg) h1 v4 h4 ∧
          r = (some (jm_i v4), h4)) ∧
        (a2 = 1 →
          jm_in a1 24 ∧
          ∃ (v5 : Int32) (h5 : jm_H), m_FR_answered (h1.1 13 (3 * 0 + a0.toNatClampNeg) a1.toNatClampNeg) h1 v5 h5 ∧
          r = (some (jm_i v5), h5)) ∧
        (a2 = 2 →
          jm_in a1 24 ∧
          ∃ (v6 : Int32) (h6 : jm_H), m_FR_answered (h1.1 14 (3 * 0 + a0.toNatClampNeg) a1.toNatClampNeg) h1 v6 h6 ∧
          r = (some (jm_i v6), h6)) ∧
        (a2 = 3 →
          jm_in a1 24 ∧
          ∃ (v7 : Int32) (h7 : jm_H), m_FR_answered (h1.1 15 (3 * 0 + a0.toNatClampNeg) a1.toNatClampNeg) h1 v7 h7 ∧
          r = (some (jm_i v7), h7)) ∧
        (a2 = 4 →
          ∃ (v8 : Int32) (h8 : jm_H), m_Flow_isEmpty (3 * 0 + a0.toNatClampNeg) a1 h1 v8 h8 ∧
          (v8 = 0 →
            jm_in a1 24 ∧
            ∃ (v9 : Int32) (h9 : jm_H), m_FR_answered (h8.1 16 (3 * 0 + a0.toNatClampNeg) a1.toNatClampNeg) h8 v9 h9 ∧
            r = (some (jm_i v9), h9)) ∧
          (¬ (v8 = 0) →
            ∃ (v10 : Int32) (h10 : jm_H), m_FR_answered (-2) h8 v10 h10 ∧
            r = (some (jm_i v10), h10))) ∧
        (a2.toInt < 0 ∨ 5 ≤ a2.toInt →
          ∃ (v11 : Int32) (h11 : jm_H), m_Flow_isEmpty (3 * 0 + a0.toNatClampNeg) a1 h1 v11 h11 ∧
          (v11 = 0 →
            jm_in a1 24 ∧
            ∃ (v12 : Int32) (h12 : jm_H), m_FR_answered (h11.1 17 (3 * 0 + a0.toNatClampNeg) a1.toNatClampNeg) h11 v12 h12 ∧
            r = (some (jm_i v12), h12)) ∧
          (¬ (v11 = 0) →
            ∃ (v13 : Int32) (h13 : jm_H), m_FR_answered (-2) h11 v13 h13 ∧
            r = (some (jm_i v13), h13)))) ∧
      (¬ (a2 ≤ 5) →
        ∃ (v14 : Int32) (h14 : jm_H), m_FR_refused 1 h1 v14 h14 ∧
        r = (some (jm_i v14), h14))))) : jm_R 14 [jm_r 7 0, jm_i a0, jm_i a1, jm_i a2] h r := by
  refine jm_R_of hz_14 (Nat.le_of_ble_eq_true rfl) ?_
  show jm_E cod_14 (0, [some (jm_r 7 0), some (jm_i a0), some (jm_i a1), some (jm_i a2), none], [], h) r
  refine jm_E_n 3 (x' := (3, [some (jm_r 7 0), some (jm_i a0), some (jm_i a1), some (jm_i a2), none], [jm_i a1, jm_i a0, jm_r 7 0], h)) rfl ?_
  obtain ⟨v1, h1, hR, H⟩ := H
  refine jm_E_call rfl (Nat.le_of_ble_eq_true rfl) (Nat.le_of_ble_eq_true rfl) rfl hR trivial ?_
  refine jm_E_eq (x := (4, [some (jm_r 7 0), some (jm_i a0), some (jm_i a1), some (jm_i a2), none], [jm_i v1], h1)) rfl ?_
  refine jm_E_n 1 (x' := (if v1 = 0 then 10 else 5, [some (jm_r 7 0), some (jm_i a0), some (jm_i a1), some (jm_i a2), none], [], h1)) rfl ?_
  refine jm_E_ite (fun hc => ?_) (fun hc => ?_)
  · replace H := H.1 hc
    refine jm_E_n 2 (x' := (12, [some (jm_r 7 0), some (jm_i a0), some (jm_i a1), some (jm_i a2), none], [jm_i 1, jm_r 7 0], h1)) rfl ?_
    obtain ⟨v2, h2, hR, H⟩ := H
    refine jm_E_call rfl (Nat.le_of_ble_eq_true rfl) (Nat.le_of_ble_eq_true rfl) rfl hR trivial ?_
    refine jm_E_eq (x := (13, [some (jm_r 7 0), some (jm_i a0), some (jm_i a1), some (jm_i a2), none], [jm_i v2], h2)) rfl ?_
    exact jm_E_ret rfl (by rw [H]; rfl)
  · replace H := H.2 hc
    refine jm_E_n 2 (x' := (if a2 < 0 then 10 else 7, [some (jm_r 7 0), some (jm_i a0), some (jm_i a1), some (jm_i a2), none], [], h1)) rfl ?_
    refine jm_E_ite (fun hc => ?_) (fun hc => ?_)
    · replace H := H.1 hc
      refine jm_E_n 2 (x' := (12, [some (jm_r 7 0), some (jm_i a0), some (jm_i a1), some (jm_i a2), none], [jm_i 1, jm_r 7 0], h1)) rfl ?_
      obtain ⟨v3, h3, hR, H⟩ := H
      refine jm_E_call rfl (Nat.le_of_ble_eq_true rfl) (Nat.le_of_ble_eq_true rfl) rfl hR trivial ?_
      refine jm_E_eq (x := (13, [some (jm_r 7 0), some (jm_i a0), some (jm_i a1), some (jm_i a2), none], [jm_i v3], h3)) rfl ?_
      exact jm_E_ret rfl (by rw [H]; rfl)
    · replace H := H.2 hc
      refine jm_E_n 3 (x' := (if a2 ≤ 5 then 14 else 10, [some (jm_r 7 0), some (jm_i a0), some (jm_i a1), some (jm_i a2), none], [], h1)) rfl ?_
      refine jm_E_ite (fun hc => ?_) (fun hc => ?_)
      · replace H := H.1 hc
        refine jm_E_n 3 (x' := (17, [some (jm_r 7 0), some (jm_i a0), some (jm_i a1), some (jm_i a2), none], [jm_i a0, jm_r 32 0], h1)) rfl ?_
        refine jm_E_aald rfl rfl H.1 ?_
        replace H := H.2
        refine jm_E_eq (x := (18, [some (jm_r 7 0), some (jm_i a0), some (jm_i a1), some (jm_i a2), none], [jm_r 6 (3 * 0 + a0.toNatClampNeg)], h1)) rfl ?_
        refine jm_E_n 4 (x' := (if a2.toInt < 0 ∨ 0 + (5 : Nat) ≤ a2.toInt then 63 else ([22, 29, 36, 43, 50] : List Nat).getD (a2.toInt - 0).toNat 0, [some (jm_r 7 0), some (jm_i a0), some (jm_i a1), some (jm_i a2), some (jm_r 1 (3 * 0 + a0.toNatClampNeg))], [], h1)) rfl ?_
        obtain ⟨H0, H1, H2, H3, H4, HD⟩ := H
        refine jm_E_tsw5 (fun hc => ?_) (fun hc => ?_) (fun hc => ?_) (fun hc => ?_) (fun hc => ?_) (fun hc => ?_)
        · replace H := HD hc
          refine jm_E_n 3 (x' := (66, [some (jm_r 7 0), some (jm_i a0), some (jm_i a1), some (jm_i a2), some (jm_r 1 (3 * 0 + a0.toNatClampNeg))], [jm_i a1, jm_r 1 (3 * 0 + a0.toNatClampNeg), jm_r 7 0], h1)) rfl ?_
          obtain ⟨v11, h11, hR, H⟩ := H
          refine jm_E_call rfl (Nat.le_of_ble_eq_true rfl) (Nat.le_of_ble_eq_true rfl) rfl hR trivial ?_
          refine jm_E_eq (x := (67, [some (jm_r 7 0), some (jm_i a0), some (jm_i a1), some (jm_i a2), some (jm_r 1 (3 * 0 + a0.toNatClampNeg))], [jm_i v11, jm_r 7 0], h11)) rfl ?_
          refine jm_E_n 1 (x' := (if v11 = 0 then 70 else 68, [some (jm_r 7 0), some (jm_i a0), some (jm_i a1), some (jm_i a2), some (jm_r 1 (3 * 0 + a0.toNatClampNeg))], [jm_r 7 0], h11)) rfl ?_
          refine jm_E_ite (fun hc => ?_) (fun hc => ?_)
          · replace H := H.1 hc
            refine jm_E_n 3 (x' := (73, [some (jm_r 7 0), some (jm_i a0), some (jm_i a1), some (jm_i a2), some (jm_r 1 (3 * 0 + a0.toNatClampNeg))], [jm_i a1, jm_r 17 (3 * 0 + a0.toNatClampNeg), jm_r 7 0], h11)) rfl ?_
            refine jm_E_iald rfl rfl H.1 ?_
            replace H := H.2
            refine jm_E_eq (x := (74, [some (jm_r 7 0), some (jm_i a0), some (jm_i a1), some (jm_i a2), some (jm_r 1 (3 * 0 + a0.toNatClampNeg))], [jm_i (h11.1 17 (3 * 0 + a0.toNatClampNeg) a1.toNatClampNeg), jm_r 7 0], h11)) rfl ?_
            obtain ⟨v12, h12, hR, H⟩ := H
            refine jm_E_call rfl (Nat.le_of_ble_eq_true rfl) (Nat.le_of_ble_eq_true rfl) rfl hR trivial ?_
            refine jm_E_eq (x := (75, [some (jm_r 7 0), some (jm_i a0), some (jm_i a1), some (jm_i a2), some (jm_r 1 (3 * 0 + a0.toNatClampNeg))], [jm_i v12], h12)) rfl ?_
            exact jm_E_ret rfl (by rw [H]; rfl)
          · replace H := H.2 hc
            refine jm_E_n 2 (x' := (74, [some (jm_r 7 0), some (jm_i a0), some (jm_i a1), some (jm_i a2), some (jm_r 1 (3 * 0 + a0.toNatClampNeg))], [jm_i (-2), jm_r 7 0], h11)) rfl ?_
            obtain ⟨v13, h13, hR, H⟩ := H
            refine jm_E_call rfl (Nat.le_of_ble_eq_true rfl) (Nat.le_of_ble_eq_true rfl) rfl hR trivial ?_
            refine jm_E_eq (x := (75, [some (jm_r 7 0), some (jm_i a0), some (jm_i a1), some (jm_i a2), some (jm_r 1 (3 * 0 + a0.toNatClampNeg))], [jm_i v13], h13)) rfl ?_
            exact jm_E_ret rfl (by rw [H]; rfl)
        · replace H := H0 hc
          refine jm_E_n 4 (x' := (26, [some (jm_r 7 0), some (jm_i a0), some (jm_i a1), some (jm_i a2), some (jm_r 1 (3 * 0 + a0.toNatClampNeg))], [jm_i a1, jm_r 12 (3 * 0 + a0.toNatClampNeg), jm_r 7 0], h1)) rfl ?_
          refine jm_E_iald rfl rfl H.1 ?_
          replace H := H.2
          refine jm_E_eq (x := (27, [some (jm_r 7 0), some (jm_i a0), some (jm_i a1), some (jm_i a2), some (jm_r 1 (3 * 0 + a0.toNatClampNeg))], [jm_i (h1.1 12 (3 * 0 + a0.toNatClampNeg) a1.toNatClampNeg), jm_r 7 0], h1)) rfl ?_
          obtain ⟨v4, h4, hR, H⟩ := H
          refine jm_E_call rfl (Nat.le_of_ble_eq_true rfl) (Nat.le_of_ble_eq_true rfl) rfl hR trivial ?_
          refine jm_E_eq (x := (28, [some (jm_r 7 0), some (jm_i a0), some (jm_i a1), some (jm_i a2), some (jm_r 1 (3 * 0 + a0.toNatClampNeg))], [jm_i v4], h4)) rfl ?_
          exact jm_E_ret rfl (by rw [H]; rfl)
        · replace H := H1 hc
          refine jm_E_n 4 (x' := (33, [some (jm_r 7 0), some (jm_i a0), some (jm_i a1), some (jm_i a2), some (jm_r 1 (3 * 0 + a0.toNatClampNeg))], [jm_i a1, jm_r 13 (3 * 0 + a0.toNatClampNeg), jm_r 7 0], h1)) rfl ?_
          refine jm_E_iald rfl rfl H.1 ?_
          replace H := H.2
          refine jm_E_eq (x := (34, [some (jm_r 7 0), some (jm_i a0), some (jm_i a1), some (jm_i a2), some (jm_r 1 (3 * 0 + a0.toNatClampNeg))], [jm_i (h1.1 13 (3 * 0 + a0.toNatClampNeg) a1.toNatClampNeg), jm_r 7 0], h1)) rfl ?_
          obtain ⟨v5, h5, hR, H⟩ := H
          refine jm_E_call rfl (Nat.le_of_ble_eq_true rfl) (Nat.le_of_ble_eq_true rfl) rfl hR trivial ?_
          refine jm_E_eq (x := (35, [some (jm_r 7 0), some (jm_i a0), some (jm_i a1), some (jm_i a2), some (jm_r 1 (3 * 0 + a0.toNatClampNeg))], [jm_i v5], h5)) rfl ?_
          exact jm_E_ret rfl (by rw [H]; rfl)
        · replace H := H2 hc
          refine jm_E_n 4 (x' := (40, [some (jm_r 7 0), some (jm_i a0), some (jm_i a1), some (jm_i a2), some (jm_r 1 (3 * 0 + a0.toNatClampNeg))], [jm_i a1, jm_r 14 (3 * 0 + a0.toNatClampNeg), jm_r 7 0], h1)) rfl ?_
          refine jm_E_iald rfl rfl H.1 ?_
          replace H := H.2
          refine jm_E_eq (x := (41, [some (jm_r 7 0), some (jm_i a0), some (jm_i a1), some (jm_i a2), some (jm_r 1 (3 * 0 + a0.toNatClampNeg))], [jm_i (h1.1 14 (3 * 0 + a0.toNatClampNeg) a1.toNatClampNeg), jm_r 7 0], h1)) rfl ?_
          obtain ⟨v6, h6, hR, H⟩ := H
          refine jm_E_call rfl (Nat.le_of_ble_eq_true rfl) (Nat.le_of_ble_eq_true rfl) rfl hR trivial ?_
          refine jm_E_eq (x := (42, [some (jm_r 7 0), some (jm_i a0), some (jm_i a1), some (jm_i a2), some (jm_r 1 (3 * 0 + a0.toNatClampNeg))], [jm_i v6], h6)) rfl ?_
          exact jm_E_ret rfl (by rw [H]; rfl)
        · replace H := H3 hc
          refine jm_E_n 4 (x' := (47, [some (jm_r 7 0), some (jm_i a0), some (jm_i a1), some (jm_i a2), some (jm_r 1 (3 * 0 + a0.toNatClampNeg))], [jm_i a1, jm_r 15 (3 * 0 + a0.toNatClampNeg), jm_r 7 0], h1)) rfl ?_
          refine jm_E_iald rfl rfl H.1 ?_
          replace H := H.2
          refine jm_E_eq (x := (48, [some (jm_r 7 0), some (jm_i a0), some (jm_i a1), some (jm_i a2), some (jm_r 1 (3 * 0 + a0.toNatClampNeg))], [jm_i (h1.1 15 (3 * 0 + a0.toNatClampNeg) a1.toNatClampNeg), jm_r 7 0], h1)) rfl ?_
          obtain ⟨v7, h7, hR, H⟩ := H
          refine jm_E_call rfl (Nat.le_of_ble_eq_true rfl) (Nat.le_of_ble_eq_true rfl) rfl hR trivial ?_
          refine jm_E_eq (x := (49, [some (jm_r 7 0), some (jm_i a0), some (jm_i a1), some (jm_i a2), some (jm_r 1 (3 * 0 + a0.toNatClampNeg))], [jm_i v7], h7)) rfl ?_
          exact jm_E_ret rfl (by rw [H]; rfl)
        · replace H := H4 hc
          refine jm_E_n 3 (x' := (53, [some (jm_r 7 0), some (jm_i a0), some (jm_i a1), some (jm_i a2), some (jm_r 1 (3 * 0 + a0.toNatClampNeg))], [jm_i a1, jm_r 1 (3 * 0 + a0.toNatClampNeg), jm_r 7 0], h1)) rfl ?_
          obtain ⟨v8, h8, hR, H⟩ := H
          refine jm_E_call rfl (Nat.le_of_ble_eq_true rfl) (Nat.le_of_ble_eq_true rfl) rfl hR trivial ?_
          refine jm_E_eq (x := (54, [some (jm_r 7 0), some (jm_i a0), some (jm_i a1), some (jm_i a2), some (jm_r 1 (3 * 0 + a0.toNatClampNeg))], [jm_i v8, jm_r 7 0], h8)) rfl ?_
          refine jm_E_n 1 (x' := (if v8 = 0 then 57 else 55, [some (jm_r 7 0), some (jm_i a0), some (jm_i a1), some (jm_i a2), some (jm_r 1 (3 * 0 + a0.toNatClampNeg))], [jm_r 7 0], h8)) rfl ?_
          refine jm_E_ite (fun hc => ?_) (fun hc => ?_)
          · replace H := H.1 hc
            refine jm_E_n 3 (x' := (60, [some (jm_r 7 0), some (jm_i a0), some (jm_i a1), some (jm_i a2), some (jm_r 1 (3 * 0 + a0.toNatClampNeg))], [jm_i a1, jm_r 16 (3 * 0 + a0.toNatClampNeg), jm_r 7 0], h8)) rfl ?_
            refine jm_E_iald rfl rfl H.1 ?_
            replace H := H.2
            refine jm_E_eq (x := (61, [some (jm_r 7 0), some (jm_i a0), some (jm_i a1), some (jm_i a2), some (jm_r 1 (3 * 0 + a0.toNatClampNeg))], [jm_i (h8.1 16 (3 * 0 + a0.toNatClampNeg) a1.toNatClampNeg), jm_r 7 0], h8)) rfl ?_
            obtain ⟨v9, h9, hR, H⟩ := H
            refine jm_E_call rfl (Nat.le_of_ble_eq_true rfl) (Nat.le_of_ble_eq_true rfl) rfl hR trivial ?_
            refine jm_E_eq (x := (62, [some (jm_r 7 0), some (jm_i a0), some (jm_i a1), some (jm_i a2), some (jm_r 1 (3 * 0 + a0.toNatClampNeg))], [jm_i v9], h9)) rfl ?_
            exact jm_E_ret rfl (by rw [H]; rfl)
          · replace H := H.2 hc
            refine jm_E_n 2 (x' := (61, [some (jm_r 7 0), some (jm_i a0), some (jm_i a1), some (jm_i a2), some (jm_r 1 (3 * 0 + a0.toNatClampNeg))], [jm_i (-2), jm_r 7 0], h8)) rfl ?_
            obtain ⟨v10, h10, hR, H⟩ := H
            refine jm_E_call rfl (Nat.le_of_ble_eq_true rfl) (Nat.le_of_ble_eq_true rfl) rfl hR trivial ?_
            refine jm_E_eq (x := (62, [some (jm_r 7 0), some (jm_i a0), some (jm_i a1), some (jm_i a2), some (jm_r 1 (3 * 0 + a0.toNatClampNeg))], [jm_i v10], h10)) rfl ?_
            exact jm_E_ret rfl (by rw [H]; rfl)
      · replace H := H.2 hc
        refine jm_E_n 2 (x' := (12, [some (jm_r 7 0), some (jm_i a0), some (jm_i a1), some (jm_i a2), none], [jm_i 1, jm_r 7 0], h1)) rfl ?_
        obtain ⟨v14, h14, hR, H⟩ := H
        refine jm_E_call rfl (Nat.le_of_ble_eq_true rfl) (Nat.le_of_ble_eq_true rfl) rfl hR trivial ?_
        refine jm_E_eq (x := (13, [some (jm_r 7 0), some (jm_i a0), some (jm_i a1), some (jm_i a2), none], [jm_i v14], h14)) rfl ?_
        exact jm_E_ret rfl (by rw [H]; rfl)
set_option maxRecDepth 100000 in
theorem wp_Timer_bits_13 {x2 : Int32} {x4 : UInt64} {x6 : Int64} {x8 : Int32} {h : jm_H} {r : jm_Rs} (H :
  (1100 ≤ x8 →
    l_Timer_bits_32 x2 x4 x6 0 h r) ∧
  (¬ (1100 ≤ x8) →
    ((Op.cmpValue (FP.dcmp x4 4611686018427387904) .l) < 0 →
      l_Timer_bits_32 x2 x4 x6 0 h r) ∧
    (¬ ((Op.cmpValue (FP.dcmp x4 4611686018427387904) .l) < 0) →
      (FP.ddiv x4 4611686018427387904 &&& 0x7fffffffffffffff ≤ 0x7ff0000000000000) ∧
      l_Timer_bits_13 x2 (FP.ddiv x4 4611686018427387904) (x6 + 1) (x8 + 1) h r))) : l_Timer_bits_13 x2 x4 x6 x8 h r := by
  refine jm_E_n 3 (x' := (if 1100 ≤ x8 then 30 else 16, [none, none, some (jm_i x2), none, some (.inl (.double x4)), none, some (.inl (.long x6)), none, some (jm_i x8), none], [], h)) rfl ?_
  refine jm_E_ite (fun hc => ?_) (fun hc => ?_)
  · replace H := H.1 hc
    refine jm_E_n 2 (x' := (32, [none, none, some (jm_i x2), none, some (.inl (.double x4)), none, some (.inl (.long x6)), none, some (jm_i 0), none], [], h)) rfl ?_
    exact H
  · replace H := H.2 hc
    refine jm_E_n 4 (x' := (if (Op.cmpValue (FP.dcmp x4 4611686018427387904) .l) < 0 then 30 else 20, [none, none, some (jm_i x2), none, some (.inl (.double x4)), none, some (.inl (.long x6)), none, some (jm_i x8), none], [], h)) rfl ?_
    refine jm_E_ite (fun hc => ?_) (fun hc => ?_)
    · replace H := H.1 hc
      refine jm_E_n 2 (x' := (32, [none, none, some (jm_i x2), none, some (.inl (.double x4)), none, some (.inl (.long x6)), none, some (jm_i 0), none], [], h)) rfl ?_
      exact H
    · replace H := H.2 hc
      refine jm_E_n 2 (x' := (22, [none, none, some (jm_i x2), none, some (.inl (.double x4)), none, some (.inl (.long x6)), none, some (jm_i x8), none], [.inl (.double 4611686018427387904), .inl (.double x4)], h)) rfl ?_
      refine jm_E_dbin rfl H.1 ?_
      replace H := H.2
      refine jm_E_eq (x := (23, [none, none, some (jm_i x2), none, some (.inl (.double x4)), none, some (.inl (.long x6)), none, some (jm_i x8), none], [.inl (.double (FP.ddiv x4 4611686018427387904))], h)) rfl ?_
      refine jm_E_n 7 (x' := (13, [none, none, some (jm_i x2), none, some (.inl (.double (FP.ddiv x4 4611686018427387904))), none, some (.inl (.long (x6 + 1))), none, some (jm_i (x8 + 1)), none], [], h)) rfl ?_
      exact H
set_option maxRecDepth 100000 in
theorem wp_Timer_bits_32 {x2 : Int32} {x4 : UInt64} {x6 : Int64} {x8 : Int32} {h : jm_H} {r : jm_Rs} (H :
  (1100 ≤ x8 →
    (FP.dsub x4 FP.dconst1 &&& 0x7fffffffffffffff ≤ 0x7ff0000000000000) ∧
    (FP.dmul (FP.dsub x4 FP.dconst1) (FP.l2d (1 <<< (x2.toInt64 &&& 63))) &&& 0x7fffffffffffffff ≤ 0x7ff0000000000000) ∧
    r = (some (.inl (.long ((x6 <<< (x2.toInt64 &&& 63)) + (FP.d2l (FP.dmul (FP.dsub x4 FP.dconst1) (FP.l2d (1 <<< (x2.toInt64 &&& 63)))))))), h)) ∧
  (¬ (1100 ≤ x8) →
    (0 ≤ (Op.cmpValue (FP.dcmp x4 FP.dconst1) .g) →
      (FP.dsub x4 FP.dconst1 &&& 0x7fffffffffffffff ≤ 0x7ff0000000000000) ∧
      (FP.dmul (FP.dsub x4 FP.dconst1) (FP.l2d (1 <<< (x2.toInt64 &&& 63))) &&& 0x7fffffffffffffff ≤ 0x7ff0000000000000) ∧
      r = (some (.inl (.long ((x6 <<< (x2.toInt64 &&& 63)) + (FP.d2l (FP.dmul (FP.dsub x4 FP.dconst1) (FP.l2d (1 <<< (x2.toInt64 &&& 63)))))))), h)) ∧
    (¬ (0 ≤ (Op.cmpValue (FP.dcmp x4 FP.dconst1) .g)) →
      (FP.dmul x4 4611686018427387904 &&& 0x7fffffffffffffff ≤ 0x7ff0000000000000) ∧
      l_Timer_bits_32 x2 (FP.dmul x4 4611686018427387904) (x6 - 1) (x8 + 1) h r))) : l_Timer_bits_32 x2 x4 x6 x8 h r := by
  refine jm_E_n 3 (x' := (if 1100 ≤ x8 then 49 else 35, [none, none, some (jm_i x2), none, some (.inl (.double x4)), none, some (.inl (.long x6)), none, some (jm_i x8), none], [], h)) rfl ?_
  refine jm_E_ite (fun hc => ?_) (fun hc => ?_)
  · replace H := H.1 hc
    refine jm_E_n 2 (x' := (51, [none, none, some (jm_i x2), none, some (.inl (.double x4)), none, some (.inl (.long x6)), none, some (jm_i x8), none], [.inl (.double FP.dconst1), .inl (.double x4)], h)) rfl ?_
    refine jm_E_dbin rfl H.1 ?_
    replace H := H.2
    refine jm_E_eq (x := (52, [none, none, some (jm_i x2), none, some (.inl (.double x4)), none, some (.inl (.long x6)), none, some (jm_i x8), none], [.inl (.double (FP.dsub x4 FP.dconst1))], h)) rfl ?_
    refine jm_E_n 4 (x' := (56, [none, none, some (jm_i x2), none, some (.inl (.double x4)), none, some (.inl (.long x6)), none, some (jm_i x8), none], [.inl (.double (FP.l2d (1 <<< (x2.toInt64 &&& 63)))), .inl (.double (FP.dsub x4 FP.dconst1))], h)) rfl ?_
    refine jm_E_dbin rfl H.1 ?_
    replace H := H.2
    refine jm_E_eq (x := (57, [none, none, some (jm_i x2), none, some (.inl (.double x4)), none, some (.inl (.long x6)), none, some (jm_i x8), none], [.inl (.double (FP.dmul (FP.dsub x4 FP.dconst1) (FP.l2d (1 <<< (x2.toInt64 &&& 63)))))], h)) rfl ?_
    refine jm_E_n 7 (x' := (64, [none, none, some (jm_i x2), none, some (.inl (.double x4)), none, some (.inl (.long x6)), none, some (.inl (.double (FP.dmul (FP.dsub x4 FP.dconst1) (FP.l2d (1 <<< (x2.toInt64 &&& 63)))))), none], [.inl (.long ((x6 <<< (x2.toInt64 &&& 63)) + (FP.d2l (FP.dmul (FP.dsub x4 FP.dconst1) (FP.l2d (1 <<< (x2.toInt64 &&& 63)))))))], h)) rfl ?_
    exact jm_E_ret rfl (by rw [H]; rfl)
  · replace H := H.2 hc
    refine jm_E_n 4 (x' := (if 0 ≤ (Op.cmpValue (FP.dcmp x4 FP.dconst1) .g) then 49 else 39, [none, none, some (jm_i x2), none, some (.inl (.double x4)), none, some (.inl (.long x6)), none, some (jm_i x8), none], [], h)) rfl ?_
    refine jm_E_ite (fun hc => ?_) (fun hc => ?_)
    · replace H := H.1 hc
      refine jm_E_n 2 (x' := (51, [none, none, some (jm_i x2), none, some (.inl (.double x4)), none, some (.inl (.long x6)), none, some (jm_i x8), none], [.inl (.double FP.dconst1), .inl (.double x4)], h)) rfl ?_
      refine jm_E_dbin rfl H.1 ?_
      replace H := H.2
      refine jm_E_eq (x := (52, [none, none, some (jm_i x2), none, some (.inl (.double x4)), none, some (.inl (.long x6)), none, some (jm_i x8), none], [.inl (.double (FP.dsub x4 FP.dconst1))], h)) rfl ?_
      refine jm_E_n 4 (x' := (56, [none, none, some (jm_i x2), none, some (.inl (.double x4)), none, some (.inl (.long x6)), none, some (jm_i x8), none], [.inl (.double (FP.l2d (1 <<< (x2.toInt64 &&& 63)))), .inl (.double (FP.dsub x4 FP.dconst1))], h)) rfl ?_
      refine jm_E_dbin rfl H.1 ?_
      replace H := H.2
      refine jm_E_eq (x := (57, [none, none, some (jm_i x2), none, some (.inl (.double x4)), none, some (.inl (.long x6)), none, some (jm_i x8), none], [.inl (.double (FP.dmul (FP.dsub x4 FP.dconst1) (FP.l2d (1 <<< (x2.toInt64 &&& 63)))))], h)) rfl ?_
      refine jm_E_n 7 (x' := (64, [none, none, some (jm_i x2), none, some (.inl (.double x4)), none, some (.inl (.long x6)), none, some (.inl (.double (FP.dmul (FP.dsub x4 FP.dconst1) (FP.l2d (1 <<< (x2.toInt64 &&& 63)))))), none], [.inl (.long ((x6 <<< (x2.toInt64 &&& 63)) + (FP.d2l (FP.dmul (FP.dsub x4 FP.dconst1) (FP.l2d (1 <<< (x2.toInt64 &&& 63)))))))], h)) rfl ?_
      exact jm_E_ret rfl (by rw [H]; rfl)
    · replace H := H.2 hc
      refine jm_E_n 2 (x' := (41, [none, none, some (jm_i x2), none, some (.inl (.double x4)), none, some (.inl (.long x6)), none, some (jm_i x8), none], [.inl (.double 4611686018427387904), .inl (.double x4)], h)) rfl ?_
      refine jm_E_dbin rfl H.1 ?_
      replace H := H.2
      refine jm_E_eq (x := (42, [none, none, some (jm_i x2), none, some (.inl (.double x4)), none, some (.inl (.long x6)), none, some (jm_i x8), none], [.inl (.double (FP.dmul x4 4611686018427387904))], h)) rfl ?_
      refine jm_E_n 7 (x' := (32, [none, none, some (jm_i x2), none, some (.inl (.double (FP.dmul x4 4611686018427387904))), none, some (.inl (.long (x6 - 1))), none, some (jm_i (x8 + 1)), none], [], h)) rfl ?_
      exact H
set_option maxRecDepth 100000 in
theorem wp_Timer_bits {a0 : UInt64} {a1 : Int32} {a2 : Int32} {h : jm_H} {r : jm_Rs} (H :
  (0 < (Op.cmpValue (FP.dcmp a0 FP.dconst0) .l) →
    l_Timer_bits_13 a1 a0 a2.toInt64 0 h r) ∧
  (¬ (0 < (Op.cmpValue (FP.dcmp a0 FP.dconst0) .l)) →
    r = (some (.inl (.long 0)), h))) : jm_R 274 [.inl (.double a0), jm_i a1, jm_i a2] h r := by
  refine jm_R_of hz_274 (Nat.le_of_ble_eq_true rfl) ?_
  show jm_E cod_274 (0, [some (.inl (.double a0)), none, some (jm_i a1), some (jm_i a2), none, none, none, none, none, none], [], h) r
  refine jm_E_n 4 (x' := (if 0 < (Op.cmpValue (FP.dcmp a0 FP.dconst0) .l) then 6 else 4, [some (.inl (.double a0)), none, some (jm_i a1), some (jm_i a2), none, none, none, none, none, none], [], h)) rfl ?_
  refine jm_E_ite (fun hc => ?_) (fun hc => ?_)
  · replace H := H.1 hc
    refine jm_E_n 7 (x' := (13, [some (.inl (.double a0)), none, some (jm_i a1), some (jm_i a2), some (.inl (.double a0)), none, some (.inl (.long a2.toInt64)), none, some (jm_i 0), none], [], h)) rfl ?_
    exact jm_E_weak (jm_le_n (jm_le_n (jm_le_s (jm_le_n (jm_le_s (jm_le_n (jm_le_s (jm_le_n (jm_le_s (jm_le_n jm_le_nil)))))))))) H
  · replace H := H.2 hc
    refine jm_E_n 1 (x' := (5, [some (.inl (.double a0)), none, some (jm_i a1), some (jm_i a2), none, none, none, none, none, none], [.inl (.long 0)], h)) rfl ?_
    exact jm_E_ret rfl (by rw [H]; rfl)
set_option maxRecDepth 100000 in
theorem wp_FR_load_22 {x2 : Nat} {x3 : UInt64} {x5 : Int32} {h : jm_H} {r : jm_Rs} (H :
  ((h.1 2 x2 2) ≤ x5 →
    ∃ (v3 : Int64) (h3 : jm_H), m_Timer_bits x3 52 1023 h v3 h3 ∧
    r = (some (.inl (.long v3)), h3)) ∧
  (¬ ((h.1 2 x2 2) ≤ x5) →
    jm_in x5 6 ∧
    ((h.1 23 x2 x5.toNatClampNeg) ≤ 0 →
      l_FR_load_22 x2 x3 (x5 + 1) h r) ∧
    (¬ ((h.1 23 x2 x5.toNatClampNeg) ≤ 0) →
      jm_in x5 6 ∧
      jm_in x5 6 ∧
      (FP.ddiv (FP.i2d (h.1 24 x2 x5.toNatClampNeg)) (FP.i2d (h.1 23 x2 x5.toNatClampNeg)) &&& 0x7fffffffffffffff ≤ 0x7ff0000000000000) ∧
      (FP.dadd x3 (FP.ddiv (FP.i2d (h.1 24 x2 x5.toNatClampNeg)) (FP.i2d (h.1 23 x2 x5.toNatClampNeg))) &&& 0x7fffffffffffffff ≤ 0x7ff0000000000000) ∧
      l_FR_load_22 x2 (FP.dadd x3 (FP.ddiv (FP.i2d (h.1 24 x2 x5.toNatClampNeg)) (FP.i2d (h.1 23 x2 x5.toNatClampNeg)))) (x5 + 1) h r))) : l_FR_load_22 x2 x3 x5 h r := by
  refine jm_E_n 4 (x' := (if (h.1 2 x2 2) ≤ x5 then 47 else 26, [none, none, some (jm_r 2 x2), some (.inl (.double x3)), none, some (jm_i x5)], [], h)) rfl ?_
  refine jm_E_ite (fun hc => ?_) (fun hc => ?_)
  · replace H := H.1 hc
    refine jm_E_n 3 (x' := (50, [none, none, some (jm_r 2 x2), some (.inl (.double x3)), none, some (jm_i x5)], [jm_i 1023, jm_i 52, .inl (.double x3)], h)) rfl ?_
    obtain ⟨v3, h3, hR, H⟩ := H
    refine jm_E_call rfl (Nat.le_of_ble_eq_true rfl) (Nat.le_of_ble_eq_true rfl) trivial hR trivial ?_
    refine jm_E_eq (x := (51, [none, none, some (jm_r 2 x2), some (.inl (.double x3)), none, some (jm_i x5)], [.inl (.long v3)], h3)) rfl ?_
    exact jm_E_ret rfl (by rw [H]; rfl)
  · replace H := H.2 hc
    refine jm_E_n 3 (x' := (29, [none, none, some (jm_r 2 x2), some (.inl (.double x3)), none, some (jm_i x5)], [jm_i x5, jm_r 23 x2], h)) rfl ?_
    refine jm_E_iald rfl rfl H.1 ?_
    replace H := H.2
    refine jm_E_eq (x := (30, [none, none, some (jm_r 2 x2), some (.inl (.double x3)), none, some (jm_i x5)], [jm_i (h.1 23 x2 x5.toNatClampNeg)], h)) rfl ?_
    refine jm_E_n 1 (x' := (if (h.1 23 x2 x5.toNatClampNeg) ≤ 0 then 45 else 31, [none, none, some (jm_r 2 x2), some (.inl (.double x3)), none, some (jm_i x5)], [], h)) rfl ?_
    refine jm_E_ite (fun hc => ?_) (fun hc => ?_)
    · replace H := H.1 hc
      refine jm_E_n 2 (x' := (22, [none, none, some (jm_r 2 x2), some (.inl (.double x3)), none, some (jm_i (x5 + 1))], [], h)) rfl ?_
      exact H
    · replace H := H.2 hc
      refine jm_E_n 4 (x' := (35, [none, none, some (jm_r 2 x2), some (.inl (.double x3)), none, some (jm_i x5)], [jm_i x5, jm_r 24 x2, .inl (.double x3)], h)) rfl ?_
      refine jm_E_iald rfl rfl H.1 ?_
      replace H := H.2
      refine jm_E_eq (x := (36, [none, none, some (jm_r 2 x2), some (.inl (.double x3)), none, some (jm_i x5)], [jm_i (h.1 24 x2 x5.toNatClampNeg), .inl (.double x3)], h)) rfl ?_
      refine jm_E_n 4 (x' := (40, [none, none, some (jm_r 2 x2), some (.inl (.double x3)), none, some (jm_i x5)], [jm_i x5, jm_r 23 x2, .inl (.double (FP.i2d (h.1 24 x2 x5.toNatClampNeg))), .inl (.double x3)], h)) rfl ?_
      refine jm_E_iald rfl rfl H.1 ?_
      replace H := H.2
      refine jm_E_eq (x := (41, [none, none, some (jm_r 2 x2), some (.inl (.double x3)), none, some (jm_i x5)], [jm_i (h.1 23 x2 x5.toNatClampNeg), .inl (.double (FP.i2d (h.1 24 x2 x5.toNatClampNeg))), .inl (.double x3)], h)) rfl ?_
      refine jm_E_n 1 (x' := (42, [none, none, some (jm_r 2 x2), some (.inl (.double x3)), none, some (jm_i x5)], [.inl (.double (FP.i2d (h.1 23 x2 x5.toNatClampNeg))), .inl (.double (FP.i2d (h.1 24 x2 x5.toNatClampNeg))), .inl (.double x3)], h)) rfl ?_
      refine jm_E_dbin rfl H.1 ?_
      replace H := H.2
      refine jm_E_eq (x := (43, [none, none, some (jm_r 2 x2), some (.inl (.double x3)), none, some (jm_i x5)], [.inl (.double (FP.ddiv (FP.i2d (h.1 24 x2 x5.toNatClampNeg)) (FP.i2d (h.1 23 x2 x5.toNatClampNeg)))), .inl (.double x3)], h)) rfl ?_
      refine jm_E_dbin rfl H.1 ?_
      replace H := H.2
      refine jm_E_eq (x := (44, [none, none, some (jm_r 2 x2), some (.inl (.double x3)), none, some (jm_i x5)], [.inl (.double (FP.dadd x3 (FP.ddiv (FP.i2d (h.1 24 x2 x5.toNatClampNeg)) (FP.i2d (h.1 23 x2 x5.toNatClampNeg)))))], h)) rfl ?_
      refine jm_E_n 3 (x' := (22, [none, none, some (jm_r 2 x2), some (.inl (.double (FP.dadd x3 (FP.ddiv (FP.i2d (h.1 24 x2 x5.toNatClampNeg)) (FP.i2d (h.1 23 x2 x5.toNatClampNeg)))))), none, some (jm_i (x5 + 1))], [], h)) rfl ?_
      exact H
set_option maxRecDepth 100000 in
theorem wp_FR_load {a0 : Int32} {h : jm_H} {r : jm_Rs} (H :
  ∃ (v1 : Int32) (h1 : jm_H), m_FR_isMode a0 h v1 h1 ∧
  (v1 = 0 →
    ∃ (v2 : Int32) (h2 : jm_H), m_FR_refused 1 h1 v2 h2 ∧
    r = (some (.inl (.long v2.toInt64)), h2)) ∧
  (¬ (v1 = 0) →
    jm_in a0 3 ∧
    l_FR_load_22 (3 * (h1.2.1 7 0 1) + a0.toNatClampNeg) FP.dconst0 0 (jm_sI h1 7 0 8 0) r)) : jm_R 15 [jm_r 7 0, jm_i a0] h r := by
  refine jm_R_of hz_15 (Nat.le_of_ble_eq_true rfl) ?_
  show jm_E cod_15 (0, [some (jm_r 7 0), some (jm_i a0), none, none, none, none], [], h) r
  refine jm_E_n 2 (x' := (2, [some (jm_r 7 0), some (jm_i a0), none, none, none, none], [jm_i a0, jm_r 7 0], h)) rfl ?_
  obtain ⟨v1, h1, hR, H⟩ := H
  refine jm_E_call rfl (Nat.le_of_ble_eq_true rfl) (Nat.le_of_ble_eq_true rfl) rfl hR trivial ?_
  refine jm_E_eq (x := (3, [some (jm_r 7 0), some (jm_i a0), none, none, none, none], [jm_i v1], h1)) rfl ?_
  refine jm_E_n 1 (x' := (if v1 = 0 then 4 else 9, [some (jm_r 7 0), some (jm_i a0), none, none, none, none], [], h1)) rfl ?_
  refine jm_E_ite (fun hc => ?_) (fun hc => ?_)
  · replace H := H.1 hc
    refine jm_E_n 2 (x' := (6, [some (jm_r 7 0), some (jm_i a0), none, none, none, none], [jm_i 1, jm_r 7 0], h1)) rfl ?_
    obtain ⟨v2, h2, hR, H⟩ := H
    refine jm_E_call rfl (Nat.le_of_ble_eq_true rfl) (Nat.le_of_ble_eq_true rfl) rfl hR trivial ?_
    refine jm_E_eq (x := (7, [some (jm_r 7 0), some (jm_i a0), none, none, none, none], [jm_i v2], h2)) rfl ?_
    refine jm_E_n 1 (x' := (8, [some (jm_r 7 0), some (jm_i a0), none, none, none, none], [.inl (.long v2.toInt64)], h2)) rfl ?_
    exact jm_E_ret rfl (by rw [H]; rfl)
  · replace H := H.2 hc
    refine jm_E_n 7 (x' := (16, [some (jm_r 7 0), some (jm_i a0), none, none, none, none], [jm_i a0, jm_r 28 (h1.2.1 7 0 1)], (jm_sI h1 7 0 8 0))) rfl ?_
    refine jm_E_aald rfl rfl H.1 ?_
    replace H := H.2
    refine jm_E_eq (x := (17, [some (jm_r 7 0), some (jm_i a0), none, none, none, none], [jm_r 2 (3 * (h1.2.1 7 0 1) + a0.toNatClampNeg)], (jm_sI h1 7 0 8 0))) rfl ?_
    refine jm_E_n 5 (x' := (22, [some (jm_r 7 0), some (jm_i a0), some (jm_r 2 (3 * (h1.2.1 7 0 1) + a0.toNatClampNeg)), some (.inl (.double FP.dconst0)), none, some (jm_i 0)], [], (jm_sI h1 7 0 8 0))) rfl ?_
    exact jm_E_weak (jm_le_n (jm_le_n (jm_le_s (jm_le_s (jm_le_n (jm_le_s jm_le_nil)))))) H
set_option maxRecDepth 100000 in
theorem wp_FR_isFrame {a0 : Int32} {a1 : Int32} {h : jm_H} {r : jm_Rs} (H :
  ∃ (v1 : Int32) (h1 : jm_H), m_FR_isMode a0 h v1 h1 ∧
  (v1 = 0 →
    r = (some (jm_i 0), h1)) ∧
  (¬ (v1 = 0) →
    (a1 < 0 →
      r = (some (jm_i 0), h1)) ∧
    (¬ (a1 < 0) →
      jm_in a0 3 ∧
      ((h1.1 1 (3 * 0 + a0.toNatClampNeg) 2) ≤ a1 →
        r = (some (jm_i 0), h1)) ∧
      (¬ ((h1.1 1 (3 * 0 + a0.toNatClampNeg) 2) ≤ a1) →
        r = (some (jm_i 1), h1))))) : jm_R 19 [jm_r 7 0, jm_i a0, jm_i a1] h r := by
  refine jm_R_of hz_19 (Nat.le_of_ble_eq_true rfl) ?_
  show jm_E cod_19 (0, [some (jm_r 7 0), some (jm_i a0), some (jm_i a1)], [], h) r
  refine jm_E_n 2 (x' := (2, [some (jm_r 7 0), some (jm_i a0), some (jm_i a1)], [jm_i a0, jm_r 7 0], h)) rfl ?_
  obtain ⟨v1, h1, hR, H⟩ := H
  refine jm_E_call rfl (Nat.le_of_ble_eq_true rfl) (Nat.le_of_ble_eq_true rfl) rfl hR trivial ?_
  refine jm_E_eq (x := (3, [some (jm_r 7 0), some (jm_i a0), some (jm_i a1)], [jm_i v1], h1)) rfl ?_
  refine jm_E_n 1 (x' := (if v1 = 0 then 16 else 4, [some (jm_r 7 0), some (jm_i a0), some (jm_i a1)], [], h1)) rfl ?_
  refine jm_E_ite (fun hc => ?_) (fun hc => ?_)
  · replace H := H.1 hc
    refine jm_E_n 1 (x' := (17, [some (jm_r 7 0), some (jm_i a0), some (jm_i a1)], [jm_i 0], h1)) rfl ?_
    exact jm_E_ret rfl (by rw [H]; rfl)
  · replace H := H.2 hc
    refine jm_E_n 2 (x' := (if a1 < 0 then 16 else 6, [some (jm_r 7 0), some (jm_i a0), some (jm_i a1)], [], h1)) rfl ?_
    refine jm_E_ite (fun hc => ?_) (fun hc => ?_)
    · replace H := H.1 hc
      refine jm_E_n 1 (x' := (17, [some (jm_r 7 0), some (jm_i a0), some (jm_i a1)], [jm_i 0], h1)) rfl ?_
      exact jm_E_ret rfl (by rw [H]; rfl)
    · replace H := H.2 hc
      refine jm_E_n 4 (x' := (10, [some (jm_r 7 0), some (jm_i a0), some (jm_i a1)], [jm_i a0, jm_r 32 0, jm_i a1], h1)) rfl ?_
      refine jm_E_aald rfl rfl H.1 ?_
      replace H := H.2
      refine jm_E_eq (x := (11, [some (jm_r 7 0), some (jm_i a0), some (jm_i a1)], [jm_r 6 (3 * 0 + a0.toNatClampNeg), jm_i a1], h1)) rfl ?_
      refine jm_E_n 3 (x' := (if (h1.1 1 (3 * 0 + a0.toNatClampNeg) 2) ≤ a1 then 16 else 14, [some (jm_r 7 0), some (jm_i a0), some (jm_i a1)], [], h1)) rfl ?_
      refine jm_E_ite (fun hc => ?_) (fun hc => ?_)
      · replace H := H.1 hc
        refine jm_E_n 1 (x' := (17, [some (jm_r 7 0), some (jm_i a0), some (jm_i a1)], [jm_i 0], h1)) rfl ?_
        exact jm_E_ret rfl (by rw [H]; rfl)
      · replace H := H.2 hc
        refine jm_E_n 2 (x' := (17, [some (jm_r 7 0), some (jm_i a0), some (jm_i a1)], [jm_i 1], h1)) rfl ?_
        exact jm_E_ret rfl (by rw [H]; rfl)
set_option maxRecDepth 100000 in
theorem wp_FR_lengthRefusal {a0 : Int32} {a1 : Int32} {h : jm_H} {r : jm_Rs} (H :
  ∃ (v1 : Int32) (h1 : jm_H), m_FR_isMode a0 h v1 h1 ∧
  (v1 = 0 →
    r = (some (jm_i 1), h1)) ∧
  (¬ (v1 = 0) →
    (a1 < 4 →
      r = (some (jm_i 2), h1)) ∧
    (¬ (a1 < 4) →
      (a1 ≤ 96 →
        r = (some (jm_i 0), h1)) ∧
      (¬ (a1 ≤ 96) →
        r = (some (jm_i 2), h1))))) : jm_R 31 [jm_r 7 0, jm_i a0, jm_i a1] h r := by
  refine jm_R_of hz_31 (Nat.le_of_ble_eq_true rfl) ?_
  show jm_E cod_31 (0, [some (jm_r 7 0), some (jm_i a0), some (jm_i a1)], [], h) r
  refine jm_E_n 2 (x' := (2, [some (jm_r 7 0), some (jm_i a0), some (jm_i a1)], [jm_i a0, jm_r 7 0], h)) rfl ?_
  obtain ⟨v1, h1, hR, H⟩ := H
  refine jm_E_call rfl (Nat.le_of_ble_eq_true rfl) (Nat.le_of_ble_eq_true rfl) rfl hR trivial ?_
  refine jm_E_eq (x := (3, [some (jm_r 7 0), some (jm_i a0), some (jm_i a1)], [jm_i v1], h1)) rfl ?_
  refine jm_E_n 1 (x' := (if v1 = 0 then 4 else 6, [some (jm_r 7 0), some (jm_i a0), some (jm_i a1)], [], h1)) rfl ?_
  refine jm_E_ite (fun hc => ?_) (fun hc => ?_)
  · replace H := H.1 hc
    refine jm_E_n 1 (x' := (5, [some (jm_r 7 0), some (jm_i a0), some (jm_i a1)], [jm_i 1], h1)) rfl ?_
    exact jm_E_ret rfl (by rw [H]; rfl)
  · replace H := H.2 hc
    refine jm_E_n 3 (x' := (if a1 < 4 then 12 else 9, [some (jm_r 7 0), some (jm_i a0), some (jm_i a1)], [], h1)) rfl ?_
    refine jm_E_ite (fun hc => ?_) (fun hc => ?_)
    · replace H := H.1 hc
      refine jm_E_n 2 (x' := (15, [some (jm_r 7 0), some (jm_i a0), some (jm_i a1)], [jm_i 2], h1)) rfl ?_
      exact jm_E_ret rfl (by rw [H]; rfl)
    · replace H := H.2 hc
      refine jm_E_n 3 (x' := (if a1 ≤ 96 then 14 else 12, [some (jm_r 7 0), some (jm_i a0), some (jm_i a1)], [], h1)) rfl ?_
      refine jm_E_ite (fun hc => ?_) (fun hc => ?_)
      · replace H := H.1 hc
        refine jm_E_n 1 (x' := (15, [some (jm_r 7 0), some (jm_i a0), some (jm_i a1)], [jm_i 0], h1)) rfl ?_
        exact jm_E_ret rfl (by rw [H]; rfl)
      · replace H := H.2 hc
        refine jm_E_n 2 (x' := (15, [some (jm_r 7 0), some (jm_i a0), some (jm_i a1)], [jm_i 2], h1)) rfl ?_
        exact jm_E_ret rfl (by rw [H]; rfl)
set_option maxRecDepth 100000 in
theorem wp_FR_judgement_20 {x1 : Nat} {x2 : Int32} {x3 : Nat} {x4 : Int32} {x5 : Int32} {h : jm_H} {r : jm_Rs} (H :
  ((h.1 2 x1 2) ≤ x5 →
    ∃ (v3 : Int32) (h3 : jm_H), m_Flow_hasEmptyWindow x3 h v3 h3 ∧
    (v3 = 0 →
      ∃ (v4 : Int32) (h4 : jm_H), m_Flow_fits x3 h3 v4 h4 ∧
      (v4 = 0 →
        r = (some (jm_i (x4 ||| 16)), h4)) ∧
      (¬ (v4 = 0) →
        r = (some (jm_i x4), h4))) ∧
    (¬ (v3 = 0) →
      ∃ (v5 : Int32) (h5 : jm_H), m_Flow_fits x3 h3 v5 h5 ∧
      (v5 = 0 →
        r = (some (jm_i ((x4 ||| 8) ||| 16)), h5)) ∧
      (¬ (v5 = 0) →
        r = (some (jm_i (x4 ||| 8)), h5)))) ∧
  (¬ ((h.1 2 x1 2) ≤ x5) →
    jm_in x5 6 ∧
    ((h.1 24 x1 x5.toNatClampNeg) ≤ (h.1 1 x3 1) →
      ∃ (v6 : Int32) (h6 : jm_H), m_Mode_reach x1 x5 x2 h v6 h6 ∧
      jm_in x5 6 ∧
      (v6 ≤ (h6.1 25 x1 x5.toNatClampNeg) →
        l_FR_judgement_20 x1 x2 x3 x4 (x5 + 1) h6 r) ∧
      (¬ (v6 ≤ (h6.1 25 x1 x5.toNatClampNeg)) →
        l_FR_judgement_20 x1 x2 x3 (x4 ||| 4) (x5 + 1) h6 r)) ∧
    (¬ ((h.1 24 x1 x5.toNatClampNeg) ≤ (h.1 1 x3 1)) →
      ∃ (v7 : Int32) (h7 : jm_H), m_Mode_reach x1 x5 x2 h v7 h7 ∧
      jm_in x5 6 ∧
      (v7 ≤ (h7.1 25 x1 x5.toNatClampNeg) →
        l_FR_judgement_20 x1 x2 x3 (x4 ||| 2) (x5 + 1) h7 r) ∧
      (¬ (v7 ≤ (h7.1 25 x1 x5.toNatClampNeg)) →
        l_FR_judgement_20 x1 x2 x3 ((x4 ||| 2) ||| 4) (x5 + 1) h7 r)))) : l_FR_judgement_20 x1 x2 x3 x4 x5 h r := by
  refine jm_E_n 4 (x' := (if (h.1 2 x1 2) ≤ x5 then 50 else 24, [none, some (jm_r 2 x1), some (jm_i x2), some (jm_r 1 x3), some (jm_i x4), some (jm_i x5)], [], h)) rfl ?_
  refine jm_E_ite (fun hc => ?_) (fun hc => ?_)
  · replace H := H.1 hc
    refine jm_E_n 1 (x' := (51, [none, some (jm_r 2 x1), some (jm_i x2), some (jm_r 1 x3), some (jm_i x4), some (jm_i x5)], [jm_r 1 x3], h)) rfl ?_
    obtain ⟨v3, h3, hR, H⟩ := H
    refine jm_E_call rfl (Nat.le_of_ble_eq_true rfl) (Nat.le_of_ble_eq_true rfl) rfl hR trivial ?_
    refine jm_E_eq (x := (52, [none, some (jm_r 2 x1), some (jm_i x2), some (jm_r 1 x3), some (jm_i x4), some (jm_i x5)], [jm_i v3], h3)) rfl ?_
    refine jm_E_n 1 (x' := (if v3 = 0 then 57 else 53, [none, some (jm_r 2 x1), some (jm_i x2), some (jm_r 1 x3), some (jm_i x4), some (jm_i x5)], [], h3)) rfl ?_
    refine jm_E_ite (fun hc => ?_) (fun hc => ?_)
    · replace H := H.1 hc
      refine jm_E_n 1 (x' := (58, [none, some (jm_r 2 x1), some (jm_i x2), some (jm_r 1 x3), some (jm_i x4), some (jm_i x5)], [jm_r 1 x3], h3)) rfl ?_
      obtain ⟨v4, h4, hR, H⟩ := H
      refine jm_E_call rfl (Nat.le_of_ble_eq_true rfl) (Nat.le_of_ble_eq_true rfl) rfl hR trivial ?_
      refine jm_E_eq (x := (59, [none, some (jm_r 2 x1), some (jm_i x2), some (jm_r 1 x3), some (jm_i x4), some (jm_i x5)], [jm_i v4], h4)) rfl ?_
      refine jm_E_n 1 (x' := (if v4 = 0 then 60 else 64, [none, some (jm_r 2 x1), some (jm_i x2), some (jm_r 1 x3), some (jm_i x4), some (jm_i x5)], [], h4)) rfl ?_
      refine jm_E_ite (fun hc => ?_) (fun hc => ?_)
      · replace H := H.1 hc
        refine jm_E_n 5 (x' := (65, [none, some (jm_r 2 x1), some (jm_i x2), some (jm_r 1 x3), some (jm_i (x4 ||| 16)), some (jm_i x5)], [jm_i (x4 ||| 16)], h4)) rfl ?_
        exact jm_E_ret rfl (by rw [H]; rfl)
      · replace H := H.2 hc
        refine jm_E_n 1 (x' := (65, [none, some (jm_r 2 x1), some (jm_i x2), some (jm_r 1 x3), some (jm_i x4), some (jm_i x5)], [jm_i x4], h4)) rfl ?_
        exact jm_E_ret rfl (by rw [H]; rfl)
    · replace H := H.2 hc
      refine jm_E_n 5 (x' := (58, [none, some (jm_r 2 x1), some (jm_i x2), some (jm_r 1 x3), some (jm_i (x4 ||| 8)), some (jm_i x5)], [jm_r 1 x3], h3)) rfl ?_
      obtain ⟨v5, h5, hR, H⟩ := H
      refine jm_E_call rfl (Nat.le_of_ble_eq_true rfl) (Nat.le_of_ble_eq_true rfl) rfl hR trivial ?_
      refine jm_E_eq (x := (59, [none, some (jm_r 2 x1), some (jm_i x2), some (jm_r 1 x3), some (jm_i (x4 ||| 8)), some (jm_i x5)], [jm_i v5], h5)) rfl ?_
      refine jm_E_n 1 (x' := (if v5 = 0 then 60 else 64, [none, some (jm_r 2 x1), some (jm_i x2), some (jm_r 1 x3), some (jm_i (x4 ||| 8)), some (jm_i x5)], [], h5)) rfl ?_
      refine jm_E_ite (fun hc => ?_) (fun hc => ?_)
      · replace H := H.1 hc
        refine jm_E_n 5 (x' := (65, [none, some (jm_r 2 x1), some (jm_i x2), some (jm_r 1 x3), some (jm_i ((x4 ||| 8) ||| 16)), some (jm_i x5)], [jm_i ((x4 ||| 8) ||| 16)], h5)) rfl ?_
        exact jm_E_ret rfl (by rw [H]; rfl)
      · replace H := H.2 hc
        refine jm_E_n 1 (x' := (65, [none, some (jm_r 2 x1), some (jm_i x2), some (jm_r 1 x3), some (jm_i (x4 ||| 8)), some (jm_i x5)], [jm_i (x4 ||| 8)], h5)) rfl ?_
        exact jm_E_ret rfl (by rw [H]; rfl)
  · replace H := H.2 hc
    refine jm_E_n 3 (x' := (27, [none, some (jm_r 2 x1), some (jm_i x2), some (jm_r 1 x3), some (jm_i x4), some (jm_i x5)], [jm_i x5, jm_r 24 x1], h)) rfl ?_
    refine jm_E_iald rfl rfl H.1 ?_
    replace H := H.2
    refine jm_E_eq (x := (28, [none, some (jm_r 2 x1), some (jm_i x2), some (jm_r 1 x3), some (jm_i x4), some (jm_i x5)], [jm_i (h.1 24 x1 x5.toNatClampNeg)], h)) rfl ?_
    refine jm_E_n 3 (x' := (if (h.1 24 x1 x5.toNatClampNeg) ≤ (h.1 1 x3 1) then 35 else 31, [none, some (jm_r 2 x1), some (jm_i x2), some (jm_r 1 x3), some (jm_i x4), some (jm_i x5)], [], h)) rfl ?_
    refine jm_E_ite (fun hc => ?_) (fun hc => ?_)
    · replace H := H.1 hc
      refine jm_E_n 3 (x' := (38, [none, some (jm_r 2 x1), some (jm_i x2), some (jm_r 1 x3), some (jm_i x4), some (jm_i x5)], [jm_i x2, jm_i x5, jm_r 2 x1], h)) rfl ?_
      obtain ⟨v6, h6, hR, H⟩ := H
      refine jm_E_call rfl (Nat.le_of_ble_eq_true rfl) (Nat.le_of_ble_eq_true rfl) rfl hR trivial ?_
      refine jm_E_eq (x := (39, [none, some (jm_r 2 x1), some (jm_i x2), some (jm_r 1 x3), some (jm_i x4), some (jm_i x5)], [jm_i v6], h6)) rfl ?_
      refine jm_E_n 3 (x' := (42, [none, some (jm_r 2 x1), some (jm_i x2), some (jm_r 1 x3), some (jm_i x4), some (jm_i x5)], [jm_i x5, jm_r 25 x1, jm_i v6], h6)) rfl ?_
      refine jm_E_iald rfl rfl H.1 ?_
      replace H := H.2
      refine jm_E_eq (x := (43, [none, some (jm_r 2 x1), some (jm_i x2), some (jm_r 1 x3), some (jm_i x4), some (jm_i x5)], [jm_i (h6.1 25 x1 x5.toNatClampNeg), jm_i v6], h6)) rfl ?_
      refine jm_E_n 1 (x' := (if v6 ≤ (h6.1 25 x1 x5.toNatClampNeg) then 48 else 44, [none, some (jm_r 2 x1), some (jm_i x2), some (jm_r 1 x3), some (jm_i x4), some (jm_i x5)], [], h6)) rfl ?_
      refine jm_E_ite (fun hc => ?_) (fun hc => ?_)
      · replace H := H.1 hc
        refine jm_E_n 2 (x' := (20, [none, some (jm_r 2 x1), some (jm_i x2), some (jm_r 1 x3), some (jm_i x4), some (jm_i (x5 + 1))], [], h6)) rfl ?_
        exact H
      · replace H := H.2 hc
        refine jm_E_n 6 (x' := (20, [none, some (jm_r 2 x1), some (jm_i x2), some (jm_r 1 x3), some (jm_i (x4 ||| 4)), some (jm_i (x5 + 1))], [], h6)) rfl ?_
        exact H
    · replace H := H.2 hc
      refine jm_E_n 7 (x' := (38, [none, some (jm_r 2 x1), some (jm_i x2), some (jm_r 1 x3), some (jm_i (x4 ||| 2)), some (jm_i x5)], [jm_i x2, jm_i x5, jm_r 2 x1], h)) rfl ?_
      obtain ⟨v7, h7, hR, H⟩ := H
      refine jm_E_call rfl (Nat.le_of_ble_eq_true rfl) (Nat.le_of_ble_eq_true rfl) rfl hR trivial ?_
      refine jm_E_eq (x := (39, [none, some (jm_r 2 x1), some (jm_i x2), some (jm_r 1 x3), some (jm_i (x4 ||| 2)), some (jm_i x5)], [jm_i v7], h7)) rfl ?_
      refine jm_E_n 3 (x' := (42, [none, some (jm_r 2 x1), some (jm_i x2), some (jm_r 1 x3), some (jm_i (x4 ||| 2)), some (jm_i x5)], [jm_i x5, jm_r 25 x1, jm_i v7], h7)) rfl ?_
      refine jm_E_iald rfl rfl H.1 ?_
      replace H := H.2
      refine jm_E_eq (x := (43, [none, some (jm_r 2 x1), some (jm_i x2), some (jm_r 1 x3), some (jm_i (x4 ||| 2)), some (jm_i x5)], [jm_i (h7.1 25 x1 x5.toNatClampNeg), jm_i v7], h7)) rfl ?_
      refine jm_E_n 1 (x' := (if v7 ≤ (h7.1 25 x1 x5.toNatClampNeg) then 48 else 44, [none, some (jm_r 2 x1), some (jm_i x2), some (jm_r 1 x3), some (jm_i (x4 ||| 2)), some (jm_i x5)], [], h7)) rfl ?_
      refine jm_E_ite (fun hc => ?_) (fun hc => ?_)
      · replace H := H.1 hc
        refine jm_E_n 2 (x' := (20, [none, some (jm_r 2 x1), some (jm_i x2), some (jm_r 1 x3), some (jm_i (x4 ||| 2)), some (jm_i (x5 + 1))], [], h7)) rfl ?_
        exact H
      · replace H := H.2 hc
        refine jm_E_n 6 (x' := (20, [none, some (jm_r 2 x1), some (jm_i x2), some (jm_r 1 x3), some (jm_i ((x4 ||| 2) ||| 4)), some (jm_i (x5 + 1))], [], h7)) rfl ?_
        exact H
set_option maxRecDepth 100000 in
theorem wp_FR_judgement {a0 : Nat} {a1 : Int32} {h : jm_H} {r : jm_Rs} (H :
  ∃ h1 : jm_H, m_Flow_lay 3 a0 a1 (h.1 2 a0 1) h h1 ∧
  ∃ (v2 : Int32) (h2 : jm_H), m_Mode_isInRound a0 a1 h1 v2 h2 ∧
  (v2 = 0 →
    l_FR_judgement_20 a0 a1 3 1 0 h2 r) ∧
  (¬ (v2 = 0) →
    l_FR_judgement_20 a0 a1 3 0 0 h2 r)) : jm_R 33 [jm_r 7 0, jm_r 2 a0, jm_i a1] h r := by
  refine jm_R_of hz_33 (Nat.le_of_ble_eq_true rfl) ?_
  show jm_E cod_33 (0, [some (jm_r 7 0), some (jm_r 2 a0), some (jm_i a1), none, none, none], [], h) r
  refine jm_E_n 9 (x' := (9, [some (jm_r 7 0), some (jm_r 2 a0), some (jm_i a1), some (jm_r 1 3), none, none], [jm_i (h.1 2 a0 1), jm_i a1, jm_r 2 a0, jm_r 1 3], h)) rfl ?_
  obtain ⟨h1, hR, H⟩ := H
  refine jm_E_call rfl (Nat.le_of_ble_eq_true rfl) (Nat.le_of_ble_eq_true rfl) rfl hR trivial ?_
  refine jm_E_eq (x := (10, [some (jm_r 7 0), some (jm_r 2 a0), some (jm_i a1), some (jm_r 1 3), none, none], [], h1)) rfl ?_
  refine jm_E_n 2 (x' := (12, [some (jm_r 7 0), some (jm_r 2 a0), some (jm_i a1), some (jm_r 1 3), none, none], [jm_i a1, jm_r 2 a0], h1)) rfl ?_
  obtain ⟨v2, h2, hR, H⟩ := H
  refine jm_E_call rfl (Nat.le_of_ble_eq_true rfl) (Nat.le_of_ble_eq_true rfl) rfl hR trivial ?_
  refine jm_E_eq (x := (13, [some (jm_r 7 0), some (jm_r 2 a0), some (jm_i a1), some (jm_r 1 3), none, none], [jm_i v2], h2)) rfl ?_
  refine jm_E_n 1 (x' := (if v2 = 0 then 16 else 14, [some (jm_r 7 0), some (jm_r 2 a0), some (jm_i a1), some (jm_r 1 3), none, none], [], h2)) rfl ?_
  refine jm_E_ite (fun hc => ?_) (fun hc => ?_)
  · replace H := H.1 hc
    refine jm_E_n 4 (x' := (20, [some (jm_r 7 0), some (jm_r 2 a0), some (jm_i a1), some (jm_r 1 3), some (jm_i 1), some (jm_i 0)], [], h2)) rfl ?_
    exact jm_E_weak (jm_le_n (jm_le_s (jm_le_s (jm_le_s (jm_le_s (jm_le_s jm_le_nil)))))) H
  · replace H := H.2 hc
    refine jm_E_n 5 (x' := (20, [some (jm_r 7 0), some (jm_r 2 a0), some (jm_i a1), some (jm_r 1 3), some (jm_i 0), some (jm_i 0)], [], h2)) rfl ?_
    exact jm_E_weak (jm_le_n (jm_le_s (jm_le_s (jm_le_s (jm_le_s (jm_le_s jm_le_nil)))))) H
set_option maxRecDepth 100000 in
theorem wp_FR_judge {a0 : Int32} {a1 : Int32} {h : jm_H} {r : jm_Rs} (H :
  ∃ (v1 : Int32) (h1 : jm_H), m_FR_lengthRefusal a0 a1 h v1 h1 ∧
  (v1 = 0 →
    jm_in a0 3 ∧
    ∃ (v2 : Int32) (h2 : jm_H), m_FR_judgement (3 * (h1.2.1 7 0 1) + a0.toNatClampNeg) a1 h1 v2 h2 ∧
    ∃ (v3 : Int32) (h3 : jm_H), m_FR_answered v2 h2 v3 h3 ∧
    r = (some (jm_i v3), h3)) ∧
  (¬ (v1 = 0) →
    ∃ (v4 : Int32) (h4 : jm_H), m_FR_refused v1 h1 v4 h4 ∧
    r = (some (jm_i v4), h4))) : jm_R 20 [jm_r 7 0, jm_i a0, jm_i a1] h r := by
  refine jm_R_of hz_20 (Nat.le_of_ble_eq_true rfl) ?_
  show jm_E cod_20 (0, [some (jm_r 7 0), some (jm_i a0), some (jm_i a1), none], [], h) r
  refine jm_E_n 3 (x' := (3, [some (jm_r 7 0), some (jm_i a0), some (jm_i a1), none], [jm_i a1, jm_i a0, jm_r 7 0], h)) rfl ?_
  obtain ⟨v1, h1, hR, H⟩ := H
  refine jm_E_call rfl (Nat.le_of_ble_eq_true rfl) (Nat.le_of_ble_eq_true rfl) rfl hR trivial ?_
  refine jm_E_eq (x := (4, [some (jm_r 7 0), some (jm_i a0), some (jm_i a1), none], [jm_i v1], h1)) rfl ?_
  refine jm_E_n 3 (x' := (if v1 = 0 then 11 else 7, [some (jm_r 7 0), some (jm_i a0), some (jm_i a1), some (jm_i v1)], [], h1)) rfl ?_
  refine jm_E_ite (fun hc => ?_) (fun hc => ?_)
  · replace H := H.1 hc
    refine jm_E_n 6 (x' := (17, [some (jm_r 7 0), some (jm_i a0), some (jm_i a1), some (jm_i v1)], [jm_i a0, jm_r 28 (h1.2.1 7 0 1), jm_r 7 0, jm_r 7 0], h1)) rfl ?_
    refine jm_E_aald rfl rfl H.1 ?_
    replace H := H.2
    refine jm_E_eq (x := (18, [some (jm_r 7 0), some (jm_i a0), some (jm_i a1), some (jm_i v1)], [jm_r 2 (3 * (h1.2.1 7 0 1) + a0.toNatClampNeg), jm_r 7 0, jm_r 7 0], h1)) rfl ?_
    refine jm_E_n 1 (x' := (19, [some (jm_r 7 0), some (jm_i a0), some (jm_i a1), some (jm_i v1)], [jm_i a1, jm_r 2 (3 * (h1.2.1 7 0 1) + a0.toNatClampNeg), jm_r 7 0, jm_r 7 0], h1)) rfl ?_
    obtain ⟨v2, h2, hR, H⟩ := H
    refine jm_E_call rfl (Nat.le_of_ble_eq_true rfl) (Nat.le_of_ble_eq_true rfl) rfl hR trivial ?_
    refine jm_E_eq (x := (20, [some (jm_r 7 0), some (jm_i a0), some (jm_i a1), some (jm_i v1)], [jm_i v2, jm_r 7 0], h2)) rfl ?_
    obtain ⟨v3, h3, hR, H⟩ := H
    refine jm_E_call rfl (Nat.le_of_ble_eq_true rfl) (Nat.le_of_ble_eq_true rfl) rfl hR trivial ?_
    refine jm_E_eq (x := (21, [some (jm_r 7 0), some (jm_i a0), some (jm_i a1), some (jm_i v1)], [jm_i v3], h3)) rfl ?_
    exact jm_E_ret rfl (by rw [H]; rfl)
  · replace H := H.2 hc
    refine jm_E_n 2 (x' := (9, [some (jm_r 7 0), some (jm_i a0), some (jm_i a1), some (jm_i v1)], [jm_i v1, jm_r 7 0], h1)) rfl ?_
    obtain ⟨v4, h4, hR, H⟩ := H
    refine jm_E_call rfl (Nat.le_of_ble_eq_true rfl) (Nat.le_of_ble_eq_true rfl) rfl hR trivial ?_
    refine jm_E_eq (x := (10, [some (jm_r 7 0), some (jm_i a0), some (jm_i a1), some (jm_i v1)], [jm_i v4], h4)) rfl ?_
    refine jm_E_n 1 (x' := (21, [some (jm_r 7 0), some (jm_i a0), some (jm_i a1), some (jm_i v1)], [jm_i v4], h4)) rfl ?_
    exact jm_E_ret rfl (by rw [H]; rfl)
set_option maxRecDepth 100000 in
theorem wp_FR_spreadBy {a0 : Int32} {a1 : Int32} {h : jm_H} {r : jm_Rs} (H :
  jm_in a0 3 ∧
  jm_in a0 3 ∧
  ∃ h1 : jm_H, m_Flow_lay 3 (3 * (h.2.1 7 0 1) + a0.toNatClampNeg) a1 (h.1 2 (3 * (h.2.1 7 0 1) + a0.toNatClampNeg) 1) h h1 ∧
  ∃ (v2 : Int32) (h2 : jm_H), m_Flow_spread 3 h1 v2 h2 ∧
  r = (some (jm_i v2), h2)) : jm_R 32 [jm_r 7 0, jm_i a0, jm_i a1] h r := by
  refine jm_R_of hz_32 (Nat.le_of_ble_eq_true rfl) ?_
  show jm_E cod_32 (0, [some (jm_r 7 0), some (jm_i a0), some (jm_i a1)], [], h) r
  refine jm_E_n 7 (x' := (7, [some (jm_r 7 0), some (jm_i a0), some (jm_i a1)], [jm_i a0, jm_r 28 (h.2.1 7 0 1), jm_r 1 3], h)) rfl ?_
  refine jm_E_aald rfl rfl H.1 ?_
  replace H := H.2
  refine jm_E_eq (x := (8, [some (jm_r 7 0), some (jm_i a0), some (jm_i a1)], [jm_r 2 (3 * (h.2.1 7 0 1) + a0.toNatClampNeg), jm_r 1 3], h)) rfl ?_
  refine jm_E_n 5 (x' := (13, [some (jm_r 7 0), some (jm_i a0), some (jm_i a1)], [jm_i a0, jm_r 28 (h.2.1 7 0 1), jm_i a1, jm_r 2 (3 * (h.2.1 7 0 1) + a0.toNatClampNeg), jm_r 1 3], h)) rfl ?_
  refine jm_E_aald rfl rfl H.1 ?_
  replace H := H.2
  refine jm_E_eq (x := (14, [some (jm_r 7 0), some (jm_i a0), some (jm_i a1)], [jm_r 2 (3 * (h.2.1 7 0 1) + a0.toNatClampNeg), jm_i a1, jm_r 2 (3 * (h.2.1 7 0 1) + a0.toNatClampNeg), jm_r 1 3], h)) rfl ?_
  refine jm_E_n 1 (x' := (15, [some (jm_r 7 0), some (jm_i a0), some (jm_i a1)], [jm_i (h.1 2 (3 * (h.2.1 7 0 1) + a0.toNatClampNeg) 1), jm_i a1, jm_r 2 (3 * (h.2.1 7 0 1) + a0.toNatClampNeg), jm_r 1 3], h)) rfl ?_
  obtain ⟨h1, hR, H⟩ := H
  refine jm_E_call rfl (Nat.le_of_ble_eq_true rfl) (Nat.le_of_ble_eq_true rfl) rfl hR trivial ?_
  refine jm_E_eq (x := (16, [some (jm_r 7 0), some (jm_i a0), some (jm_i a1)], [], h1)) rfl ?_
  refine jm_E_n 3 (x' := (19, [some (jm_r 7 0), some (jm_i a0), some (jm_i a1)], [jm_r 1 3], h1)) rfl ?_
  obtain ⟨v2, h2, hR, H⟩ := H
  refine jm_E_call rfl (Nat.le_of_ble_eq_true rfl) (Nat.le_of_ble_eq_true rfl) rfl hR trivial ?_
  refine jm_E_eq (x := (20, [some (jm_r 7 0), some (jm_i a0), some (jm_i a1)], [jm_i v2], h2)) rfl ?_
  exact jm_E_ret rfl (by rw [H]; rfl)
set_option maxRecDepth 100000 in
theorem wp_FR_most {a0 : Int32} {a1 : Int32} {h : jm_H} {r : jm_Rs} (H :
  ∃ (v1 : Int32) (h1 : jm_H), m_FR_lengthRefusal a0 a1 h v1 h1 ∧
  (v1 = 0 →
    ∃ (v2 : Int32) (h2 : jm_H), m_FR_spreadBy a0 a1 h1 v2 h2 ∧
    ∃ (v3 : Int32) (h3 : jm_H), m_FR_answered v2 h2 v3 h3 ∧
    r = (some (jm_i v3), h3)) ∧
  (¬ (v1 = 0) →
    ∃ (v4 : Int32) (h4 : jm_H), m_FR_refused v1 h1 v4 h4 ∧
    r = (some (jm_i v4), h4))) : jm_R 21 [jm_r 7 0, jm_i a0, jm_i a1] h r := by
  refine jm_R_of hz_21 (Nat.le_of_ble_eq_true rfl) ?_
  show jm_E cod_21 (0, [some (jm_r 7 0), some (jm_i a0), some (jm_i a1), none], [], h) r
  refine jm_E_n 3 (x' := (3, [some (jm_r 7 0), some (jm_i a0), some (jm_i a1), none], [jm_i a1, jm_i a0, jm_r 7 0], h)) rfl ?_
  obtain ⟨v1, h1, hR, H⟩ := H
  refine jm_E_call rfl (Nat.le_of_ble_eq_true rfl) (Nat.le_of_ble_eq_true rfl) rfl hR trivial ?_
  refine jm_E_eq (x := (4, [some (jm_r 7 0), some (jm_i a0), some (jm_i a1), none], [jm_i v1], h1)) rfl ?_
  refine jm_E_n 3 (x' := (if v1 = 0 then 11 else 7, [some (jm_r 7 0), some (jm_i a0), some (jm_i a1), some (jm_i v1)], [], h1)) rfl ?_
  refine jm_E_ite (fun hc => ?_) (fun hc => ?_)
  · replace H := H.1 hc
    refine jm_E_n 4 (x' := (15, [some (jm_r 7 0), some (jm_i a0), some (jm_i a1), some (jm_i v1)], [jm_i a1, jm_i a0, jm_r 7 0, jm_r 7 0], h1)) rfl ?_
    obtain ⟨v2, h2, hR, H⟩ := H
    refine jm_E_call rfl (Nat.le_of_ble_eq_true rfl) (Nat.le_of_ble_eq_true rfl) rfl hR trivial ?_
    refine jm_E_eq (x := (16, [some (jm_r 7 0), some (jm_i a0), some (jm_i a1), some (jm_i v1)], [jm_i v2, jm_r 7 0], h2)) rfl ?_
    obtain ⟨v3, h3, hR, H⟩ := H
    refine jm_E_call rfl (Nat.le_of_ble_eq_true rfl) (Nat.le_of_ble_eq_true rfl) rfl hR trivial ?_
    refine jm_E_eq (x := (17, [some (jm_r 7 0), some (jm_i a0), some (jm_i a1), some (jm_i v1)], [jm_i v3], h3)) rfl ?_
    exact jm_E_ret rfl (by rw [H]; rfl)
  · replace H := H.2 hc
    refine jm_E_n 2 (x' := (9, [some (jm_r 7 0), some (jm_i a0), some (jm_i a1), some (jm_i v1)], [jm_i v1, jm_r 7 0], h1)) rfl ?_
    obtain ⟨v4, h4, hR, H⟩ := H
    refine jm_E_call rfl (Nat.le_of_ble_eq_true rfl) (Nat.le_of_ble_eq_true rfl) rfl hR trivial ?_
    refine jm_E_eq (x := (10, [some (jm_r 7 0), some (jm_i a0), some (jm_i a1), some (jm_i v1)], [jm_i v4], h4)) rfl ?_
    exact jm_E_ret rfl (by rw [H]; rfl)
set_option maxRecDepth 100000 in
theorem wp_FR_over {a0 : Int32} {a1 : Int32} {h : jm_H} {r : jm_Rs} (H :
  ∃ (v1 : Int32) (h1 : jm_H), m_FR_lengthRefusal a0 a1 h v1 h1 ∧
  (v1 = 0 →
    ∃ (v2 : Int32) (h2 : jm_H), m_FR_spreadBy a0 a1 h1 v2 h2 ∧
    ∃ (v3 : Int32) (h3 : jm_H), m_Flow_allCosts 3 h2 v3 h3 ∧
    ∃ (v4 : Int32) (h4 : jm_H), m_FR_answered (v3 - v2) h3 v4 h4 ∧
    r = (some (jm_i v4), h4)) ∧
  (¬ (v1 = 0) →
    ∃ (v5 : Int32) (h5 : jm_H), m_FR_refused v1 h1 v5 h5 ∧
    r = (some (jm_i v5), h5))) : jm_R 22 [jm_r 7 0, jm_i a0, jm_i a1] h r := by
  refine jm_R_of hz_22 (Nat.le_of_ble_eq_true rfl) ?_
  show jm_E cod_22 (0, [some (jm_r 7 0), some (jm_i a0), some (jm_i a1), none, none], [], h) r
  refine jm_E_n 3 (x' := (3, [some (jm_r 7 0), some (jm_i a0), some (jm_i a1), none, none], [jm_i a1, jm_i a0, jm_r 7 0], h)) rfl ?_
  obtain ⟨v1, h1, hR, H⟩ := H
  refine jm_E_call rfl (Nat.le_of_ble_eq_true rfl) (Nat.le_of_ble_eq_true rfl) rfl hR trivial ?_
  refine jm_E_eq (x := (4, [some (jm_r 7 0), some (jm_i a0), some (jm_i a1), none, none], [jm_i v1], h1)) rfl ?_
  refine jm_E_n 3 (x' := (if v1 = 0 then 11 else 7, [some (jm_r 7 0), some (jm_i a0), some (jm_i a1), some (jm_i v1), none], [], h1)) rfl ?_
  refine jm_E_ite (fun hc => ?_) (fun hc => ?_)
  · replace H := H.1 hc
    refine jm_E_n 3 (x' := (14, [some (jm_r 7 0), some (jm_i a0), some (jm_i a1), some (jm_i v1), none], [jm_i a1, jm_i a0, jm_r 7 0], h1)) rfl ?_
    obtain ⟨v2, h2, hR, H⟩ := H
    refine jm_E_call rfl (Nat.le_of_ble_eq_true rfl) (Nat.le_of_ble_eq_true rfl) rfl hR trivial ?_
    refine jm_E_eq (x := (15, [some (jm_r 7 0), some (jm_i a0), some (jm_i a1), some (jm_i v1), none], [jm_i v2], h2)) rfl ?_
    refine jm_E_n 5 (x' := (20, [some (jm_r 7 0), some (jm_i a0), some (jm_i a1), some (jm_i v1), some (jm_i v2)], [jm_r 1 3, jm_r 7 0], h2)) rfl ?_
    obtain ⟨v3, h3, hR, H⟩ := H
    refine jm_E_call rfl (Nat.le_of_ble_eq_true rfl) (Nat.le_of_ble_eq_true rfl) rfl hR trivial ?_
    refine jm_E_eq (x := (21, [some (jm_r 7 0), some (jm_i a0), some (jm_i a1), some (jm_i v1), some (jm_i v2)], [jm_i v3, jm_r 7 0], h3)) rfl ?_
    refine jm_E_n 2 (x' := (23, [some (jm_r 7 0), some (jm_i a0), some (jm_i a1), some (jm_i v1), some (jm_i v2)], [jm_i (v3 - v2), jm_r 7 0], h3)) rfl ?_
    obtain ⟨v4, h4, hR, H⟩ := H
    refine jm_E_call rfl (Nat.le_of_ble_eq_true rfl) (Nat.le_of_ble_eq_true rfl) rfl hR trivial ?_
    refine jm_E_eq (x := (24, [some (jm_r 7 0), some (jm_i a0), some (jm_i a1), some (jm_i v1), some (jm_i v2)], [jm_i v4], h4)) rfl ?_
    exact jm_E_ret rfl (by rw [H]; rfl)
  · replace H := H.2 hc
    refine jm_E_n 2 (x' := (9, [some (jm_r 7 0), some (jm_i a0), some (jm_i a1), some (jm_i v1), none], [jm_i v1, jm_r 7 0], h1)) rfl ?_
    obtain ⟨v5, h5, hR, H⟩ := H
    refine jm_E_call rfl (Nat.le_of_ble_eq_true rfl) (Nat.le_of_ble_eq_true rfl) rfl hR trivial ?_
    refine jm_E_eq (x := (10, [some (jm_r 7 0), some (jm_i a0), some (jm_i a1), some (jm_i v1), none], [jm_i v5], h5)) rfl ?_
    exact jm_E_ret rfl (by rw [H]; rfl)
set_option maxRecDepth 100000 in
theorem wp_Flow_window {o : Nat} {a0 : Int32} {h : jm_H} {r : jm_Rs} (H :
  ∃ (v1 : Int32) (h1 : jm_H), m_Flow_isEmpty o a0 h v1 h1 ∧
  (v1 = 0 →
    jm_in a0 24 ∧
    jm_in a0 24 ∧
    r = (some (jm_i ((1 <<< (((h1.1 17 o a0.toNatClampNeg) + 1) &&& 31)) - (1 <<< ((h1.1 16 o a0.toNatClampNeg) &&& 31)))), h1)) ∧
  (¬ (v1 = 0) →
    r = (some (jm_i 0), h1))) : jm_R 224 [jm_r 1 o, jm_i a0] h r := by
  refine jm_R_of hz_224 (Nat.le_of_ble_eq_true rfl) ?_
  show jm_E cod_224 (0, [some (jm_r 1 o), some (jm_i a0)], [], h) r
  refine jm_E_n 2 (x' := (2, [some (jm_r 1 o), some (jm_i a0)], [jm_i a0, jm_r 1 o], h)) rfl ?_
  obtain ⟨v1, h1, hR, H⟩ := H
  refine jm_E_call rfl (Nat.le_of_ble_eq_true rfl) (Nat.le_of_ble_eq_true rfl) rfl hR trivial ?_
  refine jm_E_eq (x := (3, [some (jm_r 1 o), some (jm_i a0)], [jm_i v1], h1)) rfl ?_
  refine jm_E_n 1 (x' := (if v1 = 0 then 6 else 4, [some (jm_r 1 o), some (jm_i a0)], [], h1)) rfl ?_
  refine jm_E_ite (fun hc => ?_) (fun hc => ?_)
  · replace H := H.1 hc
    refine jm_E_n 4 (x' := (10, [some (jm_r 1 o), some (jm_i a0)], [jm_i a0, jm_r 17 o, jm_i 1], h1)) rfl ?_
    refine jm_E_iald rfl rfl H.1 ?_
    replace H := H.2
    refine jm_E_eq (x := (11, [some (jm_r 1 o), some (jm_i a0)], [jm_i (h1.1 17 o a0.toNatClampNeg), jm_i 1], h1)) rfl ?_
    refine jm_E_n 7 (x' := (18, [some (jm_r 1 o), some (jm_i a0)], [jm_i a0, jm_r 16 o, jm_i 1, jm_i (1 <<< (((h1.1 17 o a0.toNatClampNeg) + 1) &&& 31))], h1)) rfl ?_
    refine jm_E_iald rfl rfl H.1 ?_
    replace H := H.2
    refine jm_E_eq (x := (19, [some (jm_r 1 o), some (jm_i a0)], [jm_i (h1.1 16 o a0.toNatClampNeg), jm_i 1, jm_i (1 <<< (((h1.1 17 o a0.toNatClampNeg) + 1) &&& 31))], h1)) rfl ?_
    refine jm_E_n 2 (x' := (21, [some (jm_r 1 o), some (jm_i a0)], [jm_i ((1 <<< (((h1.1 17 o a0.toNatClampNeg) + 1) &&& 31)) - (1 <<< ((h1.1 16 o a0.toNatClampNeg) &&& 31)))], h1)) rfl ?_
    exact jm_E_ret rfl (by rw [H]; rfl)
  · replace H := H.2 hc
    refine jm_E_n 2 (x' := (21, [some (jm_r 1 o), some (jm_i a0)], [jm_i 0], h1)) rfl ?_
    exact jm_E_ret rfl (by rw [H]; rfl)
