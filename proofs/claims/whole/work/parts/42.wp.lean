set_option maxRecDepth 100000 in
theorem wp_Flow_windowsOf_4 {x0 : Nat} {x1 : Int32} {x2 : Int32} {x3 : Int32} {h : jm_H} {r : jm_Rs} (H :
  ((h.1 1 x0 3) ≤ x3 →
    r = (some (jm_i x2), h)) ∧
  (¬ ((h.1 1 x0 3) ≤ x3) →
    (((x1 >>> (x3 &&& 31)) &&& 1) = 1 →
      ∃ (v1 : Int32) (h1 : jm_H), m_Flow_window x0 x3 h v1 h1 ∧
      l_Flow_windowsOf_4 x0 x1 (x2 ||| v1) (x3 + 1) h1 r) ∧
    (¬ (((x1 >>> (x3 &&& 31)) &&& 1) = 1) →
      l_Flow_windowsOf_4 x0 x1 x2 (x3 + 1) h r))) : l_Flow_windowsOf_4 x0 x1 x2 x3 h r := by
  refine jm_E_n 4 (x' := (if (h.1 1 x0 3) ≤ x3 then 23 else 8, [some (jm_r 1 x0), some (jm_i x1), some (jm_i x2), some (jm_i x3)], [], h)) rfl ?_
  refine jm_E_ite (fun hc => ?_) (fun hc => ?_)
  · replace H := H.1 hc
    refine jm_E_n 1 (x' := (24, [some (jm_r 1 x0), some (jm_i x1), some (jm_i x2), some (jm_i x3)], [jm_i x2], h)) rfl ?_
    exact jm_E_ret rfl (by rw [H]; rfl)
  · replace H := H.2 hc
    refine jm_E_n 7 (x' := (if ((x1 >>> (x3 &&& 31)) &&& 1) = 1 then 15 else 21, [some (jm_r 1 x0), some (jm_i x1), some (jm_i x2), some (jm_i x3)], [], h)) rfl ?_
    refine jm_E_ite (fun hc => ?_) (fun hc => ?_)
    · replace H := H.1 hc
      refine jm_E_n 3 (x' := (18, [some (jm_r 1 x0), some (jm_i x1), some (jm_i x2), some (jm_i x3)], [jm_i x3, jm_r 1 x0, jm_i x2], h)) rfl ?_
      obtain ⟨v1, h1, hR, H⟩ := H
      refine jm_E_call rfl (Nat.le_of_ble_eq_true rfl) (Nat.le_of_ble_eq_true rfl) rfl hR trivial ?_
      refine jm_E_eq (x := (19, [some (jm_r 1 x0), some (jm_i x1), some (jm_i x2), some (jm_i x3)], [jm_i v1, jm_i x2], h1)) rfl ?_
      refine jm_E_n 4 (x' := (4, [some (jm_r 1 x0), some (jm_i x1), some (jm_i (x2 ||| v1)), some (jm_i (x3 + 1))], [], h1)) rfl ?_
      exact H
    · replace H := H.2 hc
      refine jm_E_n 2 (x' := (4, [some (jm_r 1 x0), some (jm_i x1), some (jm_i x2), some (jm_i (x3 + 1))], [], h)) rfl ?_
      exact H
set_option maxRecDepth 100000 in
theorem wp_Flow_windowsOf {o : Nat} {a0 : Int32} {h : jm_H} {r : jm_Rs} (H :
  l_Flow_windowsOf_4 o a0 0 0 h r) : jm_R 225 [jm_r 1 o, jm_i a0] h r := by
  refine jm_R_of hz_225 (Nat.le_of_ble_eq_true rfl) ?_
  show jm_E cod_225 (0, [some (jm_r 1 o), some (jm_i a0), none, none], [], h) r
  refine jm_E_n 4 (x' := (4, [some (jm_r 1 o), some (jm_i a0), some (jm_i 0), some (jm_i 0)], [], h)) rfl ?_
  exact H
set_option maxRecDepth 100000 in
theorem wp_Flow_holdersOf_4 {x0 : Nat} {x1 : Int32} {x2 : Int32} {x3 : Int32} {h : jm_H} {r : jm_Rs} (H :
  ((h.1 1 x0 3) ≤ x3 →
    r = (some (jm_i x2), h)) ∧
  (¬ ((h.1 1 x0 3) ≤ x3) →
    jm_in x3 24 ∧
    l_Flow_holdersOf_13 x0 x1 x2 x3 (h.1 16 x0 x3.toNatClampNeg) h r)) : l_Flow_holdersOf_4 x0 x1 x2 x3 h r := by
  refine jm_E_n 4 (x' := (if (h.1 1 x0 3) ≤ x3 then 43 else 8, [some (jm_r 1 x0), some (jm_i x1), some (jm_i x2), some (jm_i x3), none], [], h)) rfl ?_
  refine jm_E_ite (fun hc => ?_) (fun hc => ?_)
  · replace H := H.1 hc
    refine jm_E_n 1 (x' := (44, [some (jm_r 1 x0), some (jm_i x1), some (jm_i x2), some (jm_i x3), none], [jm_i x2], h)) rfl ?_
    exact jm_E_ret rfl (by rw [H]; rfl)
  · replace H := H.2 hc
    refine jm_E_n 3 (x' := (11, [some (jm_r 1 x0), some (jm_i x1), some (jm_i x2), some (jm_i x3), none], [jm_i x3, jm_r 16 x0], h)) rfl ?_
    refine jm_E_iald rfl rfl H.1 ?_
    replace H := H.2
    refine jm_E_eq (x := (12, [some (jm_r 1 x0), some (jm_i x1), some (jm_i x2), some (jm_i x3), none], [jm_i (h.1 16 x0 x3.toNatClampNeg)], h)) rfl ?_
    refine jm_E_n 1 (x' := (13, [some (jm_r 1 x0), some (jm_i x1), some (jm_i x2), some (jm_i x3), some (jm_i (h.1 16 x0 x3.toNatClampNeg))], [], h)) rfl ?_
    exact H
set_option maxRecDepth 100000 in
theorem wp_Flow_holdersOf_13 {x0 : Nat} {x1 : Int32} {x2 : Int32} {x3 : Int32} {x4 : Int32} {h : jm_H} {r : jm_Rs} (H :
  jm_in x3 24 ∧
  ((h.1 17 x0 x3.toNatClampNeg) < x4 →
    l_Flow_holdersOf_4 x0 x1 x2 (x3 + 1) h r) ∧
  (¬ ((h.1 17 x0 x3.toNatClampNeg) < x4) →
    (((x1 >>> (x4 &&& 31)) &&& 1) = 1 →
      jm_in x3 24 ∧
      jm_in x4 24 ∧
      ((h.1 21 (24 * x0 + x3.toNatClampNeg) x4.toNatClampNeg) ≤ 0 →
        l_Flow_holdersOf_13 x0 x1 x2 x3 (x4 + 1) h r) ∧
      (¬ ((h.1 21 (24 * x0 + x3.toNatClampNeg) x4.toNatClampNeg) ≤ 0) →
        l_Flow_holdersOf_13 x0 x1 (x2 ||| (1 <<< (x3 &&& 31))) x3 (x4 + 1) h r)) ∧
    (¬ (((x1 >>> (x4 &&& 31)) &&& 1) = 1) →
      l_Flow_holdersOf_13 x0 x1 x2 x3 (x4 + 1) h r))) : l_Flow_holdersOf_13 x0 x1 x2 x3 x4 h r := by
  refine jm_E_n 4 (x' := (17, [some (jm_r 1 x0), some (jm_i x1), some (jm_i x2), some (jm_i x3), some (jm_i x4)], [jm_i x3, jm_r 17 x0, jm_i x4], h)) rfl ?_
  refine jm_E_iald rfl rfl H.1 ?_
  replace H := H.2
  refine jm_E_eq (x := (18, [some (jm_r 1 x0), some (jm_i x1), some (jm_i x2), some (jm_i x3), some (jm_i x4)], [jm_i (h.1 17 x0 x3.toNatClampNeg), jm_i x4], h)) rfl ?_
  refine jm_E_n 1 (x' := (if (h.1 17 x0 x3.toNatClampNeg) < x4 then 41 else 19, [some (jm_r 1 x0), some (jm_i x1), some (jm_i x2), some (jm_i x3), some (jm_i x4)], [], h)) rfl ?_
  refine jm_E_ite (fun hc => ?_) (fun hc => ?_)
  · replace H := H.1 hc
    refine jm_E_n 2 (x' := (4, [some (jm_r 1 x0), some (jm_i x1), some (jm_i x2), some (jm_i (x3 + 1)), some (jm_i x4)], [], h)) rfl ?_
    exact jm_E_weak (jm_le_s (jm_le_s (jm_le_s (jm_le_s (jm_le_n jm_le_nil))))) H
  · replace H := H.2 hc
    refine jm_E_n 7 (x' := (if ((x1 >>> (x4 &&& 31)) &&& 1) = 1 then 26 else 39, [some (jm_r 1 x0), some (jm_i x1), some (jm_i x2), some (jm_i x3), some (jm_i x4)], [], h)) rfl ?_
    refine jm_E_ite (fun hc => ?_) (fun hc => ?_)
    · replace H := H.1 hc
      refine jm_E_n 3 (x' := (29, [some (jm_r 1 x0), some (jm_i x1), some (jm_i x2), some (jm_i x3), some (jm_i x4)], [jm_i x3, jm_r 20 x0], h)) rfl ?_
      refine jm_E_aald rfl rfl H.1 ?_
      replace H := H.2
      refine jm_E_eq (x := (30, [some (jm_r 1 x0), some (jm_i x1), some (jm_i x2), some (jm_i x3), some (jm_i x4)], [jm_r 21 (24 * x0 + x3.toNatClampNeg)], h)) rfl ?_
      refine jm_E_n 1 (x' := (31, [some (jm_r 1 x0), some (jm_i x1), some (jm_i x2), some (jm_i x3), some (jm_i x4)], [jm_i x4, jm_r 21 (24 * x0 + x3.toNatClampNeg)], h)) rfl ?_
      refine jm_E_iald rfl rfl H.1 ?_
      replace H := H.2
      refine jm_E_eq (x := (32, [some (jm_r 1 x0), some (jm_i x1), some (jm_i x2), some (jm_i x3), some (jm_i x4)], [jm_i (h.1 21 (24 * x0 + x3.toNatClampNeg) x4.toNatClampNeg)], h)) rfl ?_
      refine jm_E_n 1 (x' := (if (h.1 21 (24 * x0 + x3.toNatClampNeg) x4.toNatClampNeg) ≤ 0 then 39 else 33, [some (jm_r 1 x0), some (jm_i x1), some (jm_i x2), some (jm_i x3), some (jm_i x4)], [], h)) rfl ?_
      refine jm_E_ite (fun hc => ?_) (fun hc => ?_)
      · replace H := H.1 hc
        refine jm_E_n 2 (x' := (13, [some (jm_r 1 x0), some (jm_i x1), some (jm_i x2), some (jm_i x3), some (jm_i (x4 + 1))], [], h)) rfl ?_
        exact H
      · replace H := H.2 hc
        refine jm_E_n 8 (x' := (13, [some (jm_r 1 x0), some (jm_i x1), some (jm_i (x2 ||| (1 <<< (x3 &&& 31)))), some (jm_i x3), some (jm_i (x4 + 1))], [], h)) rfl ?_
        exact H
    · replace H := H.2 hc
      refine jm_E_n 2 (x' := (13, [some (jm_r 1 x0), some (jm_i x1), some (jm_i x2), some (jm_i x3), some (jm_i (x4 + 1))], [], h)) rfl ?_
      exact H
set_option maxRecDepth 100000 in
theorem wp_Flow_holdersOf {o : Nat} {a0 : Int32} {h : jm_H} {r : jm_Rs} (H :
  l_Flow_holdersOf_4 o a0 0 0 h r) : jm_R 226 [jm_r 1 o, jm_i a0] h r := by
  refine jm_R_of hz_226 (Nat.le_of_ble_eq_true rfl) ?_
  show jm_E cod_226 (0, [some (jm_r 1 o), some (jm_i a0), none, none, none], [], h) r
  refine jm_E_n 4 (x' := (4, [some (jm_r 1 o), some (jm_i a0), some (jm_i 0), some (jm_i 0), none], [], h)) rfl ?_
  exact H
set_option maxRecDepth 100000 in
theorem wp_Flow_cut_4 {x0 : Nat} {x1 : Int32} {x2 : Int32} {h : jm_H} {r : jm_Rs} (H :
  ((h.1 1 x0 3) ≤ x2 →
    l_Flow_cut_25 x0 x1 0 0 h r) ∧
  (¬ ((h.1 1 x0 3) ≤ x2) →
    jm_in x2 24 ∧
    ((h.1 18 x0 x2.toNatClampNeg) ≤ 0 →
      l_Flow_cut_4 x0 x1 (x2 + 1) h r) ∧
    (¬ ((h.1 18 x0 x2.toNatClampNeg) ≤ 0) →
      l_Flow_cut_4 x0 (x1 ||| (1 <<< (x2 &&& 31))) (x2 + 1) h r))) : l_Flow_cut_4 x0 x1 x2 h r := by
  refine jm_E_n 4 (x' := (if (h.1 1 x0 3) ≤ x2 then 21 else 8, [some (jm_r 1 x0), some (jm_i x1), some (jm_i x2), none, none], [], h)) rfl ?_
  refine jm_E_ite (fun hc => ?_) (fun hc => ?_)
  · replace H := H.1 hc
    refine jm_E_n 4 (x' := (25, [some (jm_r 1 x0), some (jm_i x1), some (jm_i 0), some (jm_i 0), none], [], h)) rfl ?_
    exact H
  · replace H := H.2 hc
    refine jm_E_n 3 (x' := (11, [some (jm_r 1 x0), some (jm_i x1), some (jm_i x2), none, none], [jm_i x2, jm_r 18 x0], h)) rfl ?_
    refine jm_E_iald rfl rfl H.1 ?_
    replace H := H.2
    refine jm_E_eq (x := (12, [some (jm_r 1 x0), some (jm_i x1), some (jm_i x2), none, none], [jm_i (h.1 18 x0 x2.toNatClampNeg)], h)) rfl ?_
    refine jm_E_n 1 (x' := (if (h.1 18 x0 x2.toNatClampNeg) ≤ 0 then 19 else 13, [some (jm_r 1 x0), some (jm_i x1), some (jm_i x2), none, none], [], h)) rfl ?_
    refine jm_E_ite (fun hc => ?_) (fun hc => ?_)
    · replace H := H.1 hc
      refine jm_E_n 2 (x' := (4, [some (jm_r 1 x0), some (jm_i x1), some (jm_i (x2 + 1)), none, none], [], h)) rfl ?_
      exact H
    · replace H := H.2 hc
      refine jm_E_n 8 (x' := (4, [some (jm_r 1 x0), some (jm_i (x1 ||| (1 <<< (x2 &&& 31)))), some (jm_i (x2 + 1)), none, none], [], h)) rfl ?_
      exact H
set_option maxRecDepth 100000 in
theorem wp_Flow_cut_25 {x0 : Nat} {x1 : Int32} {x2 : Int32} {x3 : Int32} {h : jm_H} {r : jm_Rs} (H :
  ((h.1 1 x0 3) < x3 →
    r = (some (jm_i x2), h)) ∧
  (¬ ((h.1 1 x0 3) < x3) →
    ∃ (v1 : Int32) (h1 : jm_H), m_Flow_windowsOf x0 x1 h v1 h1 ∧
    (v1 = x2 →
      r = (some (jm_i v1), h1)) ∧
    (¬ (v1 = x2) →
      ∃ (v2 : Int32) (h2 : jm_H), m_Flow_holdersOf x0 v1 h1 v2 h2 ∧
      l_Flow_cut_25 x0 (x1 ||| v2) v1 (x3 + 1) h2 r))) : l_Flow_cut_25 x0 x1 x2 x3 h r := by
  refine jm_E_n 4 (x' := (if (h.1 1 x0 3) < x3 then 48 else 29, [some (jm_r 1 x0), some (jm_i x1), some (jm_i x2), some (jm_i x3), none], [], h)) rfl ?_
  refine jm_E_ite (fun hc => ?_) (fun hc => ?_)
  · replace H := H.1 hc
    refine jm_E_n 1 (x' := (49, [some (jm_r 1 x0), some (jm_i x1), some (jm_i x2), some (jm_i x3), none], [jm_i x2], h)) rfl ?_
    exact jm_E_ret rfl (by rw [H]; rfl)
  · replace H := H.2 hc
    refine jm_E_n 4 (x' := (33, [some (jm_r 1 x0), some (jm_i x1), some (jm_i x2), some (jm_i x3), some (jm_i x2)], [jm_i x1, jm_r 1 x0], h)) rfl ?_
    obtain ⟨v1, h1, hR, H⟩ := H
    refine jm_E_call rfl (Nat.le_of_ble_eq_true rfl) (Nat.le_of_ble_eq_true rfl) rfl hR trivial ?_
    refine jm_E_eq (x := (34, [some (jm_r 1 x0), some (jm_i x1), some (jm_i x2), some (jm_i x3), some (jm_i x2)], [jm_i v1], h1)) rfl ?_
    refine jm_E_n 4 (x' := (if v1 = x2 then 38 else 40, [some (jm_r 1 x0), some (jm_i x1), some (jm_i v1), some (jm_i x3), some (jm_i x2)], [], h1)) rfl ?_
    refine jm_E_ite (fun hc => ?_) (fun hc => ?_)
    · replace H := H.1 hc
      refine jm_E_n 1 (x' := (39, [some (jm_r 1 x0), some (jm_i x1), some (jm_i v1), some (jm_i x3), some (jm_i x2)], [jm_i v1], h1)) rfl ?_
      exact jm_E_ret rfl (by rw [H]; rfl)
    · replace H := H.2 hc
      refine jm_E_n 3 (x' := (43, [some (jm_r 1 x0), some (jm_i x1), some (jm_i v1), some (jm_i x3), some (jm_i x2)], [jm_i v1, jm_r 1 x0, jm_i x1], h1)) rfl ?_
      obtain ⟨v2, h2, hR, H⟩ := H
      refine jm_E_call rfl (Nat.le_of_ble_eq_true rfl) (Nat.le_of_ble_eq_true rfl) rfl hR trivial ?_
      refine jm_E_eq (x := (44, [some (jm_r 1 x0), some (jm_i x1), some (jm_i v1), some (jm_i x3), some (jm_i x2)], [jm_i v2, jm_i x1], h2)) rfl ?_
      refine jm_E_n 4 (x' := (25, [some (jm_r 1 x0), some (jm_i (x1 ||| v2)), some (jm_i v1), some (jm_i (x3 + 1)), some (jm_i x2)], [], h2)) rfl ?_
      exact jm_E_weak (jm_le_s (jm_le_s (jm_le_s (jm_le_s (jm_le_n jm_le_nil))))) H
set_option maxRecDepth 100000 in
theorem wp_Flow_cut {o : Nat} {h : jm_H} {r : jm_Rs} (H :
  l_Flow_cut_4 o 0 0 h r) : jm_R 223 [jm_r 1 o] h r := by
  refine jm_R_of hz_223 (Nat.le_of_ble_eq_true rfl) ?_
  show jm_E cod_223 (0, [some (jm_r 1 o), none, none, none, none], [], h) r
  refine jm_E_n 4 (x' := (4, [some (jm_r 1 o), some (jm_i 0), some (jm_i 0), none, none], [], h)) rfl ?_
  exact H
set_option maxRecDepth 100000 in
theorem wp_FR_cutFrames {a0 : Int32} {a1 : Int32} {h : jm_H} {r : jm_Rs} (H :
  ∃ (v1 : Int32) (h1 : jm_H), m_FR_lengthRefusal a0 a1 h v1 h1 ∧
  (v1 = 0 →
    ∃ (v2 : Int32) (h2 : jm_H), m_FR_spreadBy a0 a1 h1 v2 h2 ∧
    ∃ (v3 : Int32) (h3 : jm_H), m_Flow_cut 3 h2 v3 h3 ∧
    ∃ (v4 : Int32) (h4 : jm_H), m_FR_answered v3 h3 v4 h4 ∧
    r = (some (jm_i v4), h4)) ∧
  (¬ (v1 = 0) →
    ∃ (v5 : Int32) (h5 : jm_H), m_FR_refused v1 h1 v5 h5 ∧
    r = (some (jm_i v5), h5))) : jm_R 23 [jm_r 7 0, jm_i a0, jm_i a1] h r := by
  refine jm_R_of hz_23 (Nat.le_of_ble_eq_true rfl) ?_
  show jm_E cod_23 (0, [some (jm_r 7 0), some (jm_i a0), some (jm_i a1), none], [], h) r
  refine jm_E_n 3 (x' := (3, [some (jm_r 7 0), some (jm_i a0), some (jm_i a1), none], [jm_i a1, jm_i a0, jm_r 7 0], h)) rfl ?_
  obtain ⟨v1, h1, hR, H⟩ := H
  refine jm_E_call rfl (Nat.le_of_ble_eq_true rfl) (Nat.le_of_ble_eq_true rfl) rfl hR trivial ?_
  refine jm_E_eq (x := (4, [some (jm_r 7 0), some (jm_i a0), some (jm_i a1), none], [jm_i v1], h1)) rfl ?_
  refine jm_E_n 3 (x' := (if v1 = 0 then 11 else 7, [some (jm_r 7 0), some (jm_i a0), some (jm_i a1), some (jm_i v1)], [], h1)) rfl ?_
  refine jm_E_ite (fun hc => ?_) (fun hc => ?_)
  · replace H := H.1 hc
    refine jm_E_n 3 (x' := (14, [some (jm_r 7 0), some (jm_i a0), some (jm_i a1), some (jm_i v1)], [jm_i a1, jm_i a0, jm_r 7 0], h1)) rfl ?_
    obtain ⟨v2, h2, hR, H⟩ := H
    refine jm_E_call rfl (Nat.le_of_ble_eq_true rfl) (Nat.le_of_ble_eq_true rfl) rfl hR trivial ?_
    refine jm_E_eq (x := (15, [some (jm_r 7 0), some (jm_i a0), some (jm_i a1), some (jm_i v1)], [jm_i v2], h2)) rfl ?_
    refine jm_E_n 5 (x' := (20, [some (jm_r 7 0), some (jm_i a0), some (jm_i a1), some (jm_i v1)], [jm_r 1 3, jm_r 7 0], h2)) rfl ?_
    obtain ⟨v3, h3, hR, H⟩ := H
    refine jm_E_call rfl (Nat.le_of_ble_eq_true rfl) (Nat.le_of_ble_eq_true rfl) rfl hR trivial ?_
    refine jm_E_eq (x := (21, [some (jm_r 7 0), some (jm_i a0), some (jm_i a1), some (jm_i v1)], [jm_i v3, jm_r 7 0], h3)) rfl ?_
    obtain ⟨v4, h4, hR, H⟩ := H
    refine jm_E_call rfl (Nat.le_of_ble_eq_true rfl) (Nat.le_of_ble_eq_true rfl) rfl hR trivial ?_
    refine jm_E_eq (x := (22, [some (jm_r 7 0), some (jm_i a0), some (jm_i a1), some (jm_i v1)], [jm_i v4], h4)) rfl ?_
    exact jm_E_ret rfl (by rw [H]; rfl)
  · replace H := H.2 hc
    refine jm_E_n 2 (x' := (9, [some (jm_r 7 0), some (jm_i a0), some (jm_i a1), some (jm_i v1)], [jm_i v1, jm_r 7 0], h1)) rfl ?_
    obtain ⟨v5, h5, hR, H⟩ := H
    refine jm_E_call rfl (Nat.le_of_ble_eq_true rfl) (Nat.le_of_ble_eq_true rfl) rfl hR trivial ?_
    refine jm_E_eq (x := (10, [some (jm_r 7 0), some (jm_i a0), some (jm_i a1), some (jm_i v1)], [jm_i v5], h5)) rfl ?_
    exact jm_E_ret rfl (by rw [H]; rfl)
set_option maxRecDepth 100000 in
theorem wp_Flow_jobsWithin_4 {x0 : Nat} {x1 : Int32} {x2 : Int32} {x3 : Int32} {h : jm_H} {r : jm_Rs} (H :
  ((h.1 1 x0 3) ≤ x3 →
    r = (some (jm_i x2), h)) ∧
  (¬ ((h.1 1 x0 3) ≤ x3) →
    ∃ (v1 : Int32) (h1 : jm_H), m_Flow_window x0 x3 h v1 h1 ∧
    ((v1 &&& (x1 ^^^ (-1))) = 0 →
      l_Flow_jobsWithin_4 x0 x1 (x2 ||| (1 <<< (x3 &&& 31))) (x3 + 1) h1 r) ∧
    (¬ ((v1 &&& (x1 ^^^ (-1))) = 0) →
      l_Flow_jobsWithin_4 x0 x1 x2 (x3 + 1) h1 r))) : l_Flow_jobsWithin_4 x0 x1 x2 x3 h r := by
  refine jm_E_n 4 (x' := (if (h.1 1 x0 3) ≤ x3 then 24 else 8, [some (jm_r 1 x0), some (jm_i x1), some (jm_i x2), some (jm_i x3)], [], h)) rfl ?_
  refine jm_E_ite (fun hc => ?_) (fun hc => ?_)
  · replace H := H.1 hc
    refine jm_E_n 1 (x' := (25, [some (jm_r 1 x0), some (jm_i x1), some (jm_i x2), some (jm_i x3)], [jm_i x2], h)) rfl ?_
    exact jm_E_ret rfl (by rw [H]; rfl)
  · replace H := H.2 hc
    refine jm_E_n 2 (x' := (10, [some (jm_r 1 x0), some (jm_i x1), some (jm_i x2), some (jm_i x3)], [jm_i x3, jm_r 1 x0], h)) rfl ?_
    obtain ⟨v1, h1, hR, H⟩ := H
    refine jm_E_call rfl (Nat.le_of_ble_eq_true rfl) (Nat.le_of_ble_eq_true rfl) rfl hR trivial ?_
    refine jm_E_eq (x := (11, [some (jm_r 1 x0), some (jm_i x1), some (jm_i x2), some (jm_i x3)], [jm_i v1], h1)) rfl ?_
    refine jm_E_n 5 (x' := (if (v1 &&& (x1 ^^^ (-1))) = 0 then 16 else 22, [some (jm_r 1 x0), some (jm_i x1), some (jm_i x2), some (jm_i x3)], [], h1)) rfl ?_
    refine jm_E_ite (fun hc => ?_) (fun hc => ?_)
    · replace H := H.1 hc
      refine jm_E_n 8 (x' := (4, [some (jm_r 1 x0), some (jm_i x1), some (jm_i (x2 ||| (1 <<< (x3 &&& 31)))), some (jm_i (x3 + 1))], [], h1)) rfl ?_
      exact H
    · replace H := H.2 hc
      refine jm_E_n 2 (x' := (4, [some (jm_r 1 x0), some (jm_i x1), some (jm_i x2), some (jm_i (x3 + 1))], [], h1)) rfl ?_
      exact H
set_option maxRecDepth 100000 in
theorem wp_Flow_jobsWithin {o : Nat} {a0 : Int32} {h : jm_H} {r : jm_Rs} (H :
  l_Flow_jobsWithin_4 o a0 0 0 h r) : jm_R 227 [jm_r 1 o, jm_i a0] h r := by
  refine jm_R_of hz_227 (Nat.le_of_ble_eq_true rfl) ?_
  show jm_E cod_227 (0, [some (jm_r 1 o), some (jm_i a0), none, none], [], h) r
  refine jm_E_n 4 (x' := (4, [some (jm_r 1 o), some (jm_i a0), some (jm_i 0), some (jm_i 0)], [], h)) rfl ?_
  exact H
set_option maxRecDepth 100000 in
theorem wp_FR_cutJobs {a0 : Int32} {a1 : Int32} {h : jm_H} {r : jm_Rs} (H :
  ∃ (v1 : Int32) (h1 : jm_H), m_FR_lengthRefusal a0 a1 h v1 h1 ∧
  (v1 = 0 →
    ∃ (v2 : Int32) (h2 : jm_H), m_FR_spreadBy a0 a1 h1 v2 h2 ∧
    ∃ (v3 : Int32) (h3 : jm_H), m_Flow_cut 3 h2 v3 h3 ∧
    ∃ (v4 : Int32) (h4 : jm_H), m_Flow_jobsWithin 3 v3 h3 v4 h4 ∧
    ∃ (v5 : Int32) (h5 : jm_H), m_FR_answered v4 h4 v5 h5 ∧
    r = (some (jm_i v5), h5)) ∧
  (¬ (v1 = 0) →
    ∃ (v6 : Int32) (h6 : jm_H), m_FR_refused v1 h1 v6 h6 ∧
    r = (some (jm_i v6), h6))) : jm_R 24 [jm_r 7 0, jm_i a0, jm_i a1] h r := by
  refine jm_R_of hz_24 (Nat.le_of_ble_eq_true rfl) ?_
  show jm_E cod_24 (0, [some (jm_r 7 0), some (jm_i a0), some (jm_i a1), none], [], h) r
  refine jm_E_n 3 (x' := (3, [some (jm_r 7 0), some (jm_i a0), some (jm_i a1), none], [jm_i a1, jm_i a0, jm_r 7 0], h)) rfl ?_
  obtain ⟨v1, h1, hR, H⟩ := H
  refine jm_E_call rfl (Nat.le_of_ble_eq_true rfl) (Nat.le_of_ble_eq_true rfl) rfl hR trivial ?_
  refine jm_E_eq (x := (4, [some (jm_r 7 0), some (jm_i a0), some (jm_i a1), none], [jm_i v1], h1)) rfl ?_
  refine jm_E_n 3 (x' := (if v1 = 0 then 11 else 7, [some (jm_r 7 0), some (jm_i a0), some (jm_i a1), some (jm_i v1)], [], h1)) rfl ?_
  refine jm_E_ite (fun hc => ?_) (fun hc => ?_)
  · replace H := H.1 hc
    refine jm_E_n 3 (x' := (14, [some (jm_r 7 0), some (jm_i a0), some (jm_i a1), some (jm_i v1)], [jm_i a1, jm_i a0, jm_r 7 0], h1)) rfl ?_
    obtain ⟨v2, h2, hR, H⟩ := H
    refine jm_E_call rfl (Nat.le_of_ble_eq_true rfl) (Nat.le_of_ble_eq_true rfl) rfl hR trivial ?_
    refine jm_E_eq (x := (15, [some (jm_r 7 0), some (jm_i a0), some (jm_i a1), some (jm_i v1)], [jm_i v2], h2)) rfl ?_
    refine jm_E_n 8 (x' := (23, [some (jm_r 7 0), some (jm_i a0), some (jm_i a1), some (jm_i v1)], [jm_r 1 3, jm_r 1 3, jm_r 7 0], h2)) rfl ?_
    obtain ⟨v3, h3, hR, H⟩ := H
    refine jm_E_call rfl (Nat.le_of_ble_eq_true rfl) (Nat.le_of_ble_eq_true rfl) rfl hR trivial ?_
    refine jm_E_eq (x := (24, [some (jm_r 7 0), some (jm_i a0), some (jm_i a1), some (jm_i v1)], [jm_i v3, jm_r 1 3, jm_r 7 0], h3)) rfl ?_
    obtain ⟨v4, h4, hR, H⟩ := H
    refine jm_E_call rfl (Nat.le_of_ble_eq_true rfl) (Nat.le_of_ble_eq_true rfl) rfl hR trivial ?_
    refine jm_E_eq (x := (25, [some (jm_r 7 0), some (jm_i a0), some (jm_i a1), some (jm_i v1)], [jm_i v4, jm_r 7 0], h4)) rfl ?_
    obtain ⟨v5, h5, hR, H⟩ := H
    refine jm_E_call rfl (Nat.le_of_ble_eq_true rfl) (Nat.le_of_ble_eq_true rfl) rfl hR trivial ?_
    refine jm_E_eq (x := (26, [some (jm_r 7 0), some (jm_i a0), some (jm_i a1), some (jm_i v1)], [jm_i v5], h5)) rfl ?_
    exact jm_E_ret rfl (by rw [H]; rfl)
  · replace H := H.2 hc
    refine jm_E_n 2 (x' := (9, [some (jm_r 7 0), some (jm_i a0), some (jm_i a1), some (jm_i v1)], [jm_i v1, jm_r 7 0], h1)) rfl ?_
    obtain ⟨v6, h6, hR, H⟩ := H
    refine jm_E_call rfl (Nat.le_of_ble_eq_true rfl) (Nat.le_of_ble_eq_true rfl) rfl hR trivial ?_
    refine jm_E_eq (x := (10, [some (jm_r 7 0), some (jm_i a0), some (jm_i a1), some (jm_i v1)], [jm_i v6], h6)) rfl ?_
    exact jm_E_ret rfl (by rw [H]; rfl)
set_option maxRecDepth 100000 in
theorem wp_FR_isGood {a0 : Nat} {a1 : Int32} {h : jm_H} {r : jm_Rs} (H :
  ∃ (v1 : Int32) (h1 : jm_H), m_Mode_isInRound a0 a1 h v1 h1 ∧
  (v1 = 0 →
    r = (some (jm_i 0), h1)) ∧
  (¬ (v1 = 0) →
    ∃ h2 : jm_H, m_Flow_lay 3 a0 a1 (h1.1 2 a0 1) h1 h2 ∧
    ∃ (v3 : Int32) (h3 : jm_H), m_Flow_isGoodIn 3 a0 h2 v3 h3 ∧
    narrow .boolean (.int v3) = .int v3 ∧ r = (some (jm_i v3), h3))) : jm_R 34 [jm_r 7 0, jm_r 2 a0, jm_i a1] h r := by
  refine jm_R_of hz_34 (Nat.le_of_ble_eq_true rfl) ?_
  show jm_E cod_34 (0, [some (jm_r 7 0), some (jm_r 2 a0), some (jm_i a1)], [], h) r
  refine jm_E_n 2 (x' := (2, [some (jm_r 7 0), some (jm_r 2 a0), some (jm_i a1)], [jm_i a1, jm_r 2 a0], h)) rfl ?_
  obtain ⟨v1, h1, hR, H⟩ := H
  refine jm_E_call rfl (Nat.le_of_ble_eq_true rfl) (Nat.le_of_ble_eq_true rfl) rfl hR trivial ?_
  refine jm_E_eq (x := (3, [some (jm_r 7 0), some (jm_r 2 a0), some (jm_i a1)], [jm_i v1], h1)) rfl ?_
  refine jm_E_n 1 (x' := (if v1 = 0 then 4 else 6, [some (jm_r 7 0), some (jm_r 2 a0), some (jm_i a1)], [], h1)) rfl ?_
  refine jm_E_ite (fun hc => ?_) (fun hc => ?_)
  · replace H := H.1 hc
    refine jm_E_n 1 (x' := (5, [some (jm_r 7 0), some (jm_r 2 a0), some (jm_i a1)], [jm_i 0], h1)) rfl ?_
    exact jm_E_ret rfl (by rw [H]; rfl)
  · replace H := H.2 hc
    refine jm_E_n 7 (x' := (13, [some (jm_r 7 0), some (jm_r 2 a0), some (jm_i a1)], [jm_i (h1.1 2 a0 1), jm_i a1, jm_r 2 a0, jm_r 1 3], h1)) rfl ?_
    obtain ⟨h2, hR, H⟩ := H
    refine jm_E_call rfl (Nat.le_of_ble_eq_true rfl) (Nat.le_of_ble_eq_true rfl) rfl hR trivial ?_
    refine jm_E_eq (x := (14, [some (jm_r 7 0), some (jm_r 2 a0), some (jm_i a1)], [], h2)) rfl ?_
    refine jm_E_n 4 (x' := (18, [some (jm_r 7 0), some (jm_r 2 a0), some (jm_i a1)], [jm_r 2 a0, jm_r 1 3], h2)) rfl ?_
    obtain ⟨v3, h3, hR, H⟩ := H
    refine jm_E_call rfl (Nat.le_of_ble_eq_true rfl) (Nat.le_of_ble_eq_true rfl) rfl hR trivial ?_
    refine jm_E_eq (x := (19, [some (jm_r 7 0), some (jm_r 2 a0), some (jm_i a1)], [jm_i v3], h3)) rfl ?_
    exact jm_E_ret rfl (by rw [H.2]; exact if_pos H.1)
set_option maxRecDepth 100000 in
theorem wp_FR_goods_12 {x1 : Int32} {x2 : Int32} {x3 : Int32} {h : jm_H} {r : jm_Rs} (H :
  (96 < x3 →
    ∃ (v3 : Int32) (h3 : jm_H), m_FR_answered x2 h v3 h3 ∧
    r = (some (jm_i v3), h3)) ∧
  (¬ (96 < x3) →
    jm_in x1 3 ∧
    ∃ (v4 : Int32) (h4 : jm_H), m_FR_isGood (3 * (h.2.1 7 0 1) + x1.toNatClampNeg) x3 h v4 h4 ∧
    (v4 = 0 →
      l_FR_goods_12 x1 x2 (x3 + 1) h4 r) ∧
    (¬ (v4 = 0) →
      l_FR_goods_12 x1 (x2 + 1) (x3 + 1) h4 r))) : l_FR_goods_12 x1 x2 x3 h r := by
  refine jm_E_n 3 (x' := (if 96 < x3 then 27 else 15, [some (jm_r 7 0), some (jm_i x1), some (jm_i x2), some (jm_i x3)], [], h)) rfl ?_
  refine jm_E_ite (fun hc => ?_) (fun hc => ?_)
  · replace H := H.1 hc
    refine jm_E_n 2 (x' := (29, [some (jm_r 7 0), some (jm_i x1), some (jm_i x2), some (jm_i x3)], [jm_i x2, jm_r 7 0], h)) rfl ?_
    obtain ⟨v3, h3, hR, H⟩ := H
    refine jm_E_call rfl (Nat.le_of_ble_eq_true rfl) (Nat.le_of_ble_eq_true rfl) rfl hR trivial ?_
    refine jm_E_eq (x := (30, [some (jm_r 7 0), some (jm_i x1), some (jm_i x2), some (jm_i x3)], [jm_i v3], h3)) rfl ?_
    exact jm_E_ret rfl (by rw [H]; rfl)
  · replace H := H.2 hc
    refine jm_E_n 5 (x' := (20, [some (jm_r 7 0), some (jm_i x1), some (jm_i x2), some (jm_i x3)], [jm_i x1, jm_r 28 (h.2.1 7 0 1), jm_r 7 0], h)) rfl ?_
    refine jm_E_aald rfl rfl H.1 ?_
    replace H := H.2
    refine jm_E_eq (x := (21, [some (jm_r 7 0), some (jm_i x1), some (jm_i x2), some (jm_i x3)], [jm_r 2 (3 * (h.2.1 7 0 1) + x1.toNatClampNeg), jm_r 7 0], h)) rfl ?_
    refine jm_E_n 1 (x' := (22, [some (jm_r 7 0), some (jm_i x1), some (jm_i x2), some (jm_i x3)], [jm_i x3, jm_r 2 (3 * (h.2.1 7 0 1) + x1.toNatClampNeg), jm_r 7 0], h)) rfl ?_
    obtain ⟨v4, h4, hR, H⟩ := H
    refine jm_E_call rfl (Nat.le_of_ble_eq_true rfl) (Nat.le_of_ble_eq_true rfl) rfl hR trivial ?_
    refine jm_E_eq (x := (23, [some (jm_r 7 0), some (jm_i x1), some (jm_i x2), some (jm_i x3)], [jm_i v4], h4)) rfl ?_
    refine jm_E_n 1 (x' := (if v4 = 0 then 25 else 24, [some (jm_r 7 0), some (jm_i x1), some (jm_i x2), some (jm_i x3)], [], h4)) rfl ?_
    refine jm_E_ite (fun hc => ?_) (fun hc => ?_)
    · replace H := H.1 hc
      refine jm_E_n 2 (x' := (12, [some (jm_r 7 0), some (jm_i x1), some (jm_i x2), some (jm_i (x3 + 1))], [], h4)) rfl ?_
      exact H
    · replace H := H.2 hc
      refine jm_E_n 3 (x' := (12, [some (jm_r 7 0), some (jm_i x1), some (jm_i (x2 + 1)), some (jm_i (x3 + 1))], [], h4)) rfl ?_
      exact H
set_option maxRecDepth 100000 in
theorem wp_FR_goods {a0 : Int32} {h : jm_H} {r : jm_Rs} (H :
  ∃ (v1 : Int32) (h1 : jm_H), m_FR_isMode a0 h v1 h1 ∧
  (v1 = 0 →
    ∃ (v2 : Int32) (h2 : jm_H), m_FR_refused 1 h1 v2 h2 ∧
    r = (some (jm_i v2), h2)) ∧
  (¬ (v1 = 0) →
    l_FR_goods_12 a0 0 4 h1 r)) : jm_R 25 [jm_r 7 0, jm_i a0] h r := by
  refine jm_R_of hz_25 (Nat.le_of_ble_eq_true rfl) ?_
  show jm_E cod_25 (0, [some (jm_r 7 0), some (jm_i a0), none, none], [], h) r
  refine jm_E_n 2 (x' := (2, [some (jm_r 7 0), some (jm_i a0), none, none], [jm_i a0, jm_r 7 0], h)) rfl ?_
  obtain ⟨v1, h1, hR, H⟩ := H
  refine jm_E_call rfl (Nat.le_of_ble_eq_true rfl) (Nat.le_of_ble_eq_true rfl) rfl hR trivial ?_
  refine jm_E_eq (x := (3, [some (jm_r 7 0), some (jm_i a0), none, none], [jm_i v1], h1)) rfl ?_
  refine jm_E_n 1 (x' := (if v1 = 0 then 4 else 8, [some (jm_r 7 0), some (jm_i a0), none, none], [], h1)) rfl ?_
  refine jm_E_ite (fun hc => ?_) (fun hc => ?_)
  · replace H := H.1 hc
    refine jm_E_n 2 (x' := (6, [some (jm_r 7 0), some (jm_i a0), none, none], [jm_i 1, jm_r 7 0], h1)) rfl ?_
    obtain ⟨v2, h2, hR, H⟩ := H
    refine jm_E_call rfl (Nat.le_of_ble_eq_true rfl) (Nat.le_of_ble_eq_true rfl) rfl hR trivial ?_
    refine jm_E_eq (x := (7, [some (jm_r 7 0), some (jm_i a0), none, none], [jm_i v2], h2)) rfl ?_
    exact jm_E_ret rfl (by rw [H]; rfl)
  · replace H := H.2 hc
    refine jm_E_n 4 (x' := (12, [some (jm_r 7 0), some (jm_i a0), some (jm_i 0), some (jm_i 4)], [], h1)) rfl ?_
    exact H
set_option maxRecDepth 100000 in
theorem wp_FR_good_14 {x1 : Int32} {x3 : Int32} {x4 : Int32} {h : jm_H} {r : jm_Rs} (H :
  (96 < x4 →
    ∃ (v4 : Int32) (h4 : jm_H), m_FR_refused 1 h v4 h4 ∧
    r = (some (jm_i v4), h4)) ∧
  (¬ (96 < x4) →
    jm_in x1 3 ∧
    ∃ (v5 : Int32) (h5 : jm_H), m_FR_isGood (3 * (h.2.1 7 0 1) + x1.toNatClampNeg) x4 h v5 h5 ∧
    (v5 = 0 →
      l_FR_good_14 x1 x3 (x4 + 1) h5 r) ∧
    (¬ (v5 = 0) →
      (x3 = 0 →
        ∃ (v6 : Int32) (h6 : jm_H), m_FR_answered x4 h5 v6 h6 ∧
        r = (some (jm_i v6), h6)) ∧
      (¬ (x3 = 0) →
        l_FR_good_14 x1 (x3 + (-1)) (x4 + 1) h5 r)))) : l_FR_good_14 x1 x3 x4 h r := by
  refine jm_E_n 3 (x' := (if 96 < x4 then 35 else 17, [some (jm_r 7 0), some (jm_i x1), none, some (jm_i x3), some (jm_i x4)], [], h)) rfl ?_
  refine jm_E_ite (fun hc => ?_) (fun hc => ?_)
  · replace H := H.1 hc
    refine jm_E_n 2 (x' := (37, [some (jm_r 7 0), some (jm_i x1), none, some (jm_i x3), some (jm_i x4)], [jm_i 1, jm_r 7 0], h)) rfl ?_
    obtain ⟨v4, h4, hR, H⟩ := H
    refine jm_E_call rfl (Nat.le_of_ble_eq_true rfl) (Nat.le_of_ble_eq_true rfl) rfl hR trivial ?_
    refine jm_E_eq (x := (38, [some (jm_r 7 0), some (jm_i x1), none, some (jm_i x3), some (jm_i x4)], [jm_i v4], h4)) rfl ?_
    exact jm_E_ret rfl (by rw [H]; rfl)
  · replace H := H.2 hc
    refine jm_E_n 5 (x' := (22, [some (jm_r 7 0), some (jm_i x1), none, some (jm_i x3), some (jm_i x4)], [jm_i x1, jm_r 28 (h.2.1 7 0 1), jm_r 7 0], h)) rfl ?_
    refine jm_E_aald rfl rfl H.1 ?_
    replace H := H.2
    refine jm_E_eq (x := (23, [some (jm_r 7 0), some (jm_i x1), none, some (jm_i x3), some (jm_i x4)], [jm_r 2 (3 * (h.2.1 7 0 1) + x1.toNatClampNeg), jm_r 7 0], h)) rfl ?_
    refine jm_E_n 1 (x' := (24, [some (jm_r 7 0), some (jm_i x1), none, some (jm_i x3), some (jm_i x4)], [jm_i x4, jm_r 2 (3 * (h.2.1 7 0 1) + x1.toNatClampNeg), jm_r 7 0], h)) rfl ?_
    obtain ⟨v5, h5, hR, H⟩ := H
    refine jm_E_call rfl (Nat.le_of_ble_eq_true rfl) (Nat.le_of_ble_eq_true rfl) rfl hR trivial ?_
    refine jm_E_eq (x := (25, [some (jm_r 7 0), some (jm_i x1), none, some (jm_i x3), some (jm_i x4)], [jm_i v5], h5)) rfl ?_
    refine jm_E_n 1 (x' := (if v5 = 0 then 33 else 26, [some (jm_r 7 0), some (jm_i x1), none, some (jm_i x3), some (jm_i x4)], [], h5)) rfl ?_
    refine jm_E_ite (fun hc => ?_) (fun hc => ?_)
    · replace H := H.1 hc
      refine jm_E_n 2 (x' := (14, [some (jm_r 7 0), some (jm_i x1), none, some (jm_i x3), some (jm_i (x4 + 1))], [], h5)) rfl ?_
      exact H
    · replace H := H.2 hc
      refine jm_E_n 2 (x' := (if x3 = 0 then 28 else 32, [some (jm_r 7 0), some (jm_i x1), none, some (jm_i x3), some (jm_i x4)], [], h5)) rfl ?_
      refine jm_E_ite (fun hc => ?_) (fun hc => ?_)
      · replace H := H.1 hc
        refine jm_E_n 2 (x' := (30, [some (jm_r 7 0), some (jm_i x1), none, some (jm_i x3), some (jm_i x4)], [jm_i x4, jm_r 7 0], h5)) rfl ?_
        obtain ⟨v6, h6, hR, H⟩ := H
        refine jm_E_call rfl (Nat.le_of_ble_eq_true rfl) (Nat.le_of_ble_eq_true rfl) rfl hR trivial ?_
        refine jm_E_eq (x := (31, [some (jm_r 7 0), some (jm_i x1), none, some (jm_i x3), some (jm_i x4)], [jm_i v6], h6)) rfl ?_
        exact jm_E_ret rfl (by rw [H]; rfl)
      · replace H := H.2 hc
        refine jm_E_n 3 (x' := (14, [some (jm_r 7 0), some (jm_i x1), none, some (jm_i (x3 + (-1))), some (jm_i (x4 + 1))], [], h5)) rfl ?_
        exact H
set_option maxRecDepth 100000 in
theorem wp_FR_good {a0 : Int32} {a1 : Int32} {h : jm_H} {r : jm_Rs} (H :
  ∃ (v1 : Int32) (h1 : jm_H), m_FR_isMode a0 h v1 h1 ∧
  (v1 = 0 →
    ∃ (v2 : Int32) (h2 : jm_H), m_FR_refused 1 h1 v2 h2 ∧
    r = (some (jm_i v2), h2)) ∧
  (¬ (v1 = 0) →
    (0 ≤ a1 →
      l_FR_good_14 a0 a1 4 h1 r) ∧
    (¬ (0 ≤ a1) →
      ∃ (v3 : Int32) (h3 : jm_H), m_FR_refused 1 h1 v3 h3 ∧
      r = (some (jm_i v3), h3)))) : jm_R 26 [jm_r 7 0, jm_i a0, jm_i a1] h r := by
  refine jm_R_of hz_26 (Nat.le_of_ble_eq_true rfl) ?_
  show jm_E cod_26 (0, [some (jm_r 7 0), some (jm_i a0), some (jm_i a1), none, none], [], h) r
  refine jm_E_n 2 (x' := (2, [some (jm_r 7 0), some (jm_i a0), some (jm_i a1), none, none], [jm_i a0, jm_r 7 0], h)) rfl ?_
  obtain ⟨v1, h1, hR, H⟩ := H
  refine jm_E_call rfl (Nat.le_of_ble_eq_true rfl) (Nat.le_of_ble_eq_true rfl) rfl hR trivial ?_
  refine jm_E_eq (x := (3, [some (jm_r 7 0), some (jm_i a0), some (jm_i a1), none, none], [jm_i v1], h1)) rfl ?_
  refine jm_E_n 1 (x' := (if v1 = 0 then 6 else 4, [some (jm_r 7 0), some (jm_i a0), some (jm_i a1), none, none], [], h1)) rfl ?_
  refine jm_E_ite (fun hc => ?_) (fun hc => ?_)
  · replace H := H.1 hc
    refine jm_E_n 2 (x' := (8, [some (jm_r 7 0), some (jm_i a0), some (jm_i a1), none, none], [jm_i 1, jm_r 7 0], h1)) rfl ?_
    obtain ⟨v2, h2, hR, H⟩ := H
    refine jm_E_call rfl (Nat.le_of_ble_eq_true rfl) (Nat.le_of_ble_eq_true rfl) rfl hR trivial ?_
    refine jm_E_eq (x := (9, [some (jm_r 7 0), some (jm_i a0), some (jm_i a1), none, none], [jm_i v2], h2)) rfl ?_
    exact jm_E_ret rfl (by rw [H]; rfl)
  · replace H := H.2 hc
    refine jm_E_n 2 (x' := (if 0 ≤ a1 then 10 else 6, [some (jm_r 7 0), some (jm_i a0), some (jm_i a1), none, none], [], h1)) rfl ?_
    refine jm_E_ite (fun hc => ?_) (fun hc => ?_)
    · replace H := H.1 hc
      refine jm_E_n 4 (x' := (14, [some (jm_r 7 0), some (jm_i a0), some (jm_i a1), some (jm_i a1), some (jm_i 4)], [], h1)) rfl ?_
      exact jm_E_weak (jm_le_s (jm_le_s (jm_le_n (jm_le_s (jm_le_s jm_le_nil))))) H
    · replace H := H.2 hc
      refine jm_E_n 2 (x' := (8, [some (jm_r 7 0), some (jm_i a0), some (jm_i a1), none, none], [jm_i 1, jm_r 7 0], h1)) rfl ?_
      obtain ⟨v3, h3, hR, H⟩ := H
      refine jm_E_call rfl (Nat.le_of_ble_eq_true rfl) (Nat.le_of_ble_eq_true rfl) rfl hR trivial ?_
      refine jm_E_eq (x := (9, [some (jm_r 7 0), some (jm_i a0), some (jm_i a1), none, none], [jm_i v3], h3)) rfl ?_
      exact jm_E_ret rfl (by rw [H]; rfl)
set_option maxRecDepth 100000 in
theorem wp_FR_piecesBy {a0 : Int32} {a1 : Int32} {h : jm_H} {r : jm_Rs} (H :
  ∃ (v1 : Int32) (h1 : jm_H), m_FR_lengthRefusal a0 a1 h v1 h1 ∧
  (v1 = 0 →
    jm_in a0 3 ∧
    ∃ h2 : jm_H, m_Table_make 3 (3 * (h1.2.1 7 0 1) + a0.toNatClampNeg) a1 h1 h2 ∧
    ((h2.1 6 3 1) = 0 →
      ∃ (v3 : Int32) (h3 : jm_H), m_FR_refused 5 h2 v3 h3 ∧
      r = (some (jm_i v3), h3)) ∧
    (¬ ((h2.1 6 3 1) = 0) →
      ∃ (v4 : Int32) (h4 : jm_H), m_FR_answered (h2.1 6 3 2) h2 v4 h4 ∧
      r = (some (jm_i v4), h4))) ∧
  (¬ (v1 = 0) →
    ∃ (v5 : Int32) (h5 : jm_H), m_FR_refused v1 h1 v5 h5 ∧
    r = (some (jm_i v5), h5))) : jm_R 27 [jm_r 7 0, jm_i a0, jm_i a1] h r := by
  refine jm_R_of hz_27 (Nat.le_of_ble_eq_true rfl) ?_
  show jm_E cod_27 (0, [some (jm_r 7 0), some (jm_i a0), some (jm_i a1), none], [], h) r
  refine jm_E_n 3 (x' := (3, [some (jm_r 7 0), some (jm_i a0), some (jm_i a1), none], [jm_i a1, jm_i a0, jm_r 7 0], h)) rfl ?_
  obtain ⟨v1, h1, hR, H⟩ := H
  refine jm_E_call rfl (Nat.le_of_ble_eq_true rfl) (Nat.le_of_ble_eq_true rfl) rfl hR trivial ?_
  refine jm_E_eq (x := (4, [some (jm_r 7 0), some (jm_i a0), some (jm_i a1), none], [jm_i v1], h1)) rfl ?_
  refine jm_E_n 3 (x' := (if v1 = 0 then 11 else 7, [some (jm_r 7 0), some (jm_i a0), some (jm_i a1), some (jm_i v1)], [], h1)) rfl ?_
  refine jm_E_ite (fun hc => ?_) (fun hc => ?_)
  · replace H := H.1 hc
    refine jm_E_n 6 (x' := (17, [some (jm_r 7 0), some (jm_i a0), some (jm_i a1), some (jm_i v1)], [jm_i a0, jm_r 28 (h1.2.1 7 0 1), jm_r 6 3], h1)) rfl ?_
    refine jm_E_aald rfl rfl H.1 ?_
    replace H := H.2
    refine jm_E_eq (x := (18, [some (jm_r 7 0), some (jm_i a0), some (jm_i a1), some (jm_i v1)], [jm_r 2 (3 * (h1.2.1 7 0 1) + a0.toNatClampNeg), jm_r 6 3], h1)) rfl ?_
    refine jm_E_n 1 (x' := (19, [some (jm_r 7 0), some (jm_i a0), some (jm_i a1), some (jm_i v1)], [jm_i a1, jm_r 2 (3 * (h1.2.1 7 0 1) + a0.toNatClampNeg), jm_r 6 3], h1)) rfl ?_
    obtain ⟨h2, hR, H⟩ := H
    refine jm_E_call rfl (Nat.le_of_ble_eq_true rfl) (Nat.le_of_ble_eq_true rfl) rfl hR trivial ?_
    refine jm_E_eq (x := (20, [some (jm_r 7 0), some (jm_i a0), some (jm_i a1), some (jm_i v1)], [], h2)) rfl ?_
    refine jm_E_n 4 (x' := (if (h2.1 6 3 1) = 0 then 30 else 24, [some (jm_r 7 0), some (jm_i a0), some (jm_i a1), some (jm_i v1)], [], h2)) rfl ?_
    refine jm_E_ite (fun hc => ?_) (fun hc => ?_)
    · replace H := H.1 hc
      refine jm_E_n 2 (x' := (32, [some (jm_r 7 0), some (jm_i a0), some (jm_i a1), some (jm_i v1)], [jm_i 5, jm_r 7 0], h2)) rfl ?_
      obtain ⟨v3, h3, hR, H⟩ := H
      refine jm_E_call rfl (Nat.le_of_ble_eq_true rfl) (Nat.le_of_ble_eq_true rfl) rfl hR trivial ?_
      refine jm_E_eq (x := (33, [some (jm_r 7 0), some (jm_i a0), some (jm_i a1), some (jm_i v1)], [jm_i v3], h3)) rfl ?_
      exact jm_E_ret rfl (by rw [H]; rfl)
    · replace H := H.2 hc
      refine jm_E_n 4 (x' := (28, [some (jm_r 7 0), some (jm_i a0), some (jm_i a1), some (jm_i v1)], [jm_i (h2.1 6 3 2), jm_r 7 0], h2)) rfl ?_
      obtain ⟨v4, h4, hR, H⟩ := H
      refine jm_E_call rfl (Nat.le_of_ble_eq_true rfl) (Nat.le_of_ble_eq_true rfl) rfl hR trivial ?_
      refine jm_E_eq (x := (29, [some (jm_r 7 0), some (jm_i a0), some (jm_i a1), some (jm_i v1)], [jm_i v4], h4)) rfl ?_
      refine jm_E_n 1 (x' := (33, [some (jm_r 7 0), some (jm_i a0), some (jm_i a1), some (jm_i v1)], [jm_i v4], h4)) rfl ?_
      exact jm_E_ret rfl (by rw [H]; rfl)
  · replace H := H.2 hc
    refine jm_E_n 2 (x' := (9, [some (jm_r 7 0), some (jm_i a0), some (jm_i a1), some (jm_i v1)], [jm_i v1, jm_r 7 0], h1)) rfl ?_
    obtain ⟨v5, h5, hR, H⟩ := H
    refine jm_E_call rfl (Nat.le_of_ble_eq_true rfl) (Nat.le_of_ble_eq_true rfl) rfl hR trivial ?_
    refine jm_E_eq (x := (10, [some (jm_r 7 0), some (jm_i a0), some (jm_i a1), some (jm_i v1)], [jm_i v5], h5)) rfl ?_
    exact jm_E_ret rfl (by rw [H]; rfl)
set_option maxRecDepth 100000 in
theorem wp_FR_fewestBy_14 {x1 : Int32} {x2 : Int32} {x3 : Int32} {x4 : Int32} {h : jm_H} {r : jm_Rs} (H :
  (96 < x4 →
    ∃ (v3 : Int32) (h3 : jm_H), m_FR_answered x2 h v3 h3 ∧
    r = (some (jm_i v3), h3)) ∧
  (¬ (96 < x4) →
    jm_in x1 3 ∧
    ∃ (v4 : Int32) (h4 : jm_H), m_Mode_isInRound (3 * (h.2.1 7 0 1) + x1.toNatClampNeg) x4 h v4 h4 ∧
    (v4 = 0 →
      l_FR_fewestBy_14 x1 x2 x3 (x4 + 1) h4 r) ∧
    (¬ (v4 = 0) →
      jm_in x1 3 ∧
      ∃ h5 : jm_H, m_Table_make 3 (3 * (h4.2.1 7 0 1) + x1.toNatClampNeg) x4 h4 h5 ∧
      ((h5.1 6 3 1) = 0 →
        l_FR_fewestBy_14 x1 x2 x3 (x4 + 1) h5 r) ∧
      (¬ ((h5.1 6 3 1) = 0) →
        (x2 = (-2) →
          l_FR_fewestBy_14 x1 x4 (h5.1 6 3 2) (x4 + 1) h5 r) ∧
        (¬ (x2 = (-2)) →
          (x3 < (h5.1 6 3 2) →
            l_FR_fewestBy_14 x1 x2 x3 (x4 + 1) h5 r) ∧
          (¬ (x3 < (h5.1 6 3 2)) →
            l_FR_fewestBy_14 x1 x4 (h5.1 6 3 2) (x4 + 1) h5 r)))))) : l_FR_fewestBy_14 x1 x2 x3 x4 h r := by
  refine jm_E_n 3 (x' := (if 96 < x4 then 55 else 17, [some (jm_r 7 0), some (jm_i x1), some (jm_i x2), some (jm_i x3), some (jm_i x4)], [], h)) rfl ?_
  refine jm_E_ite (fun hc => ?_) (fun hc => ?_)
  · replace H := H.1 hc
    refine jm_E_n 2 (x' := (57, [some (jm_r 7 0), some (jm_i x1), some (jm_i x2), some (jm_i x3), some (jm_i x4)], [jm_i x2, jm_r 7 0], h)) rfl ?_
    obtain ⟨v3, h3, hR, H⟩ := H
    refine jm_E_call rfl (Nat.le_of_ble_eq_true rfl) (Nat.le_of_ble_eq_true rfl) rfl hR trivial ?_
    refine jm_E_eq (x := (58, [some (jm_r 7 0), some (jm_i x1), some (jm_i x2), some (jm_i x3), some (jm_i x4)], [jm_i v3], h3)) rfl ?_
    exact jm_E_ret rfl (by rw [H]; rfl)
  · replace H := H.2 hc
    refine jm_E_n 4 (x' := (21, [some (jm_r 7 0), some (jm_i x1), some (jm_i x2), some (jm_i x3), some (jm_i x4)], [jm_i x1, jm_r 28 (h.2.1 7 0 1)], h)) rfl ?_
    refine jm_E_aald rfl rfl H.1 ?_
    replace H := H.2
    refine jm_E_eq (x := (22, [some (jm_r 7 0), some (jm_i x1), some (jm_i x2), some (jm_i x3), some (jm_i x4)], [jm_r 2 (3 * (h.2.1 7 0 1) + x1.toNatClampNeg)], h)) rfl ?_
    refine jm_E_n 1 (x' := (23, [some (jm_r 7 0), some (jm_i x1), some (jm_i x2), some (jm_i x3), some (jm_i x4)], [jm_i x4, jm_r 2 (3 * (h.2.1 7 0 1) + x1.toNatClampNeg)], h)) rfl ?_
    obtain ⟨v4, h4, hR, H⟩ := H
    refine jm_E_call rfl (Nat.le_of_ble_eq_true rfl) (Nat.le_of_ble_eq_true rfl) rfl hR trivial ?_
    refine jm_E_eq (x := (24, [some (jm_r 7 0), some (jm_i x1), some (jm_i x2), some (jm_i x3), some (jm_i x4)], [jm_i v4], h4)) rfl ?_
    refine jm_E_n 1 (x' := (if v4 = 0 then 25 else 26, [some (jm_r 7 0), some (jm_i x1), some (jm_i x2), some (jm_i x3), some (jm_i x4)], [], h4)) rfl ?_
    refine jm_E_ite (fun hc => ?_) (fun hc => ?_)
    · replace H := H.1 hc
      refine jm_E_n 3 (x' := (14, [some (jm_r 7 0), some (jm_i x1), some (jm_i x2), some (jm_i x3), some (jm_i (x4 + 1))], [], h4)) rfl ?_
      exact H
    · replace H := H.2 hc
      refine jm_E_n 6 (x' := (32, [some (jm_r 7 0), some (jm_i x1), some (jm_i x2), some (jm_i x3), some (jm_i x4)], [jm_i x1, jm_r 28 (h4.2.1 7 0 1), jm_r 6 3], h4)) rfl ?_
      refine jm_E_aald rfl rfl H.1 ?_
      replace H := H.2
      refine jm_E_eq (x := (33, [some (jm_r 7 0), some (jm_i x1), some (jm_i x2), some (jm_i x3), some (jm_i x4)], [jm_r 2 (3 * (h4.2.1 7 0 1) + x1.toNatClampNeg), jm_r 6 3], h4)) rfl ?_
      refine jm_E_n 1 (x' := (34, [some (jm_r 7 0), some (jm_i x1), some (jm_i x2), some (jm_i x3), some (jm_i x4)], [jm_i x4, jm_r 2 (3 * (h4.2.1 7 0 1) + x1.toNatClampNeg), jm_r 6 3], h4)) rfl ?_
      obtain ⟨h5, hR, H⟩ := H
      refine jm_E_call rfl (Nat.le_of_ble_eq_true rfl) (Nat.le_of_ble_eq_true rfl) rfl hR trivial ?_
      refine jm_E_eq (x := (35, [some (jm_r 7 0), some (jm_i x1), some (jm_i x2), some (jm_i x3), some (jm_i x4)], [], h5)) rfl ?_
      refine jm_E_n 4 (x' := (if (h5.1 6 3 1) = 0 then 53 else 39, [some (jm_r 7 0), some (jm_i x1), some (jm_i x2), some (jm_i x3), some (jm_i x4)], [], h5)) rfl ?_
      refine jm_E_ite (fun hc => ?_) (fun hc => ?_)
      · replace H := H.1 hc
        refine jm_E_n 2 (x' := (14, [some (jm_r 7 0), some (jm_i x1), some (jm_i x2), some (jm_i x3), some (jm_i (x4 + 1))], [], h5)) rfl ?_
        exact H
      · replace H := H.2 hc
        refine jm_E_n 3 (x' := (if x2 = (-2) then 47 else 42, [some (jm_r 7 0), some (jm_i x1), some (jm_i x2), some (jm_i x3), some (jm_i x4)], [], h5)) rfl ?_
        refine jm_E_ite (fun hc => ?_) (fun hc => ?_)
        · replace H := H.1 hc
          refine jm_E_n 8 (x' := (14, [some (jm_r 7 0), some (jm_i x1), some (jm_i x4), some (jm_i (h5.1 6 3 2)), some (jm_i (x4 + 1))], [], h5)) rfl ?_
          exact H
        · replace H := H.2 hc
          refine jm_E_n 5 (x' := (if x3 < (h5.1 6 3 2) then 53 else 47, [some (jm_r 7 0), some (jm_i x1), some (jm_i x2), some (jm_i x3), some (jm_i x4)], [], h5)) rfl ?_
          refine jm_E_ite (fun hc => ?_) (fun hc => ?_)
          · replace H := H.1 hc
            refine jm_E_n 2 (x' := (14, [some (jm_r 7 0), some (jm_i x1), some (jm_i x2), some (jm_i x3), some (jm_i (x4 + 1))], [], h5)) rfl ?_
            exact H
          · replace H := H.2 hc
            refine jm_E_n 8 (x' := (14, [some (jm_r 7 0), some (jm_i x1), some (jm_i x4), some (jm_i (h5.1 6 3 2)), some (jm_i (x4 + 1))], [], h5)) rfl ?_
            exact H
set_option maxRecDepth 100000 in
theorem wp_FR_fewestBy {a0 : Int32} {h : jm_H} {r : jm_Rs} (H :
  ∃ (v1 : Int32) (h1 : jm_H), m_FR_isMode a0 h v1 h1 ∧
  (v1 = 0 →
    ∃ (v2 : Int32) (h2 : jm_H), m_FR_refused 1 h1 v2 h2 ∧
    r = (some (jm_i v2), h2)) ∧
  (¬ (v1 = 0) →
    l_FR_fewestBy_14 a0 (-2) 0 4 h1 r)) : jm_R 28 [jm_r 7 0, jm_i a0] h r := by
  refine jm_R_of hz_28 (Nat.le_of_ble_eq_true rfl) ?_
  show jm_E cod_28 (0, [some (jm_r 7 0), some (jm_i a0), none, none, none], [], h) r
  refine jm_E_n 2 (x' := (2, [some (jm_r 7 0), some (jm_i a0), none, none, none], [jm_i a0, jm_r 7 0], h)) rfl ?_
  obtain ⟨v1, h1, hR, H⟩ := H
  refine jm_E_call rfl (Nat.le_of_ble_eq_true rfl) (Nat.le_of_ble_eq_true rfl) rfl hR trivial ?_
  refine jm_E_eq (x := (3, [some (jm_r 7 0), some (jm_i a0), none, none, none], [jm_i v1], h1)) rfl ?_
  refine jm_E_n 1 (x' := (if v1 = 0 then 4 else 8, [some (jm_r 7 0), some (jm_i a0), none, none, none], [], h1)) rfl ?_
  refine jm_E_ite (fun hc => ?_) (fun hc => ?_)
  · replace H := H.1 hc
    refine jm_E_n 2 (x' := (6, [some (jm_r 7 0), some (jm_i a0), none, none, none], [jm_i 1, jm_r 7 0], h1)) rfl ?_
    obtain ⟨v2, h2, hR, H⟩ := H
    refine jm_E_call rfl (Nat.le_of_ble_eq_true rfl) (Nat.le_of_ble_eq_true rfl) rfl hR trivial ?_
    refine jm_E_eq (x := (7, [some (jm_r 7 0), some (jm_i a0), none, none, none], [jm_i v2], h2)) rfl ?_
    exact jm_E_ret rfl (by rw [H]; rfl)
  · replace H := H.2 hc
    refine jm_E_n 6 (x' := (14, [some (jm_r 7 0), some (jm_i a0), some (jm_i (-2)), some (jm_i 0), some (jm_i 4)], [], h1)) rfl ?_
    exact H
set_option maxRecDepth 100000 in
theorem wp_Flow_fitsWithCost_2 {x0 : Nat} {x1 : Int32} {x2 : Int32} {x3 : Int32} {h : jm_H} {r : jm_Rs} (H :
  ((h.1 1 x0 3) ≤ x3 →
    ∃ (v1 : Int32) (h1 : jm_H), m_Flow_fits x0 h v1 h1 ∧
    narrow .boolean (.int v1) = .int v1 ∧ r = (some (jm_i v1), h1)) ∧
  (¬ ((h.1 1 x0 3) ≤ x3) →
    jm_in x3 24 ∧
    ((h.1 12 x0 x3.toNatClampNeg) = x1 →
      jm_in x3 24 ∧
      l_Flow_fitsWithCost_2 x0 x1 x2 (x3 + 1) (jm_sI h 15 x0 x3.toNatClampNeg x2) r) ∧
    (¬ ((h.1 12 x0 x3.toNatClampNeg) = x1) →
      l_Flow_fitsWithCost_2 x0 x1 x2 (x3 + 1) h r))) : l_Flow_fitsWithCost_2 x0 x1 x2 x3 h r := by
  refine jm_E_n 4 (x' := (if (h.1 1 x0 3) ≤ x3 then 19 else 6, [some (jm_r 1 x0), some (jm_i x1), some (jm_i x2), some (jm_i x3)], [], h)) rfl ?_
  refine jm_E_ite (fun hc => ?_) (fun hc => ?_)
  · replace H := H.1 hc
    refine jm_E_n 1 (x' := (20, [some (jm_r 1 x0), some (jm_i x1), some (jm_i x2), some (jm_i x3)], [jm_r 1 x0], h)) rfl ?_
    obtain ⟨v1, h1, hR, H⟩ := H
    refine jm_E_call rfl (Nat.le_of_ble_eq_true rfl) (Nat.le_of_ble_eq_true rfl) rfl hR trivial ?_
    refine jm_E_eq (x := (21, [some (jm_r 1 x0), some (jm_i x1), some (jm_i x2), some (jm_i x3)], [jm_i v1], h1)) rfl ?_
    exact jm_E_ret rfl (by rw [H.2]; exact if_pos H.1)
  · replace H := H.2 hc
    refine jm_E_n 3 (x' := (9, [some (jm_r 1 x0), some (jm_i x1), some (jm_i x2), some (jm_i x3)], [jm_i x3, jm_r 12 x0], h)) rfl ?_
    refine jm_E_iald rfl rfl H.1 ?_
    replace H := H.2
    refine jm_E_eq (x := (10, [some (jm_r 1 x0), some (jm_i x1), some (jm_i x2), some (jm_i x3)], [jm_i (h.1 12 x0 x3.toNatClampNeg)], h)) rfl ?_
    refine jm_E_n 2 (x' := (if (h.1 12 x0 x3.toNatClampNeg) = x1 then 12 else 17, [some (jm_r 1 x0), some (jm_i x1), some (jm_i x2), some (jm_i x3)], [], h)) rfl ?_
    refine jm_E_ite (fun hc => ?_) (fun hc => ?_)
    · replace H := H.1 hc
      refine jm_E_n 4 (x' := (16, [some (jm_r 1 x0), some (jm_i x1), some (jm_i x2), some (jm_i x3)], [jm_i x2, jm_i x3, jm_r 15 x0], h)) rfl ?_
      refine jm_E_iast rfl rfl H.1 ?_
      replace H := H.2
      refine jm_E_eq (x := (17, [some (jm_r 1 x0), some (jm_i x1), some (jm_i x2), some (jm_i x3)], [], (jm_sI h 15 x0 x3.toNatClampNeg x2))) rfl ?_
      refine jm_E_n 2 (x' := (2, [some (jm_r 1 x0), some (jm_i x1), some (jm_i x2), some (jm_i (x3 + 1))], [], (jm_sI h 15 x0 x3.toNatClampNeg x2))) rfl ?_
      exact H
    · replace H := H.2 hc
      refine jm_E_n 2 (x' := (2, [some (jm_r 1 x0), some (jm_i x1), some (jm_i x2), some (jm_i (x3 + 1))], [], h)) rfl ?_
      exact H
set_option maxRecDepth 100000 in
theorem wp_Flow_fitsWithCost {o : Nat} {a0 : Int32} {a1 : Int32} {h : jm_H} {r : jm_Rs} (H :
  l_Flow_fitsWithCost_2 o a0 a1 0 h r) : jm_R 217 [jm_r 1 o, jm_i a0, jm_i a1] h r := by
  refine jm_R_of hz_217 (Nat.le_of_ble_eq_true rfl) ?_
  show jm_E cod_217 (0, [some (jm_r 1 o), some (jm_i a0), some (jm_i a1), none], [], h) r
  refine jm_E_n 2 (x' := (2, [some (jm_r 1 o), some (jm_i a0), some (jm_i a1), some (jm_i 0)], [], h)) rfl ?_
  exact H
set_option maxRecDepth 100000 in
theorem wp_FR_headroom_45 {x2 : Int32} {x3 : Nat} {x4 : Int32} {x5 : Int32} {h : jm_H} {r : jm_Rs} (H :
  (x5 ≤ 0 →
    ∃ (v6 : Int32) (h6 : jm_H), m_FR_answered x4 h v6 h6 ∧
    r = (some (jm_i v6), h6)) ∧
  (¬ (x5 ≤ 0) →
    (60 < (x4 + x5) →
      l_FR_headroom_45 x2 x3 x4 (x5 / 2) h r) ∧
    (¬ (60 < (x4 + x5)) →
      ∃ (v7 : Int32) (h7 : jm_H), m_Flow_fitsWithCost x3 x2 (x4 + x5) h v7 h7 ∧
      (v7 = 0 →
        l_FR_headroom_45 x2 x3 x4 (x5 / 2) h7 r) ∧
      (¬ (v7 = 0) →
        l_FR_headroom_45 x2 x3 (x4 + x5) (x5 / 2) h7 r)))) : l_FR_headroom_45 x2 x3 x4 x5 h r := by
  refine jm_E_n 2 (x' := (if x5 ≤ 0 then 66 else 47, [some (jm_r 7 0), none, some (jm_i x2), some (jm_r 1 x3), some (jm_i x4), some (jm_i x5), none], [], h)) rfl ?_
  refine jm_E_ite (fun hc => ?_) (fun hc => ?_)
  · replace H := H.1 hc
    refine jm_E_n 2 (x' := (68, [some (jm_r 7 0), none, some (jm_i x2), some (jm_r 1 x3), some (jm_i x4), some (jm_i x5), none], [jm_i x4, jm_r 7 0], h)) rfl ?_
    obtain ⟨v6, h6, hR, H⟩ := H
    refine jm_E_call rfl (Nat.le_of_ble_eq_true rfl) (Nat.le_of_ble_eq_true rfl) rfl hR trivial ?_
    refine jm_E_eq (x := (69, [some (jm_r 7 0), none, some (jm_i x2), some (jm_r 1 x3), some (jm_i x4), some (jm_i x5), none], [jm_i v6], h6)) rfl ?_
    exact jm_E_ret rfl (by rw [H]; rfl)
  · replace H := H.2 hc
    refine jm_E_n 7 (x' := (if 60 < (x4 + x5) then 61 else 54, [some (jm_r 7 0), none, some (jm_i x2), some (jm_r 1 x3), some (jm_i x4), some (jm_i x5), some (jm_i (x4 + x5))], [], h)) rfl ?_
    refine jm_E_ite (fun hc => ?_) (fun hc => ?_)
    · replace H := H.1 hc
      refine jm_E_n 2 (x' := (63, [some (jm_r 7 0), none, some (jm_i x2), some (jm_r 1 x3), some (jm_i x4), some (jm_i x5), some (jm_i (x4 + x5))], [jm_i 2, jm_i x5], h)) rfl ?_
      refine jm_E_idiv rfl (by decide) ?_
      refine jm_E_eq (x := (64, [some (jm_r 7 0), none, some (jm_i x2), some (jm_r 1 x3), some (jm_i x4), some (jm_i x5), some (jm_i (x4 + x5))], [jm_i (x5 / 2)], h)) rfl ?_
      refine jm_E_n 2 (x' := (45, [some (jm_r 7 0), none, some (jm_i x2), some (jm_r 1 x3), some (jm_i x4), some (jm_i (x5 / 2)), some (jm_i (x4 + x5))], [], h)) rfl ?_
      exact jm_E_weak (jm_le_s (jm_le_n (jm_le_s (jm_le_s (jm_le_s (jm_le_s (jm_le_n jm_le_nil))))))) H
    · replace H := H.2 hc
      refine jm_E_n 3 (x' := (57, [some (jm_r 7 0), none, some (jm_i x2), some (jm_r 1 x3), some (jm_i x4), some (jm_i x5), some (jm_i (x4 + x5))], [jm_i (x4 + x5), jm_i x2, jm_r 1 x3], h)) rfl ?_
      obtain ⟨v7, h7, hR, H⟩ := H
      refine jm_E_call rfl (Nat.le_of_ble_eq_true rfl) (Nat.le_of_ble_eq_true rfl) rfl hR trivial ?_
      refine jm_E_eq (x := (58, [some (jm_r 7 0), none, some (jm_i x2), some (jm_r 1 x3), some (jm_i x4), some (jm_i x5), some (jm_i (x4 + x5))], [jm_i v7], h7)) rfl ?_
      refine jm_E_n 1 (x' := (if v7 = 0 then 61 else 59, [some (jm_r 7 0), none, some (jm_i x2), some (jm_r 1 x3), some (jm_i x4), some (jm_i x5), some (jm_i (x4 + x5))], [], h7)) rfl ?_
      refine jm_E_ite (fun hc => ?_) (fun hc => ?_)
      · replace H := H.1 hc
        refine jm_E_n 2 (x' := (63, [some (jm_r 7 0), none, some (jm_i x2), some (jm_r 1 x3), some (jm_i x4), some (jm_i x5), some (jm_i (x4 + x5))], [jm_i 2, jm_i x5], h7)) rfl ?_
        refine jm_E_idiv rfl (by decide) ?_
        refine jm_E_eq (x := (64, [some (jm_r 7 0), none, some (jm_i x2), some (jm_r 1 x3), some (jm_i x4), some (jm_i x5), some (jm_i (x4 + x5))], [jm_i (x5 / 2)], h7)) rfl ?_
        refine jm_E_n 2 (x' := (45, [some (jm_r 7 0), none, some (jm_i x2), some (jm_r 1 x3), some (jm_i x4), some (jm_i (x5 / 2)), some (jm_i (x4 + x5))], [], h7)) rfl ?_
        exact jm_E_weak (jm_le_s (jm_le_n (jm_le_s (jm_le_s (jm_le_s (jm_le_s (jm_le_n jm_le_nil))))))) H
      · replace H := H.2 hc
        refine jm_E_n 4 (x' := (63, [some (jm_r 7 0), none, some (jm_i x2), some (jm_r 1 x3), some (jm_i (x4 + x5)), some (jm_i x5), some (jm_i (x4 + x5))], [jm_i 2, jm_i x5], h7)) rfl ?_
        refine jm_E_idiv rfl (by decide) ?_
        refine jm_E_eq (x := (64, [some (jm_r 7 0), none, some (jm_i x2), some (jm_r 1 x3), some (jm_i (x4 + x5)), some (jm_i x5), some (jm_i (x4 + x5))], [jm_i (x5 / 2)], h7)) rfl ?_
        refine jm_E_n 2 (x' := (45, [some (jm_r 7 0), none, some (jm_i x2), some (jm_r 1 x3), some (jm_i (x4 + x5)), some (jm_i (x5 / 2)), some (jm_i (x4 + x5))], [], h7)) rfl ?_
        exact jm_E_weak (jm_le_s (jm_le_n (jm_le_s (jm_le_s (jm_le_s (jm_le_s (jm_le_n jm_le_nil))))))) H
set_option maxRecDepth 100000 in
theorem wp_FR_headroom {a0 : Int32} {a1 : Int32} {h : jm_H} {r : jm_Rs} (H :
  ∃ (v1 : Int32) (h1 : jm_H), m_FR_isTask a0 a1 h v1 h1 ∧
  (v1 = 0 →
    ∃ (v2 : Int32) (h2 : jm_H), m_FR_refused 1 h1 v2 h2 ∧
    r = (some (jm_i v2), h2)) ∧
  (¬ (v1 = 0) →
    jm_in a0 3 ∧
    jm_in a0 3 ∧
    jm_in a0 3 ∧
    ∃ h3 : jm_H, m_Flow_lay 3 (3 * (h1.2.1 7 0 1) + a0.toNatClampNeg) (h1.1 2 (3 * (h1.2.1 7 0 1) + a0.toNatClampNeg) 0) (h1.1 2 (3 * (h1.2.1 7 0 1) + a0.toNatClampNeg) 1) h1 h3 ∧
    ∃ (v4 : Int32) (h4 : jm_H), m_Flow_fitsWithCost 3 a1 0 h3 v4 h4 ∧
    (v4 = 0 →
      ∃ (v5 : Int32) (h5 : jm_H), m_FR_answered (-2) h4 v5 h5 ∧
      r = (some (jm_i v5), h5)) ∧
    (¬ (v4 = 0) →
      l_FR_headroom_45 a1 3 0 32 h4 r))) : jm_R 29 [jm_r 7 0, jm_i a0, jm_i a1] h r := by
  refine jm_R_of hz_29 (Nat.le_of_ble_eq_true rfl) ?_
  show jm_E cod_29 (0, [some (jm_r 7 0), some (jm_i a0), some (jm_i a1), none, none, none, none], [], h) r
  refine jm_E_n 3 (x' := (3, [some (jm_r 7 0), some (jm_i a0), some (jm_i a1), none, none, none, none], [jm_i a1, jm_i a0, jm_r 7 0], h)) rfl ?_
  obtain ⟨v1, h1, hR, H⟩ := H
  refine jm_E_call rfl (Nat.le_of_ble_eq_true rfl) (Nat.le_of_ble_eq_true rfl) rfl hR trivial ?_
  refine jm_E_eq (x := (4, [some (jm_r 7 0), some (jm_i a0), some (jm_i a1), none, none, none, none], [jm_i v1], h1)) rfl ?_
  refine jm_E_n 1 (x' := (if v1 = 0 then 5 else 9, [some (jm_r 7 0), some (jm_i a0), some (jm_i a1), none, none, none, none], [], h1)) rfl ?_
  refine jm_E_ite (fun hc => ?_) (fun hc => ?_)
  · replace H := H.1 hc
    refine jm_E_n 2 (x' := (7, [some (jm_r 7 0), some (jm_i a0), some (jm_i a1), none, none, none, none], [jm_i 1, jm_r 7 0], h1)) rfl ?_
    obtain ⟨v2, h2, hR, H⟩ := H
    refine jm_E_call rfl (Nat.le_of_ble_eq_true rfl) (Nat.le_of_ble_eq_true rfl) rfl hR trivial ?_
    refine jm_E_eq (x := (8, [some (jm_r 7 0), some (jm_i a0), some (jm_i a1), none, none, none, none], [jm_i v2], h2)) rfl ?_
    exact jm_E_ret rfl (by rw [H]; rfl)
  · replace H := H.2 hc
    refine jm_E_n 9 (x' := (18, [some (jm_r 7 0), some (jm_i a0), some (jm_i a1), some (jm_r 1 3), none, none, none], [jm_i a0, jm_r 28 (h1.2.1 7 0 1), jm_r 1 3], h1)) rfl ?_
    refine jm_E_aald rfl rfl H.1 ?_
    replace H := H.2
    refine jm_E_eq (x := (19, [some (jm_r 7 0), some (jm_i a0), some (jm_i a1), some (jm_r 1 3), none, none, none], [jm_r 2 (3 * (h1.2.1 7 0 1) + a0.toNatClampNeg), jm_r 1 3], h1)) rfl ?_
    refine jm_E_n 4 (x' := (23, [some (jm_r 7 0), some (jm_i a0), some (jm_i a1), some (jm_r 1 3), none, none, none], [jm_i a0, jm_r 28 (h1.2.1 7 0 1), jm_r 2 (3 * (h1.2.1 7 0 1) + a0.toNatClampNeg), jm_r 1 3], h1)) rfl ?_
    refine jm_E_aald rfl rfl H.1 ?_
    replace H := H.2
    refine jm_E_eq (x := (24, [some (jm_r 7 0), some (jm_i a0), some (jm_i a1), some (jm_r 1 3), none, none, none], [jm_r 2 (3 * (h1.2.1 7 0 1) + a0.toNatClampNeg), jm_r 2 (3 * (h1.2.1 7 0 1) + a0.toNatClampNeg), jm_r 1 3], h1)) rfl ?_
    refine jm_E_n 5 (x' := (29, [some (jm_r 7 0), some (jm_i a0), some (jm_i a1), some (jm_r 1 3), none, none, none], [jm_i a0, jm_r 28 (h1.2.1 7 0 1), jm_i (h1.1 2 (3 * (h1.2.1 7 0 1) + a0.toNatClampNeg) 0), jm_r 2 (3 * (h1.2.1 7 0 1) + a0.toNatClampNeg), jm_r 1 3], h1)) rfl ?_
    refine jm_E_aald rfl rfl H.1 ?_
    replace H := H.2
    refine jm_E_eq (x := (30, [some (jm_r 7 0), some (jm_i a0), some (jm_i a1), some (jm_r 1 3), none, none, none], [jm_r 2 (3 * (h1.2.1 7 0 1) + a0.toNatClampNeg), jm_i (h1.1 2 (3 * (h1.2.1 7 0 1) + a0.toNatClampNeg) 0), jm_r 2 (3 * (h1.2.1 7 0 1) + a0.toNatClampNeg), jm_r 1 3], h1)) rfl ?_
    refine jm_E_n 1 (x' := (31, [some (jm_r 7 0), some (jm_i a0), some (jm_i a1), some (jm_r 1 3), none, none, none], [jm_i (h1.1 2 (3 * (h1.2.1 7 0 1) + a0.toNatClampNeg) 1), jm_i (h1.1 2 (3 * (h1.2.1 7 0 1) + a0.toNatClampNeg) 0), jm_r 2 (3 * (h1.2.1 7 0 1) + a0.toNatClampNeg), jm_r 1 3], h1)) rfl ?_
    obtain ⟨h3, hR, H⟩ := H
    refine jm_E_call rfl (Nat.le_of_ble_eq_true rfl) (Nat.le_of_ble_eq_true rfl) rfl hR trivial ?_
    refine jm_E_eq (x := (32, [some (jm_r 7 0), some (jm_i a0), some (jm_i a1), some (jm_r 1 3), none, none, none], [], h3)) rfl ?_
    refine jm_E_n 3 (x' := (35, [some (jm_r 7 0), some (jm_i a0), some (jm_i a1), some (jm_r 1 3), none, none, none], [jm_i 0, jm_i a1, jm_r 1 3], h3)) rfl ?_
    obtain ⟨v4, h4, hR, H⟩ := H
    refine jm_E_call rfl (Nat.le_of_ble_eq_true rfl) (Nat.le_of_ble_eq_true rfl) rfl hR trivial ?_
    refine jm_E_eq (x := (36, [some (jm_r 7 0), some (jm_i a0), some (jm_i a1), some (jm_r 1 3), none, none, none], [jm_i v4], h4)) rfl ?_
    refine jm_E_n 1 (x' := (if v4 = 0 then 37 else 41, [some (jm_r 7 0), some (jm_i a0), some (jm_i a1), some (jm_r 1 3), none, none, none], [], h4)) rfl ?_
    refine jm_E_ite (fun hc => ?_) (fun hc => ?_)
    · replace H := H.1 hc
      refine jm_E_n 2 (x' := (39, [some (jm_r 7 0), some (jm_i a0), some (jm_i a1), some (jm_r 1 3), none, none, none], [jm_i (-2), jm_r 7 0], h4)) rfl ?_
      obtain ⟨v5, h5, hR, H⟩ := H
      refine jm_E_call rfl (Nat.le_of_ble_eq_true rfl) (Nat.le_of_ble_eq_true rfl) rfl hR trivial ?_
      refine jm_E_eq (x := (40, [some (jm_r 7 0), some (jm_i a0), some (jm_i a1), some (jm_r 1 3), none, none, none], [jm_i v5], h5)) rfl ?_
      exact jm_E_ret rfl (by rw [H]; rfl)
    · replace H := H.2 hc
      refine jm_E_n 4 (x' := (45, [some (jm_r 7 0), some (jm_i a0), some (jm_i a1), some (jm_r 1 3), some (jm_i 0), some (jm_i 32), none], [], h4)) rfl ?_
      exact jm_E_weak (jm_le_s (jm_le_n (jm_le_s (jm_le_s (jm_le_s (jm_le_s (jm_le_n jm_le_nil))))))) H
set_option maxRecDepth 100000 in
theorem wp_FR_fitsWithReserve {a0 : Nat} {a1 : Int32} {h : jm_H} {r : jm_Rs} (H :
  ∃ h1 : jm_H, m_Flow_lay 3 a0 (h.1 2 a0 0) a1 h h1 ∧
  ∃ (v2 : Int32) (h2 : jm_H), m_Flow_fits 3 h1 v2 h2 ∧
  narrow .boolean (.int v2) = .int v2 ∧ r = (some (jm_i v2), h2)) : jm_R 35 [jm_r 7 0, jm_r 2 a0, jm_i a1] h r := by
  refine jm_R_of hz_35 (Nat.le_of_ble_eq_true rfl) ?_
  show jm_E cod_35 (0, [some (jm_r 7 0), some (jm_r 2 a0), some (jm_i a1)], [], h) r
  refine jm_E_n 7 (x' := (7, [some (jm_r 7 0), some (jm_r 2 a0), some (jm_i a1)], [jm_i a1, jm_i (h.1 2 a0 0), jm_r 2 a0, jm_r 1 3], h)) rfl ?_
  obtain ⟨h1, hR, H⟩ := H
  refine jm_E_call rfl (Nat.le_of_ble_eq_true rfl) (Nat.le_of_ble_eq_true rfl) rfl hR trivial ?_
  refine jm_E_eq (x := (8, [some (jm_r 7 0), some (jm_r 2 a0), some (jm_i a1)], [], h1)) rfl ?_
  refine jm_E_n 3 (x' := (11, [some (jm_r 7 0), some (jm_r 2 a0), some (jm_i a1)], [jm_r 1 3], h1)) rfl ?_
  obtain ⟨v2, h2, hR, H⟩ := H
  refine jm_E_call rfl (Nat.le_of_ble_eq_true rfl) (Nat.le_of_ble_eq_true rfl) rfl hR trivial ?_
  refine jm_E_eq (x := (12, [some (jm_r 7 0), some (jm_r 2 a0), some (jm_i a1)], [jm_i v2], h2)) rfl ?_
  exact jm_E_ret rfl (by rw [H.2]; exact if_pos H.1)
set_option maxRecDepth 100000 in
theorem wp_FR_reserveUpTo_27 {x2 : Nat} {x3 : Int32} {x4 : Int32} {h : jm_H} {r : jm_Rs} (H :
  (x4 ≤ 0 →
    ∃ (v5 : Int32) (h5 : jm_H), m_FR_answered x3 h v5 h5 ∧
    r = (some (jm_i v5), h5)) ∧
  (¬ (x4 ≤ 0) →
    ((h.1 2 x2 0) ≤ (x3 + x4) →
      l_FR_reserveUpTo_27 x2 x3 (x4 / 2) h r) ∧
    (¬ ((h.1 2 x2 0) ≤ (x3 + x4)) →
      ∃ (v6 : Int32) (h6 : jm_H), m_FR_fitsWithReserve x2 (x3 + x4) h v6 h6 ∧
      (v6 = 0 →
        l_FR_reserveUpTo_27 x2 x3 (x4 / 2) h6 r) ∧
      (¬ (v6 = 0) →
        l_FR_reserveUpTo_27 x2 (x3 + x4) (x4 / 2) h6 r)))) : l_FR_reserveUpTo_27 x2 x3 x4 h r := by
  refine jm_E_n 2 (x' := (if x4 ≤ 0 then 49 else 29, [some (jm_r 7 0), none, some (jm_r 2 x2), some (jm_i x3), some (jm_i x4), none], [], h)) rfl ?_
  refine jm_E_ite (fun hc => ?_) (fun hc => ?_)
  · replace H := H.1 hc
    refine jm_E_n 2 (x' := (51, [some (jm_r 7 0), none, some (jm_r 2 x2), some (jm_i x3), some (jm_i x4), none], [jm_i x3, jm_r 7 0], h)) rfl ?_
    obtain ⟨v5, h5, hR, H⟩ := H
    refine jm_E_call rfl (Nat.le_of_ble_eq_true rfl) (Nat.le_of_ble_eq_true rfl) rfl hR trivial ?_
    refine jm_E_eq (x := (52, [some (jm_r 7 0), none, some (jm_r 2 x2), some (jm_i x3), some (jm_i x4), none], [jm_i v5], h5)) rfl ?_
    exact jm_E_ret rfl (by rw [H]; rfl)
  · replace H := H.2 hc
    refine jm_E_n 8 (x' := (if (h.1 2 x2 0) ≤ (x3 + x4) then 44 else 37, [some (jm_r 7 0), none, some (jm_r 2 x2), some (jm_i x3), some (jm_i x4), some (jm_i (x3 + x4))], [], h)) rfl ?_
    refine jm_E_ite (fun hc => ?_) (fun hc => ?_)
    · replace H := H.1 hc
      refine jm_E_n 2 (x' := (46, [some (jm_r 7 0), none, some (jm_r 2 x2), some (jm_i x3), some (jm_i x4), some (jm_i (x3 + x4))], [jm_i 2, jm_i x4], h)) rfl ?_
      refine jm_E_idiv rfl (by decide) ?_
      refine jm_E_eq (x := (47, [some (jm_r 7 0), none, some (jm_r 2 x2), some (jm_i x3), some (jm_i x4), some (jm_i (x3 + x4))], [jm_i (x4 / 2)], h)) rfl ?_
      refine jm_E_n 2 (x' := (27, [some (jm_r 7 0), none, some (jm_r 2 x2), some (jm_i x3), some (jm_i (x4 / 2)), some (jm_i (x3 + x4))], [], h)) rfl ?_
      exact jm_E_weak (jm_le_s (jm_le_n (jm_le_s (jm_le_s (jm_le_s (jm_le_n jm_le_nil)))))) H
    · replace H := H.2 hc
      refine jm_E_n 3 (x' := (40, [some (jm_r 7 0), none, some (jm_r 2 x2), some (jm_i x3), some (jm_i x4), some (jm_i (x3 + x4))], [jm_i (x3 + x4), jm_r 2 x2, jm_r 7 0], h)) rfl ?_
      obtain ⟨v6, h6, hR, H⟩ := H
      refine jm_E_call rfl (Nat.le_of_ble_eq_true rfl) (Nat.le_of_ble_eq_true rfl) rfl hR trivial ?_
      refine jm_E_eq (x := (41, [some (jm_r 7 0), none, some (jm_r 2 x2), some (jm_i x3), some (jm_i x4), some (jm_i (x3 + x4))], [jm_i v6], h6)) rfl ?_
      refine jm_E_n 1 (x' := (if v6 = 0 then 44 else 42, [some (jm_r 7 0), none, some (jm_r 2 x2), some (jm_i x3), some (jm_i x4), some (jm_i (x3 + x4))], [], h6)) rfl ?_
      refine jm_E_ite (fun hc => ?_) (fun hc => ?_)
      · replace H := H.1 hc
        refine jm_E_n 2 (x' := (46, [some (jm_r 7 0), none, some (jm_r 2 x2), some (jm_i x3), some (jm_i x4), some (jm_i (x3 + x4))], [jm_i 2, jm_i x4], h6)) rfl ?_
        refine jm_E_idiv rfl (by decide) ?_
        refine jm_E_eq (x := (47, [some (jm_r 7 0), none, some (jm_r 2 x2), some (jm_i x3), some (jm_i x4), some (jm_i (x3 + x4))], [jm_i (x4 / 2)], h6)) rfl ?_
        refine jm_E_n 2 (x' := (27, [some (jm_r 7 0), none, some (jm_r 2 x2), some (jm_i x3), some (jm_i (x4 / 2)), some (jm_i (x3 + x4))], [], h6)) rfl ?_
        exact jm_E_weak (jm_le_s (jm_le_n (jm_le_s (jm_le_s (jm_le_s (jm_le_n jm_le_nil)))))) H
      · replace H := H.2 hc
        refine jm_E_n 4 (x' := (46, [some (jm_r 7 0), none, some (jm_r 2 x2), some (jm_i (x3 + x4)), some (jm_i x4), some (jm_i (x3 + x4))], [jm_i 2, jm_i x4], h6)) rfl ?_
        refine jm_E_idiv rfl (by decide) ?_
        refine jm_E_eq (x := (47, [some (jm_r 7 0), none, some (jm_r 2 x2), some (jm_i (x3 + x4)), some (jm_i x4), some (jm_i (x3 + x4))], [jm_i (x4 / 2)], h6)) rfl ?_
        refine jm_E_n 2 (x' := (27, [some (jm_r 7 0), none, some (jm_r 2 x2), some (jm_i (x3 + x4)), some (jm_i (x4 / 2)), some (jm_i (x3 + x4))], [], h6)) rfl ?_
        exact jm_E_weak (jm_le_s (jm_le_n (jm_le_s (jm_le_s (jm_le_s (jm_le_n jm_le_nil)))))) H
set_option maxRecDepth 100000 in
theorem wp_FR_reserveUpTo {a0 : Int32} {h : jm_H} {r : jm_Rs} (H :
  ∃ (v1 : Int32) (h1 : jm_H), m_FR_isMode a0 h v1 h1 ∧
  (v1 = 0 →
    ∃ (v2 : Int32) (h2 : jm_H), m_FR_refused 1 h1 v2 h2 ∧
    r = (some (jm_i v2), h2)) ∧
  (¬ (v1 = 0) →
    jm_in a0 3 ∧
    ∃ (v3 : Int32) (h3 : jm_H), m_FR_fitsWithReserve (3 * (h1.2.1 7 0 1) + a0.toNatClampNeg) 0 h1 v3 h3 ∧
    (v3 = 0 →
      ∃ (v4 : Int32) (h4 : jm_H), m_FR_answered (-2) h3 v4 h4 ∧
      r = (some (jm_i v4), h4)) ∧
    (¬ (v3 = 0) →
      l_FR_reserveUpTo_27 (3 * (h1.2.1 7 0 1) + a0.toNatClampNeg) 0 32 h3 r))) : jm_R 30 [jm_r 7 0, jm_i a0] h r := by
  refine jm_R_of hz_30 (Nat.le_of_ble_eq_true rfl) ?_
  show jm_E cod_30 (0, [some (jm_r 7 0), some (jm_i a0), none, none, none, none], [], h) r
  refine jm_E_n 2 (x' := (2, [some (jm_r 7 0), some (jm_i a0), none, none, none, none], [jm_i a0, jm_r 7 0], h)) rfl ?_
  obtain ⟨v1, h1, hR, H⟩ := H
  refine jm_E_call rfl (Nat.le_of_ble_eq_true rfl) (Nat.le_of_ble_eq_true rfl) rfl hR trivial ?_
  refine jm_E_eq (x := (3, [some (jm_r 7 0), some (jm_i a0), none, none, none, none], [jm_i v1], h1)) rfl ?_
  refine jm_E_n 1 (x' := (if v1 = 0 then 4 else 8, [some (jm_r 7 0), some (jm_i a0), none, none, none, none], [], h1)) rfl ?_
  refine jm_E_ite (fun hc => ?_) (fun hc => ?_)
  · replace H := H.1 hc
    refine jm_E_n 2 (x' := (6, [some (jm_r 7 0), some (jm_i a0), none, none, none, none], [jm_i 1, jm_r 7 0], h1)) rfl ?_
    obtain ⟨v2, h2, hR, H⟩ := H
    refine jm_E_call rfl (Nat.le_of_ble_eq_true rfl) (Nat.le_of_ble_eq_true rfl) rfl hR trivial ?_
    refine jm_E_eq (x := (7, [some (jm_r 7 0), some (jm_i a0), none, none, none, none], [jm_i v2], h2)) rfl ?_
    exact jm_E_ret rfl (by rw [H]; rfl)
  · replace H := H.2 hc
    refine jm_E_n 4 (x' := (12, [some (jm_r 7 0), some (jm_i a0), none, none, none, none], [jm_i a0, jm_r 28 (h1.2.1 7 0 1)], h1)) rfl ?_
    refine jm_E_aald rfl rfl H.1 ?_
    replace H := H.2
    refine jm_E_eq (x := (13, [some (jm_r 7 0), some (jm_i a0), none, none, none, none], [jm_r 2 (3 * (h1.2.1 7 0 1) + a0.toNatClampNeg)], h1)) rfl ?_
    refine jm_E_n 4 (x' := (17, [some (jm_r 7 0), some (jm_i a0), some (jm_r 2 (3 * (h1.2.1 7 0 1) + a0.toNatClampNeg)), none, none, none], [jm_i 0, jm_r 2 (3 * (h1.2.1 7 0 1) + a0.toNatClampNeg), jm_r 7 0], h1)) rfl ?_
    obtain ⟨v3, h3, hR, H⟩ := H
    refine jm_E_call rfl (Nat.le_of_ble_eq_true rfl) (Nat.le_of_ble_eq_true rfl) rfl hR trivial ?_
    refine jm_E_eq (x := (18, [some (jm_r 7 0), some (jm_i a0), some (jm_r 2 (3 * (h1.2.1 7 0 1) + a0.toNatClampNeg)), none, none, none], [jm_i v3], h3)) rfl ?_
    refine jm_E_n 1 (x' := (if v3 = 0 then 19 else 23, [some (jm_r 7 0), some (jm_i a0), some (jm_r 2 (3 * (h1.2.1 7 0 1) + a0.toNatClampNeg)), none, none, none], [], h3)) rfl ?_
    refine jm_E_ite (fun hc => ?_) (fun hc => ?_)
    · replace H := H.1 hc
      refine jm_E_n 2 (x' := (21, [some (jm_r 7 0), some (jm_i a0), some (jm_r 2 (3 * (h1.2.1 7 0 1) + a0.toNatClampNeg)), none, none, none], [jm_i (-2), jm_r 7 0], h3)) rfl ?_
      obtain ⟨v4, h4, hR, H⟩ := H
      refine jm_E_call rfl (Nat.le_of_ble_eq_true rfl) (Nat.le_of_ble_eq_true rfl) rfl hR trivial ?_
      refine jm_E_eq (x := (22, [some (jm_r 7 0), some (jm_i a0), some (jm_r 2 (3 * (h1.2.1 7 0 1) + a0.toNatClampNeg)), none, none, none], [jm_i v4], h4)) rfl ?_
      exact jm_E_ret rfl (by rw [H]; rfl)
    · replace H := H.2 hc
      refine jm_E_n 4 (x' := (27, [some (jm_r 7 0), some (jm_i a0), some (jm_r 2 (3 * (h1.2.1 7 0 1) + a0.toNatClampNeg)), some (jm_i 0), some (jm_i 32), none], [], h3)) rfl ?_
      exact jm_E_weak (jm_le_s (jm_le_n (jm_le_s (jm_le_s (jm_le_s (jm_le_n jm_le_nil)))))) H
set_option maxRecDepth 100000 in
theorem wp_FR_hasTable {a0 : Int32} {h : jm_H} {r : jm_Rs} (H :
  ∃ (v1 : Int32) (h1 : jm_H), m_FR_isMode a0 h v1 h1 ∧
  (v1 = 0 →
    ∃ (v2 : Int32) (h2 : jm_H), m_FR_refused 1 h1 v2 h2 ∧
    r = (some (jm_i v2), h2)) ∧
  (¬ (v1 = 0) →
    jm_in a0 3 ∧
    ((h1.1 6 (3 * 0 + a0.toNatClampNeg) 1) = 0 →
      ∃ (v3 : Int32) (h3 : jm_H), m_FR_answered 0 h1 v3 h3 ∧
      r = (some (jm_i v3), h3)) ∧
    (¬ ((h1.1 6 (3 * 0 + a0.toNatClampNeg) 1) = 0) →
      ∃ (v4 : Int32) (h4 : jm_H), m_FR_answered 1 h1 v4 h4 ∧
      r = (some (jm_i v4), h4)))) : jm_R 36 [jm_r 7 0, jm_i a0] h r := by
  refine jm_R_of hz_36 (Nat.le_of_ble_eq_true rfl) ?_
  show jm_E cod_36 (0, [some (jm_r 7 0), some (jm_i a0)], [], h) r
  refine jm_E_n 2 (x' := (2, [some (jm_r 7 0), some (jm_i a0)], [jm_i a0, jm_r 7 0], h)) rfl ?_
  obtain ⟨v1, h1, hR, H⟩ := H
  refine jm_E_call rfl (Nat.le_of_ble_eq_true rfl) (Nat.le_of_ble_eq_true rfl) rfl hR trivial ?_
  refine jm_E_eq (x := (3, [some (jm_r 7 0), some (jm_i a0)], [jm_i v1], h1)) rfl ?_
  refine jm_E_n 1 (x' := (if v1 = 0 then 4 else 8, [some (jm_r 7 0), some (jm_i a0)], [], h1)) rfl ?_
  refine jm_E_ite (fun hc => ?_) (fun hc => ?_)
  · replace H := H.1 hc
    refine jm_E_n 2 (x' := (6, [some (jm_r 7 0), some (jm_i a0)], [jm_i 1, jm_r 7 0], h1)) rfl ?_
    obtain ⟨v2, h2, hR, H⟩ := H
    refine jm_E_call rfl (Nat.le_of_ble_eq_true rfl) (Nat.le_of_ble_eq_true rfl) rfl hR trivial ?_
    refine jm_E_eq (x := (7, [some (jm_r 7 0), some (jm_i a0)], [jm_i v2], h2)) rfl ?_
    exact jm_E_ret rfl (by rw [H]; rfl)
  · replace H := H.2 hc
    refine jm_E_n 4 (x' := (12, [some (jm_r 7 0), some (jm_i a0)], [jm_i a0, jm_r 32 0, jm_r 7 0], h1)) rfl ?_
    refine jm_E_aald rfl rfl H.1 ?_
    replace H := H.2
    refine jm_E_eq (x := (13, [some (jm_r 7 0), some (jm_i a0)], [jm_r 6 (3 * 0 + a0.toNatClampNeg), jm_r 7 0], h1)) rfl ?_
    refine jm_E_n 2 (x' := (if (h1.1 6 (3 * 0 + a0.toNatClampNeg) 1) = 0 then 17 else 15, [some (jm_r 7 0), some (jm_i a0)], [jm_r 7 0], h1)) rfl ?_
    refine jm_E_ite (fun hc => ?_) (fun hc => ?_)
    · replace H := H.1 hc
      refine jm_E_n 1 (x' := (18, [some (jm_r 7 0), some (jm_i a0)], [jm_i 0, jm_r 7 0], h1)) rfl ?_
      obtain ⟨v3, h3, hR, H⟩ := H
      refine jm_E_call rfl (Nat.le_of_ble_eq_true rfl) (Nat.le_of_ble_eq_true rfl) rfl hR trivial ?_
      refine jm_E_eq (x := (19, [some (jm_r 7 0), some (jm_i a0)], [jm_i v3], h3)) rfl ?_
      exact jm_E_ret rfl (by rw [H]; rfl)
    · replace H := H.2 hc
      refine jm_E_n 2 (x' := (18, [some (jm_r 7 0), some (jm_i a0)], [jm_i 1, jm_r 7 0], h1)) rfl ?_
      obtain ⟨v4, h4, hR, H⟩ := H
      refine jm_E_call rfl (Nat.le_of_ble_eq_true rfl) (Nat.le_of_ble_eq_true rfl) rfl hR trivial ?_
      refine jm_E_eq (x := (19, [some (jm_r 7 0), some (jm_i a0)], [jm_i v4], h4)) rfl ?_
      exact jm_E_ret rfl (by rw [H]; rfl)
set_option maxRecDepth 100000 in
theorem wp_FR_tableRefusal {a0 : Int32} {a1 : Int32} {h : jm_H} {r : jm_Rs} (H :
  ∃ (v1 : Int32) (h1 : jm_H), m_FR_isMode a0 h v1 h1 ∧
  (v1 = 0 →
    r = (some (jm_i 1), h1)) ∧
  (¬ (v1 = 0) →
    (a1 = 0 →
      r = (some (jm_i 1), h1)) ∧
    (¬ (a1 = 0) →
      jm_in a0 3 ∧
      ((h1.1 6 (3 * 0 + a0.toNatClampNeg) 1) = 0 →
        r = (some (jm_i 5), h1)) ∧
      (¬ ((h1.1 6 (3 * 0 + a0.toNatClampNeg) 1) = 0) →
        r = (some (jm_i 0), h1))))) : jm_R 44 [jm_r 7 0, jm_i a0, jm_i a1] h r := by
  refine jm_R_of hz_44 (Nat.le_of_ble_eq_true rfl) ?_
  show jm_E cod_44 (0, [some (jm_r 7 0), some (jm_i a0), some (jm_i a1)], [], h) r
  refine jm_E_n 2 (x' := (2, [some (jm_r 7 0), some (jm_i a0), some (jm_i a1)], [jm_i a0, jm_r 7 0], h)) rfl ?_
  obtain ⟨v1, h1, hR, H⟩ := H
  refine jm_E_call rfl (Nat.le_of_ble_eq_true rfl) (Nat.le_of_ble_eq_true rfl) rfl hR trivial ?_
  refine jm_E_eq (x := (3, [some (jm_r 7 0), some (jm_i a0), some (jm_i a1)], [jm_i v1], h1)) rfl ?_
  refine jm_E_n 1 (x' := (if v1 = 0 then 6 else 4, [some (jm_r 7 0), some (jm_i a0), some (jm_i a1)], [], h1)) rfl ?_
  refine jm_E_ite (fun hc => ?_) (fun hc => ?_)
  · replace H := H.1 hc
    refine jm_E_n 1 (x' := (7, [some (jm_r 7 0), some (jm_i a0), some (jm_i a1)], [jm_i 1], h1)) rfl ?_
    exact jm_E_ret rfl (by rw [H]; rfl)
  · replace H := H.2 hc
    refine jm_E_n 2 (x' := (if a1 = 0 then 6 else 8, [some (jm_r 7 0), some (jm_i a0), some (jm_i a1)], [], h1)) rfl ?_
    refine jm_E_ite (fun hc => ?_) (fun hc => ?_)
    · replace H := H.1 hc
      refine jm_E_n 1 (x' := (7, [some (jm_r 7 0), some (jm_i a0), some (jm_i a1)], [jm_i 1], h1)) rfl ?_
      exact jm_E_ret rfl (by rw [H]; rfl)
    · replace H := H.2 hc
      refine jm_E_n 3 (x' := (11, [some (jm_r 7 0), some (jm_i a0), some (jm_i a1)], [jm_i a0, jm_r 32 0], h1)) rfl ?_
      refine jm_E_aald rfl rfl H.1 ?_
      replace H := H.2
      refine jm_E_eq (x := (12, [some (jm_r 7 0), some (jm_i a0), some (jm_i a1)], [jm_r 6 (3 * 0 + a0.toNatClampNeg)], h1)) rfl ?_
      refine jm_E_n 2 (x' := (if (h1.1 6 (3 * 0 + a0.toNatClampNeg) 1) = 0 then 16 else 14, [some (jm_r 7 0), some (jm_i a0), some (jm_i a1)], [], h1)) rfl ?_
      refine jm_E_ite (fun hc => ?_) (fun hc => ?_)
      · replace H := H.1 hc
        refine jm_E_n 1 (x' := (17, [some (jm_r 7 0), some (jm_i a0), some (jm_i a1)], [jm_i 5], h1)) rfl ?_
        exact jm_E_ret rfl (by rw [H]; rfl)
      · replace H := H.2 hc
        refine jm_E_n 2 (x' := (17, [some (jm_r 7 0), some (jm_i a0), some (jm_i a1)], [jm_i 0], h1)) rfl ?_
        exact jm_E_ret rfl (by rw [H]; rfl)
set_option maxRecDepth 100000 in
theorem wp_FR_pieces {a0 : Int32} {h : jm_H} {r : jm_Rs} (H :
  ∃ (v1 : Int32) (h1 : jm_H), m_FR_isMode a0 h v1 h1 ∧
  ∃ (v2 : Int32) (h2 : jm_H), m_FR_tableRefusal a0 v1 h1 v2 h2 ∧
  (v2 = 0 →
    jm_in a0 3 ∧
    ∃ (v3 : Int32) (h3 : jm_H), m_FR_answered (h2.1 6 (3 * 0 + a0.toNatClampNeg) 2) h2 v3 h3 ∧
    r = (some (jm_i v3), h3)) ∧
  (¬ (v2 = 0) →
    ∃ (v4 : Int32) (h4 : jm_H), m_FR_refused v2 h2 v4 h4 ∧
    r = (some (jm_i v4), h4))) : jm_R 37 [jm_r 7 0, jm_i a0] h r := by
  refine jm_R_of hz_37 (Nat.le_of_ble_eq_true rfl) ?_
  show jm_E cod_37 (0, [some (jm_r 7 0), some (jm_i a0), none], [], h) r
  refine jm_E_n 4 (x' := (4, [some (jm_r 7 0), some (jm_i a0), none], [jm_i a0, jm_r 7 0, jm_i a0, jm_r 7 0], h)) rfl ?_
  obtain ⟨v1, h1, hR, H⟩ := H
  refine jm_E_call rfl (Nat.le_of_ble_eq_true rfl) (Nat.le_of_ble_eq_true rfl) rfl hR trivial ?_
  refine jm_E_eq (x := (5, [some (jm_r 7 0), some (jm_i a0), none], [jm_i v1, jm_i a0, jm_r 7 0], h1)) rfl ?_
  obtain ⟨v2, h2, hR, H⟩ := H
  refine jm_E_call rfl (Nat.le_of_ble_eq_true rfl) (Nat.le_of_ble_eq_true rfl) rfl hR trivial ?_
  refine jm_E_eq (x := (6, [some (jm_r 7 0), some (jm_i a0), none], [jm_i v2], h2)) rfl ?_
  refine jm_E_n 3 (x' := (if v2 = 0 then 13 else 9, [some (jm_r 7 0), some (jm_i a0), some (jm_i v2)], [], h2)) rfl ?_
  refine jm_E_ite (fun hc => ?_) (fun hc => ?_)
  · replace H := H.1 hc
    refine jm_E_n 4 (x' := (17, [some (jm_r 7 0), some (jm_i a0), some (jm_i v2)], [jm_i a0, jm_r 32 0, jm_r 7 0], h2)) rfl ?_
    refine jm_E_aald rfl rfl H.1 ?_
    replace H := H.2
    refine jm_E_eq (x := (18, [some (jm_r 7 0), some (jm_i a0), some (jm_i v2)], [jm_r 6 (3 * 0 + a0.toNatClampNeg), jm_r 7 0], h2)) rfl ?_
    refine jm_E_n 1 (x' := (19, [some (jm_r 7 0), some (jm_i a0), some (jm_i v2)], [jm_i (h2.1 6 (3 * 0 + a0.toNatClampNeg) 2), jm_r 7 0], h2)) rfl ?_
    obtain ⟨v3, h3, hR, H⟩ := H
    refine jm_E_call rfl (Nat.le_of_ble_eq_true rfl) (Nat.le_of_ble_eq_true rfl) rfl hR trivial ?_
    refine jm_E_eq (x := (20, [some (jm_r 7 0), some (jm_i a0), some (jm_i v2)], [jm_i v3], h3)) rfl ?_
    exact jm_E_ret rfl (by rw [H]; rfl)
  · replace H := H.2 hc
    refine jm_E_n 2 (x' := (11, [some (jm_r 7 0), some (jm_i a0), some (jm_i v2)], [jm_i v2, jm_r 7 0], h2)) rfl ?_
    obtain ⟨v4, h4, hR, H⟩ := H
    refine jm_E_call rfl (Nat.le_of_ble_eq_true rfl) (Nat.le_of_ble_eq_true rfl) rfl hR trivial ?_
    refine jm_E_eq (x := (12, [some (jm_r 7 0), some (jm_i a0), some (jm_i v2)], [jm_i v4], h4)) rfl ?_
    refine jm_E_n 1 (x' := (20, [some (jm_r 7 0), some (jm_i a0), some (jm_i v2)], [jm_i v4], h4)) rfl ?_
    exact jm_E_ret rfl (by rw [H]; rfl)
set_option maxRecDepth 100000 in
theorem wp_FR_swaps {a0 : Int32} {h : jm_H} {r : jm_Rs} (H :
  ∃ (v1 : Int32) (h1 : jm_H), m_FR_isMode a0 h v1 h1 ∧
  ∃ (v2 : Int32) (h2 : jm_H), m_FR_tableRefusal a0 v1 h1 v2 h2 ∧
  (v2 = 0 →
    jm_in a0 3 ∧
    ∃ (v3 : Int32) (h3 : jm_H), m_FR_answered (h2.1 6 (3 * 0 + a0.toNatClampNeg) 3) h2 v3 h3 ∧
    r = (some (jm_i v3), h3)) ∧
  (¬ (v2 = 0) →
    ∃ (v4 : Int32) (h4 : jm_H), m_FR_refused v2 h2 v4 h4 ∧
    r = (some (jm_i v4), h4))) : jm_R 38 [jm_r 7 0, jm_i a0] h r := by
  refine jm_R_of hz_38 (Nat.le_of_ble_eq_true rfl) ?_
  show jm_E cod_38 (0, [some (jm_r 7 0), some (jm_i a0), none], [], h) r
  refine jm_E_n 4 (x' := (4, [some (jm_r 7 0), some (jm_i a0), none], [jm_i a0, jm_r 7 0, jm_i a0, jm_r 7 0], h)) rfl ?_
  obtain ⟨v1, h1, hR, H⟩ := H
  refine jm_E_call rfl (Nat.le_of_ble_eq_true rfl) (Nat.le_of_ble_eq_true rfl) rfl hR trivial ?_
  refine jm_E_eq (x := (5, [some (jm_r 7 0), some (jm_i a0), none], [jm_i v1, jm_i a0, jm_r 7 0], h1)) rfl ?_
  obtain ⟨v2, h2, hR, H⟩ := H
  refine jm_E_call rfl (Nat.le_of_ble_eq_true rfl) (Nat.le_of_ble_eq_true rfl) rfl hR trivial ?_
  refine jm_E_eq (x := (6, [some (jm_r 7 0), some (jm_i a0), none], [jm_i v2], h2)) rfl ?_
  refine jm_E_n 3 (x' := (if v2 = 0 then 13 else 9, [some (jm_r 7 0), some (jm_i a0), some (jm_i v2)], [], h2)) rfl ?_
  refine jm_E_ite (fun hc => ?_) (fun hc => ?_)
  · replace H := H.1 hc
    refine jm_E_n 4 (x' := (17, [some (jm_r 7 0), some (jm_i a0), some (jm_i v2)], [jm_i a0, jm_r 32 0, jm_r 7 0], h2)) rfl ?_
    refine jm_E_aald rfl rfl H.1 ?_
    replace H := H.2
    refine jm_E_eq (x := (18, [some (jm_r 7 0), some (jm_i a0), some (jm_i v2)], [jm_r 6 (3 * 0 + a0.toNatClampNeg), jm_r 7 0], h2)) rfl ?_
    refine jm_E_n 1 (x' := (19, [some (jm_r 7 0), some (jm_i a0), some (jm_i v2)], [jm_i (h2.1 6 (3 * 0 + a0.toNatClampNeg) 3), jm_r 7 0], h2)) rfl ?_
    obtain ⟨v3, h3, hR, H⟩ := H
    refine jm_E_call rfl (Nat.le_of_ble_eq_true rfl) (Nat.le_of_ble_eq_true rfl) rfl hR trivial ?_
    refine jm_E_eq (x := (20, [some (jm_r 7 0), some (jm_i a0), some (jm_i v2)], [jm_i v3], h3)) rfl ?_
    exact jm_E_ret rfl (by rw [H]; rfl)
  · replace H := H.2 hc
    refine jm_E_n 2 (x' := (11, [some (jm_r 7 0), some (jm_i a0), some (jm_i v2)], [jm_i v2, jm_r 7 0], h2)) rfl ?_
    obtain ⟨v4, h4, hR, H⟩ := H
    refine jm_E_call rfl (Nat.le_of_ble_eq_true rfl) (Nat.le_of_ble_eq_true rfl) rfl hR trivial ?_
    refine jm_E_eq (x := (12, [some (jm_r 7 0), some (jm_i a0), some (jm_i v2)], [jm_i v4], h4)) rfl ?_
    refine jm_E_n 1 (x' := (20, [some (jm_r 7 0), some (jm_i a0), some (jm_i v2)], [jm_i v4], h4)) rfl ?_
    exact jm_E_ret rfl (by rw [H]; rfl)
set_option maxRecDepth 100000 in
theorem wp_FR_share {a0 : Int32} {a1 : Int32} {a2 : Int32} {h : jm_H} {r : jm_Rs} (H :
  ∃ (v1 : Int32) (h1 : jm_H), m_FR_isJob a0 a1 h v1 h1 ∧
  (v1 = 0 →
    ∃ (v2 : Int32) (h2 : jm_H), m_FR_tableRefusal a0 0 h1 v2 h2 ∧
    (v2 = 0 →
      jm_in a0 3 ∧
      jm_in a1 24 ∧
      jm_in a2 24 ∧
      ∃ (v3 : Int32) (h3 : jm_H), m_FR_answered (h2.1 21 (24 * (3 * 0 + a0.toNatClampNeg) + a1.toNatClampNeg) a2.toNatClampNeg) h2 v3 h3 ∧
      r = (some (jm_i v3), h3)) ∧
    (¬ (v2 = 0) →
      ∃ (v4 : Int32) (h4 : jm_H), m_FR_refused v2 h2 v4 h4 ∧
      r = (some (jm_i v4), h4))) ∧
  (¬ (v1 = 0) →
    ∃ (v5 : Int32) (h5 : jm_H), m_FR_isFrame a0 a2 h1 v5 h5 ∧
    (v5 = 0 →
      ∃ (v6 : Int32) (h6 : jm_H), m_FR_tableRefusal a0 0 h5 v6 h6 ∧
      (v6 = 0 →
        jm_in a0 3 ∧
        jm_in a1 24 ∧
        jm_in a2 24 ∧
        ∃ (v7 : Int32) (h7 : jm_H), m_FR_answered (h6.1 21 (24 * (3 * 0 + a0.toNatClampNeg) + a1.toNatClampNeg) a2.toNatClampNeg) h6 v7 h7 ∧
        r = (some (jm_i v7), h7)) ∧
      (¬ (v6 = 0) →
        ∃ (v8 : Int32) (h8 : jm_H), m_FR_refused v6 h6 v8 h8 ∧
        r = (some (jm_i v8), h8))) ∧
    (¬ (v5 = 0) →
      ∃ (v9 : Int32) (h9 : jm_H), m_FR_tableRefusal a0 1 h5 v9 h9 ∧
      (v9 = 0 →
        jm_in a0 3 ∧
        jm_in a1 24 ∧
        jm_in a2 24 ∧
        ∃ (v10 : Int32) (h10 : jm_H), m_FR_answered (h9.1 21 (24 * (3 * 0 + a0.toNatClampNeg) + a1.toNatClampNeg) a2.toNatClampNeg) h9 v10 h10 ∧
        r = (some (jm_i v10), h10)) ∧
      (¬ (v9 = 0) →
        ∃ (v11 : Int32) (h11 : jm_H), m_FR_refused v9 h9 v11 h11 ∧
        r = (some (jm_i v11), h11))))) : jm_R 39 [jm_r 7 0, jm_i a0, jm_i a1, jm_i a2] h r := by
  refine jm_R_of hz_39 (Nat.le_of_ble_eq_true rfl) ?_
  show jm_E cod_39 (0, [some (jm_r 7 0), some (jm_i a0), some (jm_i a1), some (jm_i a2), none], [], h) r
  refine jm_E_n 5 (x' := (5, [some (jm_r 7 0), some (jm_i a0), some (jm_i a1), some (jm_i a2), none], [jm_i a1, jm_i a0, jm_r 7 0, jm_i a0, jm_r 7 0], h)) rfl ?_
  obtain ⟨v1, h1, hR, H⟩ := H
  refine jm_E_call rfl (Nat.le_of_ble_eq_true rfl) (Nat.le_of_ble_eq_true rfl) rfl hR trivial ?_
  refine jm_E_eq (x := (6, [some (jm_r 7 0), some (jm_i a0), some (jm_i a1), some (jm_i a2), none], [jm_i v1, jm_i a0, jm_r 7 0], h1)) rfl ?_
  refine jm_E_n 1 (x' := (if v1 = 0 then 14 else 7, [some (jm_r 7 0), some (jm_i a0), some (jm_i a1), some (jm_i a2), none], [jm_i a0, jm_r 7 0], h1)) rfl ?_
  refine jm_E_ite (fun hc => ?_) (fun hc => ?_)
  · replace H := H.1 hc
    refine jm_E_n 1 (x' := (15, [some (jm_r 7 0), some (jm_i a0), some (jm_i a1), some (jm_i a2), none], [jm_i 0, jm_i a0, jm_r 7 0], h1)) rfl ?_
    obtain ⟨v2, h2, hR, H⟩ := H
    refine jm_E_call rfl (Nat.le_of_ble_eq_true rfl) (Nat.le_of_ble_eq_true rfl) rfl hR trivial ?_
    refine jm_E_eq (x := (16, [some (jm_r 7 0), some (jm_i a0), some (jm_i a1), some (jm_i a2), none], [jm_i v2], h2)) rfl ?_
    refine jm_E_n 3 (x' := (if v2 = 0 then 23 else 19, [some (jm_r 7 0), some (jm_i a0), some (jm_i a1), some (jm_i a2), some (jm_i v2)], [], h2)) rfl ?_
    refine jm_E_ite (fun hc => ?_) (fun hc => ?_)
    · replace H := H.1 hc
      refine jm_E_n 4 (x' := (27, [some (jm_r 7 0), some (jm_i a0), some (jm_i a1), some (jm_i a2), some (jm_i v2)], [jm_i a0, jm_r 32 0, jm_r 7 0], h2)) rfl ?_
      refine jm_E_aald rfl rfl H.1 ?_
      replace H := H.2
      refine jm_E_eq (x := (28, [some (jm_r 7 0), some (jm_i a0), some (jm_i a1), some (jm_i a2), some (jm_i v2)], [jm_r 6 (3 * 0 + a0.toNatClampNeg), jm_r 7 0], h2)) rfl ?_
      refine jm_E_n 3 (x' := (31, [some (jm_r 7 0), some (jm_i a0), some (jm_i a1), some (jm_i a2), some (jm_i v2)], [jm_i a1, jm_r 20 (3 * 0 + a0.toNatClampNeg), jm_r 7 0], h2)) rfl ?_
      refine jm_E_aald rfl rfl H.1 ?_
      replace H := H.2
      refine jm_E_eq (x := (32, [some (jm_r 7 0), some (jm_i a0), some (jm_i a1), some (jm_i a2), some (jm_i v2)], [jm_r 21 (24 * (3 * 0 + a0.toNatClampNeg) + a1.toNatClampNeg), jm_r 7 0], h2)) rfl ?_
      refine jm_E_n 1 (x' := (33, [some (jm_r 7 0), some (jm_i a0), some (jm_i a1), some (jm_i a2), some (jm_i v2)], [jm_i a2, jm_r 21 (24 * (3 * 0 + a0.toNatClampNeg) + a1.toNatClampNeg), jm_r 7 0], h2)) rfl ?_
      refine jm_E_iald rfl rfl H.1 ?_
      replace H := H.2
      refine jm_E_eq (x := (34, [some (jm_r 7 0), some (jm_i a0), some (jm_i a1), some (jm_i a2), some (jm_i v2)], [jm_i (h2.1 21 (24 * (3 * 0 + a0.toNatClampNeg) + a1.toNatClampNeg) a2.toNatClampNeg), jm_r 7 0], h2)) rfl ?_
      obtain ⟨v3, h3, hR, H⟩ := H
      refine jm_E_call rfl (Nat.le_of_ble_eq_true rfl) (Nat.le_of_ble_eq_true rfl) rfl hR trivial ?_
      refine jm_E_eq (x := (35, [some (jm_r 7 0), some (jm_i a0), some (jm_i a1), some (jm_i a2), some (jm_i v2)], [jm_i v3], h3)) rfl ?_
      exact jm_E_ret rfl (by rw [H]; rfl)
    · replace H := H.2 hc
      refine jm_E_n 2 (x' := (21, [some (jm_r 7 0), some (jm_i a0), some (jm_i a1), some (jm_i a2), some (jm_i v2)], [jm_i v2, jm_r 7 0], h2)) rfl ?_
      obtain ⟨v4, h4, hR, H⟩ := H
      refine jm_E_call rfl (Nat.le_of_ble_eq_true rfl) (Nat.le_of_ble_eq_true rfl) rfl hR trivial ?_
      refine jm_E_eq (x := (22, [some (jm_r 7 0), some (jm_i a0), some (jm_i a1), some (jm_i a2), some (jm_i v2)], [jm_i v4], h4)) rfl ?_
      refine jm_E_n 1 (x' := (35, [some (jm_r 7 0), some (jm_i a0), some (jm_i a1), some (jm_i a2), some (jm_i v2)], [jm_i v4], h4)) rfl ?_
      exact jm_E_ret rfl (by rw [H]; rfl)
  · replace H := H.2 hc
    refine jm_E_n 3 (x' := (10, [some (jm_r 7 0), some (jm_i a0), some (jm_i a1), some (jm_i a2), none], [jm_i a2, jm_i a0, jm_r 7 0, jm_i a0, jm_r 7 0], h1)) rfl ?_
    obtain ⟨v5, h5, hR, H⟩ := H
    refine jm_E_call rfl (Nat.le_of_ble_eq_true rfl) (Nat.le_of_ble_eq_true rfl) rfl hR trivial ?_
    refine jm_E_eq (x := (11, [some (jm_r 7 0), some (jm_i a0), some (jm_i a1), some (jm_i a2), none], [jm_i v5, jm_i a0, jm_r 7 0], h5)) rfl ?_
    refine jm_E_n 1 (x' := (if v5 = 0 then 14 else 12, [some (jm_r 7 0), some (jm_i a0), some (jm_i a1), some (jm_i a2), none], [jm_i a0, jm_r 7 0], h5)) rfl ?_
    refine jm_E_ite (fun hc => ?_) (fun hc => ?_)
    · replace H := H.1 hc
      refine jm_E_n 1 (x' := (15, [some (jm_r 7 0), some (jm_i a0), some (jm_i a1), some (jm_i a2), none], [jm_i 0, jm_i a0, jm_r 7 0], h5)) rfl ?_
      obtain ⟨v6, h6, hR, H⟩ := H
      refine jm_E_call rfl (Nat.le_of_ble_eq_true rfl) (Nat.le_of_ble_eq_true rfl) rfl hR trivial ?_
      refine jm_E_eq (x := (16, [some (jm_r 7 0), some (jm_i a0), some (jm_i a1), some (jm_i a2), none], [jm_i v6], h6)) rfl ?_
      refine jm_E_n 3 (x' := (if v6 = 0 then 23 else 19, [some (jm_r 7 0), some (jm_i a0), some (jm_i a1), some (jm_i a2), some (jm_i v6)], [], h6)) rfl ?_
      refine jm_E_ite (fun hc => ?_) (fun hc => ?_)
      · replace H := H.1 hc
        refine jm_E_n 4 (x' := (27, [some (jm_r 7 0), some (jm_i a0), some (jm_i a1), some (jm_i a2), some (jm_i v6)], [jm_i a0, jm_r 32 0, jm_r 7 0], h6)) rfl ?_
        refine jm_E_aald rfl rfl H.1 ?_
        replace H := H.2
        refine jm_E_eq (x := (28, [some (jm_r 7 0), some (jm_i a0), some (jm_i a1), some (jm_i a2), some (jm_i v6)], [jm_r 6 (3 * 0 + a0.toNatClampNeg), jm_r 7 0], h6)) rfl ?_
        refine jm_E_n 3 (x' := (31, [some (jm_r 7 0), some (jm_i a0), some (jm_i a1), some (jm_i a2), some (jm_i v6)], [jm_i a1, jm_r 20 (3 * 0 + a0.toNatClampNeg), jm_r 7 0], h6)) rfl ?_
        refine jm_E_aald rfl rfl H.1 ?_
        replace H := H.2
        refine jm_E_eq (x := (32, [some (jm_r 7 0), some (jm_i a0), some (jm_i a1), some (jm_i a2), some (jm_i v6)], [jm_r 21 (24 * (3 * 0 + a0.toNatClampNeg) + a1.toNatClampNeg), jm_r 7 0], h6)) rfl ?_
        refine jm_E_n 1 (x' := (33, [some (jm_r 7 0), some (jm_i a0), some (jm_i a1), some (jm_i a2), some (jm_i v6)], [jm_i a2, jm_r 21 (24 * (3 * 0 + a0.toNatClampNeg) + a1.toNatClampNeg), jm_r 7 0], h6)) rfl ?_
        refine jm_E_iald rfl rfl H.1 ?_
        replace H := H.2
        refine jm_E_eq (x := (34, [some (jm_r 7 0), some (jm_i a0), some (jm_i a1), some (jm_i a2), some (jm_i v6)], [jm_i (h6.1 21 (24 * (3 * 0 + a0.toNatClampNeg) + a1.toNatClampNeg) a2.toNatClampNeg), jm_r 7 0], h6)) rfl ?_
        obtain ⟨v7, h7, hR, H⟩ := H
        refine jm_E_call rfl (Nat.le_of_ble_eq_true rfl) (Nat.le_of_ble_eq_true rfl) rfl hR trivial ?_
        refine jm_E_eq (x := (35, [some (jm_r 7 0), some (jm_i a0), some (jm_i a1), some (jm_i a2), some (jm_i v6)], [jm_i v7], h7)) rfl ?_
        exact jm_E_ret rfl (by rw [H]; rfl)
      · replace H := H.2 hc
        refine jm_E_n 2 (x' := (21, [some (jm_r 7 0), some (jm_i a0), some (jm_i a1), some (jm_i a2), some (jm_i v6)], [jm_i v6, jm_r 7 0], h6)) rfl ?_
        obtain ⟨v8, h8, hR, H⟩ := H
        refine jm_E_call rfl (Nat.le_of_ble_eq_true rfl) (Nat.le_of_ble_eq_true rfl) rfl hR trivial ?_
        refine jm_E_eq (x := (22, [some (jm_r 7 0), some (jm_i a0), some (jm_i a1), some (jm_i a2), some (jm_i v6)], [jm_i v8], h8)) rfl ?_
        refine jm_E_n 1 (x' := (35, [some (jm_r 7 0), some (jm_i a0), some (jm_i a1), some (jm_i a2), some (jm_i v6)], [jm_i v8], h8)) rfl ?_
        exact jm_E_ret rfl (by rw [H]; rfl)
    · replace H := H.2 hc
      refine jm_E_n 2 (x' := (15, [some (jm_r 7 0), some (jm_i a0), some (jm_i a1), some (jm_i a2), none], [jm_i 1, jm_i a0, jm_r 7 0], h5)) rfl ?_
      obtain ⟨v9, h9, hR, H⟩ := H
      refine jm_E_call rfl (Nat.le_of_ble_eq_true rfl) (Nat.le_of_ble_eq_true rfl) rfl hR trivial ?_
      refine jm_E_eq (x := (16, [some (jm_r 7 0), some (jm_i a0), some (jm_i a1), some (jm_i a2), none], [jm_i v9], h9)) rfl ?_
      refine jm_E_n 3 (x' := (if v9 = 0 then 23 else 19, [some (jm_r 7 0), some (jm_i a0), some (jm_i a1), some (jm_i a2), some (jm_i v9)], [], h9)) rfl ?_
      refine jm_E_ite (fun hc => ?_) (fun hc => ?_)
      · replace H := H.1 hc
        refine jm_E_n 4 (x' := (27, [some (jm_r 7 0), some (jm_i a0), some (jm_i a1), some (jm_i a2), some (jm_i v9)], [jm_i a0, jm_r 32 0, jm_r 7 0], h9)) rfl ?_
        refine jm_E_aald rfl rfl H.1 ?_
        replace H := H.2
        refine jm_E_eq (x := (28, [some (jm_r 7 0), some (jm_i a0), some (jm_i a1), some (jm_i a2), some (jm_i v9)], [jm_r 6 (3 * 0 + a0.toNatClampNeg), jm_r 7 0], h9)) rfl ?_
        refine jm_E_n 3 (x' := (31, [some (jm_r 7 0), some (jm_i a0), some (jm_i a1), some (jm_i a2), some (jm_i v9)], [jm_i a1, jm_r 20 (3 * 0 + a0.toNatClampNeg), jm_r 7 0], h9)) rfl ?_
        refine jm_E_aald rfl rfl H.1 ?_
        replace H := H.2
        refine jm_E_eq (x := (32, [some (jm_r 7 0), some (jm_i a0), some (jm_i a1), some (jm_i a2), some (jm_i v9)], [jm_r 21 (24 * (3 * 0 + a0.toNatClampNeg) + a1.toNatClampNeg), jm_r 7 0], h9)) rfl ?_
        refine jm_E_n 1 (x' := (33, [some (jm_r 7 0), some (jm_i a0), some (jm_i a1), some (jm_i a2), some (jm_i v9)], [jm_i a2, jm_r 21 (24 * (3 * 0 + a0.toNatClampNeg) + a1.toNatClampNeg), jm_r 7 0], h9)) rfl ?_
        refine jm_E_iald rfl rfl H.1 ?_
        replace H := H.2
        refine jm_E_eq (x := (34, [some (jm_r 7 0), some (jm_i a0), some (jm_i a1), some (jm_i a2), some (jm_i v9)], [jm_i (h9.1 21 (24 * (3 * 0 + a0.toNatClampNeg) + a1.toNatClampNeg) a2.toNatClampNeg), jm_r 7 0], h9)) rfl ?_
        obtain ⟨v10, h10, hR, H⟩ := H
        refine jm_E_call rfl (Nat.le_of_ble_eq_true rfl) (Nat.le_of_ble_eq_true rfl) rfl hR trivial ?_
        refine jm_E_eq (x := (35, [some (jm_r 7 0), some (jm_i a0), some (jm_i a1), some (jm_i a2), some (jm_i v9)], [jm_i v10], h10)) rfl ?_
        exact jm_E_ret rfl (by rw [H]; rfl)
      · replace H := H.2 hc
        refine jm_E_n 2 (x' := (21, [some (jm_r 7 0), some (jm_i a0), some (jm_i a1), some (jm_i a2), some (jm_i v9)], [jm_i v9, jm_r 7 0], h9)) rfl ?_
        obtain ⟨v11, h11, hR, H⟩ := H
        refine jm_E_call rfl (Nat.le_of_ble_eq_true rfl) (Nat.le_of_ble_eq_true rfl) rfl hR trivial ?_
        refine jm_E_eq (x := (22, [some (jm_r 7 0), some (jm_i a0), some (jm_i a1), some (jm_i a2), some (jm_i v9)], [jm_i v11], h11)) rfl ?_
        refine jm_E_n 1 (x' := (35, [some (jm_r 7 0), some (jm_i a0), some (jm_i a1), some (jm_i a2), some (jm_i v9)], [jm_i v11], h11)) rfl ?_
        exact jm_E_ret rfl (by rw [H]; rfl)
set_option maxRecDepth 100000 in
theorem wp_Table_pieceStart_8 {x0 : Nat} {x1 : Int32} {x2 : Int32} {x3 : Int32} {x4 : Int32} {h : jm_H} {r : jm_Rs} (H :
  ((h.1 1 x0 3) ≤ x4 →
    r = (some (jm_i x3), h)) ∧
  (¬ ((h.1 1 x0 3) ≤ x4) →
    jm_in x4 24 ∧
    jm_in x1 24 ∧
    ((h.1 14 x0 x4.toNatClampNeg) < (h.1 14 x0 x1.toNatClampNeg) →
      jm_in x4 24 ∧
      jm_in x2 24 ∧
      l_Table_pieceStart_8 x0 x1 x2 (x3 + (h.1 21 (24 * x0 + x4.toNatClampNeg) x2.toNatClampNeg)) (x4 + 1) h r) ∧
    (¬ ((h.1 14 x0 x4.toNatClampNeg) < (h.1 14 x0 x1.toNatClampNeg)) →
      jm_in x4 24 ∧
      jm_in x1 24 ∧
      ((h.1 14 x0 x4.toNatClampNeg) = (h.1 14 x0 x1.toNatClampNeg) →
        (x1 ≤ x4 →
          l_Table_pieceStart_8 x0 x1 x2 x3 (x4 + 1) h r) ∧
        (¬ (x1 ≤ x4) →
          jm_in x4 24 ∧
          jm_in x2 24 ∧
          l_Table_pieceStart_8 x0 x1 x2 (x3 + (h.1 21 (24 * x0 + x4.toNatClampNeg) x2.toNatClampNeg)) (x4 + 1) h r)) ∧
      (¬ ((h.1 14 x0 x4.toNatClampNeg) = (h.1 14 x0 x1.toNatClampNeg)) →
        l_Table_pieceStart_8 x0 x1 x2 x3 (x4 + 1) h r)))) : l_Table_pieceStart_8 x0 x1 x2 x3 x4 h r := by
  refine jm_E_n 5 (x' := (if (h.1 1 x0 3) ≤ x4 then 50 else 13, [some (jm_r 6 x0), some (jm_i x1), some (jm_i x2), some (jm_i x3), some (jm_i x4)], [], h)) rfl ?_
  refine jm_E_ite (fun hc => ?_) (fun hc => ?_)
  · replace H := H.1 hc
    refine jm_E_n 1 (x' := (51, [some (jm_r 6 x0), some (jm_i x1), some (jm_i x2), some (jm_i x3), some (jm_i x4)], [jm_i x3], h)) rfl ?_
    exact jm_E_ret rfl (by rw [H]; rfl)
  · replace H := H.2 hc
    refine jm_E_n 4 (x' := (17, [some (jm_r 6 x0), some (jm_i x1), some (jm_i x2), some (jm_i x3), some (jm_i x4)], [jm_i x4, jm_r 14 x0], h)) rfl ?_
    refine jm_E_iald rfl rfl H.1 ?_
    replace H := H.2
    refine jm_E_eq (x := (18, [some (jm_r 6 x0), some (jm_i x1), some (jm_i x2), some (jm_i x3), some (jm_i x4)], [jm_i (h.1 14 x0 x4.toNatClampNeg)], h)) rfl ?_
    refine jm_E_n 4 (x' := (22, [some (jm_r 6 x0), some (jm_i x1), some (jm_i x2), some (jm_i x3), some (jm_i x4)], [jm_i x1, jm_r 14 x0, jm_i (h.1 14 x0 x4.toNatClampNeg)], h)) rfl ?_
    refine jm_E_iald rfl rfl H.1 ?_
    replace H := H.2
    refine jm_E_eq (x := (23, [some (jm_r 6 x0), some (jm_i x1), some (jm_i x2), some (jm_i x3), some (jm_i x4)], [jm_i (h.1 14 x0 x1.toNatClampNeg), jm_i (h.1 14 x0 x4.toNatClampNeg)], h)) rfl ?_
    refine jm_E_n 1 (x' := (if (h.1 14 x0 x4.toNatClampNeg) < (h.1 14 x0 x1.toNatClampNeg) then 38 else 24, [some (jm_r 6 x0), some (jm_i x1), some (jm_i x2), some (jm_i x3), some (jm_i x4)], [], h)) rfl ?_
    refine jm_E_ite (fun hc => ?_) (fun hc => ?_)
    · replace H := H.1 hc
      refine jm_E_n 5 (x' := (43, [some (jm_r 6 x0), some (jm_i x1), some (jm_i x2), some (jm_i x3), some (jm_i x4)], [jm_i x4, jm_r 20 x0, jm_i x3], h)) rfl ?_
      refine jm_E_aald rfl rfl H.1 ?_
      replace H := H.2
      refine jm_E_eq (x := (44, [some (jm_r 6 x0), some (jm_i x1), some (jm_i x2), some (jm_i x3), some (jm_i x4)], [jm_r 21 (24 * x0 + x4.toNatClampNeg), jm_i x3], h)) rfl ?_
      refine jm_E_n 1 (x' := (45, [some (jm_r 6 x0), some (jm_i x1), some (jm_i x2), some (jm_i x3), some (jm_i x4)], [jm_i x2, jm_r 21 (24 * x0 + x4.toNatClampNeg), jm_i x3], h)) rfl ?_
      refine jm_E_iald rfl rfl H.1 ?_
      replace H := H.2
      refine jm_E_eq (x := (46, [some (jm_r 6 x0), some (jm_i x1), some (jm_i x2), some (jm_i x3), some (jm_i x4)], [jm_i (h.1 21 (24 * x0 + x4.toNatClampNeg) x2.toNatClampNeg), jm_i x3], h)) rfl ?_
      refine jm_E_n 4 (x' := (8, [some (jm_r 6 x0), some (jm_i x1), some (jm_i x2), some (jm_i (x3 + (h.1 21 (24 * x0 + x4.toNatClampNeg) x2.toNatClampNeg))), some (jm_i (x4 + 1))], [], h)) rfl ?_
      exact H
    · replace H := H.2 hc
      refine jm_E_n 4 (x' := (28, [some (jm_r 6 x0), some (jm_i x1), some (jm_i x2), some (jm_i x3), some (jm_i x4)], [jm_i x4, jm_r 14 x0], h)) rfl ?_
      refine jm_E_iald rfl rfl H.1 ?_
      replace H := H.2
      refine jm_E_eq (x := (29, [some (jm_r 6 x0), some (jm_i x1), some (jm_i x2), some (jm_i x3), some (jm_i x4)], [jm_i (h.1 14 x0 x4.toNatClampNeg)], h)) rfl ?_
      refine jm_E_n 4 (x' := (33, [some (jm_r 6 x0), some (jm_i x1), some (jm_i x2), some (jm_i x3), some (jm_i x4)], [jm_i x1, jm_r 14 x0, jm_i (h.1 14 x0 x4.toNatClampNeg)], h)) rfl ?_
      refine jm_E_iald rfl rfl H.1 ?_
      replace H := H.2
      refine jm_E_eq (x := (34, [some (jm_r 6 x0), some (jm_i x1), some (jm_i x2), some (jm_i x3), some (jm_i x4)], [jm_i (h.1 14 x0 x1.toNatClampNeg), jm_i (h.1 14 x0 x4.toNatClampNeg)], h)) rfl ?_
      refine jm_E_n 1 (x' := (if (h.1 14 x0 x4.toNatClampNeg) = (h.1 14 x0 x1.toNatClampNeg) then 35 else 48, [some (jm_r 6 x0), some (jm_i x1), some (jm_i x2), some (jm_i x3), some (jm_i x4)], [], h)) rfl ?_
      refine jm_E_ite (fun hc => ?_) (fun hc => ?_)
      · replace H := H.1 hc
        refine jm_E_n 3 (x' := (if x1 ≤ x4 then 48 else 38, [some (jm_r 6 x0), some (jm_i x1), some (jm_i x2), some (jm_i x3), some (jm_i x4)], [], h)) rfl ?_
        refine jm_E_ite (fun hc => ?_) (fun hc => ?_)
        · replace H := H.1 hc
          refine jm_E_n 2 (x' := (8, [some (jm_r 6 x0), some (jm_i x1), some (jm_i x2), some (jm_i x3), some (jm_i (x4 + 1))], [], h)) rfl ?_
          exact H
        · replace H := H.2 hc
          refine jm_E_n 5 (x' := (43, [some (jm_r 6 x0), some (jm_i x1), some (jm_i x2), some (jm_i x3), some (jm_i x4)], [jm_i x4, jm_r 20 x0, jm_i x3], h)) rfl ?_
          refine jm_E_aald rfl rfl H.1 ?_
          replace H := H.2
          refine jm_E_eq (x := (44, [some (jm_r 6 x0), some (jm_i x1), some (jm_i x2), some (jm_i x3), some (jm_i x4)], [jm_r 21 (24 * x0 + x4.toNatClampNeg), jm_i x3], h)) rfl ?_
          refine jm_E_n 1 (x' := (45, [some (jm_r 6 x0), some (jm_i x1), some (jm_i x2), some (jm_i x3), some (jm_i x4)], [jm_i x2, jm_r 21 (24 * x0 + x4.toNatClampNeg), jm_i x3], h)) rfl ?_
          refine jm_E_iald rfl rfl H.1 ?_
          replace H := H.2
          refine jm_E_eq (x := (46, [some (jm_r 6 x0), some (jm_i x1), some (jm_i x2), some (jm_i x3), some (jm_i x4)], [jm_i (h.1 21 (24 * x0 + x4.toNatClampNeg) x2.toNatClampNeg), jm_i x3], h)) rfl ?_
          refine jm_E_n 4 (x' := (8, [some (jm_r 6 x0), some (jm_i x1), some (jm_i x2), some (jm_i (x3 + (h.1 21 (24 * x0 + x4.toNatClampNeg) x2.toNatClampNeg))), some (jm_i (x4 + 1))], [], h)) rfl ?_
          exact H
      · replace H := H.2 hc
        refine jm_E_n 2 (x' := (8, [some (jm_r 6 x0), some (jm_i x1), some (jm_i x2), some (jm_i x3), some (jm_i (x4 + 1))], [], h)) rfl ?_
        exact H
set_option maxRecDepth 100000 in
theorem wp_Table_pieceStart {o : Nat} {a0 : Int32} {a1 : Int32} {h : jm_H} {r : jm_Rs} (H :
  l_Table_pieceStart_8 o a0 a1 (a1 * (h.1 1 o 0)) 0 h r) : jm_R 267 [jm_r 6 o, jm_i a0, jm_i a1] h r := by
  refine jm_R_of hz_267 (Nat.le_of_ble_eq_true rfl) ?_
  show jm_E cod_267 (0, [some (jm_r 6 o), some (jm_i a0), some (jm_i a1), none, none], [], h) r
  refine jm_E_n 8 (x' := (8, [some (jm_r 6 o), some (jm_i a0), some (jm_i a1), some (jm_i (a1 * (h.1 1 o 0))), some (jm_i 0)], [], h)) rfl ?_
  exact H
set_option maxRecDepth 100000 in
theorem wp_FR_begins {a0 : Int32} {a1 : Int32} {a2 : Int32} {h : jm_H} {r : jm_Rs} (H :
  ∃ (v1 : Int32) (h1 : jm_H), m_FR_isJob a0 a1 h v1 h1 ∧
  (v1 = 0 →
    ∃ (v2 : Int32) (h2 : jm_H), m_FR_tableRefusal a0 0 h1 v2 h2 ∧
    (v2 = 0 →
      jm_in a0 3 ∧
      jm_in a1 24 ∧
      jm_in a2 24 ∧
      ((h2.1 21 (24 * (3 * 0 + a0.toNatClampNeg) + a1.toNatClampNeg) a2.toNatClampNeg) = 0 →
        ∃ (v3 : Int32) (h3 : jm_H), m_FR_answered (-2) h2 v3 h3 ∧
        r = (some (jm_i v3), h3)) ∧
      (¬ ((h2.1 21 (24 * (3 * 0 + a0.toNatClampNeg) + a1.toNatClampNeg) a2.toNatClampNeg) = 0) →
        jm_in a0 3 ∧
        ∃ (v4 : Int32) (h4 : jm_H), m_Table_pieceStart (3 * 0 + a0.toNatClampNeg) a1 a2 h2 v4 h4 ∧
        ∃ (v5 : Int32) (h5 : jm_H), m_FR_answered v4 h4 v5 h5 ∧
        r = (some (jm_i v5), h5))) ∧
    (¬ (v2 = 0) →
      ∃ (v6 : Int32) (h6 : jm_H), m_FR_refused v2 h2 v6 h6 ∧
      r = (some (jm_i v6), h6))) ∧
  (¬ (v1 = 0) →
    ∃ (v7 : Int32) (h7 : jm_H), m_FR_isFrame a0 a2 h1 v7 h7 ∧
    (v7 = 0 →
      ∃ (v8 : Int32) (h8 : jm_H), m_FR_tableRefusal a0 0 h7 v8 h8 ∧
      (v8 = 0 →
        jm_in a0 3 ∧
        jm_in a1 24 ∧
        jm_in a2 24 ∧
        ((h8.1 21 (24 * (3 * 0 + a0.toNatClampNeg) + a1.toNatClampNeg) a2.toNatClampNeg) = 0 →
          ∃ (v9 : Int32) (h9 : jm_H), m_FR_answered (-2) h8 v9 h9 ∧
          r = (some (jm_i v9), h9)) ∧
        (¬ ((h8.1 21 (24 * (3 * 0 + a0.toNatClampNeg) + a1.toNatClampNeg) a2.toNatClampNeg) = 0) →
          jm_in a0 3 ∧
          ∃ (v10 : Int32) (h10 : jm_H), m_Table_pieceStart (3 * 0 + a0.toNatClampNeg) a1 a2 h8 v10 h10 ∧
          ∃ (v11 : Int32) (h11 : jm_H), m_FR_answered v10 h10 v11 h11 ∧
          r = (some (jm_i v11), h11))) ∧
      (¬ (v8 = 0) →
        ∃ (v12 : Int32) (h12 : jm_H), m_FR_refused v8 h8 v12 h12 ∧
        r = (some (jm_i v12), h12))) ∧
    (¬ (v7 = 0) →
      ∃ (v13 : Int32) (h13 : jm_H), m_FR_tableRefusal a0 1 h7 v13 h13 ∧
      (v13 = 0 →
        jm_in a0 3 ∧
        jm_in a1 24 ∧
        jm_in a2 24 ∧
        ((h13.1 21 (24 * (3 * 0 + a0.toNatClampNeg) + a1.toNatClampNeg) a2.toNatClampNeg) = 0 →
          ∃ (v14 : Int32) (h14 : jm_H), m_FR_answered (-2) h13 v14 h14 ∧
          r = (some (jm_i v14), h14)) ∧
        (¬ ((h13.1 21 (24 * (3 * 0 + a0.toNatClampNeg) + a1.toNatClampNeg) a2.toNatClampNeg) = 0) →
          jm_in a0 3 ∧
          ∃ (v15 : Int32) (h15 : jm_H), m_Table_pieceStart (3 * 0 + a0.toNatClampNeg) a1 a2 h13 v15 h15 ∧
          ∃ (v16 : Int32) (h16 : jm_H), m_FR_answered v15 h15 v16 h16 ∧
          r = (some (jm_i v16), h16))) ∧
      (¬ (v13 = 0) →
        ∃ (v17 : Int32) (h17 : jm_H), m_FR_refused v13 h13 v17 h17 ∧
        r = (some (jm_i v17), h17))))) : jm_R 40 [jm_r 7 0, jm_i a0, jm_i a1, jm_i a2] h r := by
  refine jm_R_of hz_40 (Nat.le_of_ble_eq_true rfl) ?_
  show jm_E cod_40 (0, [some (jm_r 7 0), some (jm_i a0), some (jm_i a1), some (jm_i a2), none], [], h) r
  refine jm_E_n 5 (x' := (5, [some (jm_r 7 0), some (jm_i a0), some (jm_i a1), some (jm_i a2), none], [jm_i a1, jm_i a0, jm_r 7 0, jm_i a0, jm_r 7 0], h)) rfl ?_
  obtain ⟨v1, h1, hR, H⟩ := H
  refine jm_E_call rfl (Nat.le_of_ble_eq_true rfl) (Nat.le_of_ble_eq_true rfl) rfl hR trivial ?_
  refine jm_E_eq (x := (6, [some (jm_r 7 0), some (jm_i a0), some (jm_i a1), some (jm_i a2), none], [jm_i v1, jm_i a0, jm_r 7 0], h1)) rfl ?_
  refine jm_E_n 1 (x' := (if v1 = 0 then 14 else 7, [some (jm_r 7 0), some (jm_i a0), some (jm_i a1), some (jm_i a2), none], [jm_i a0, jm_r 7 0], h1)) rfl ?_
  refine jm_E_ite (fun hc => ?_) (fun hc => ?_)
  · replace H := H.1 hc
    refine jm_E_n 1 (x' := (15, [some (jm_r 7 0), some (jm_i a0), some (jm_i a1), some (jm_i a2), none], [jm_i 0, jm_i a0, jm_r 7 0], h1)) rfl ?_
    obtain ⟨v2, h2, hR, H⟩ := H
    refine jm_E_call rfl (Nat.le_of_ble_eq_true rfl) (Nat.le_of_ble_eq_true rfl) rfl hR trivial ?_
    refine jm_E_eq (x := (16, [some (jm_r 7 0), some (jm_i a0), some (jm_i a1), some (jm_i a2), none], [jm_i v2], h2)) rfl ?_
    refine jm_E_n 3 (x' := (if v2 = 0 then 23 else 19, [some (jm_r 7 0), some (jm_i a0), some (jm_i a1), some (jm_i a2), some (jm_i v2)], [], h2)) rfl ?_
    refine jm_E_ite (fun hc => ?_) (fun hc => ?_)
    · replace H := H.1 hc
      refine jm_E_n 4 (x' := (27, [some (jm_r 7 0), some (jm_i a0), some (jm_i a1), some (jm_i a2), some (jm_i v2)], [jm_i a0, jm_r 32 0, jm_r 7 0], h2)) rfl ?_
      refine jm_E_aald rfl rfl H.1 ?_
      replace H := H.2
      refine jm_E_eq (x := (28, [some (jm_r 7 0), some (jm_i a0), some (jm_i a1), some (jm_i a2), some (jm_i v2)], [jm_r 6 (3 * 0 + a0.toNatClampNeg), jm_r 7 0], h2)) rfl ?_
      refine jm_E_n 3 (x' := (31, [some (jm_r 7 0), some (jm_i a0), some (jm_i a1), some (jm_i a2), some (jm_i v2)], [jm_i a1, jm_r 20 (3 * 0 + a0.toNatClampNeg), jm_r 7 0], h2)) rfl ?_
      refine jm_E_aald rfl rfl H.1 ?_
      replace H := H.2
      refine jm_E_eq (x := (32, [some (jm_r 7 0), some (jm_i a0), some (jm_i a1), some (jm_i a2), some (jm_i v2)], [jm_r 21 (24 * (3 * 0 + a0.toNatClampNeg) + a1.toNatClampNeg), jm_r 7 0], h2)) rfl ?_
      refine jm_E_n 1 (x' := (33, [some (jm_r 7 0), some (jm_i a0), some (jm_i a1), some (jm_i a2), some (jm_i v2)], [jm_i a2, jm_r 21 (24 * (3 * 0 + a0.toNatClampNeg) + a1.toNatClampNeg), jm_r 7 0], h2)) rfl ?_
      refine jm_E_iald rfl rfl H.1 ?_
      replace H := H.2
      refine jm_E_eq (x := (34, [some (jm_r 7 0), some (jm_i a0), some (jm_i a1), some (jm_i a2), some (jm_i v2)], [jm_i (h2.1 21 (24 * (3 * 0 + a0.toNatClampNeg) + a1.toNatClampNeg) a2.toNatClampNeg), jm_r 7 0], h2)) rfl ?_
      refine jm_E_n 1 (x' := (if (h2.1 21 (24 * (3 * 0 + a0.toNatClampNeg) + a1.toNatClampNeg) a2.toNatClampNeg) = 0 then 35 else 37, [some (jm_r 7 0), some (jm_i a0), some (jm_i a1), some (jm_i a2), some (jm_i v2)], [jm_r 7 0], h2)) rfl ?_
      refine jm_E_ite (fun hc => ?_) (fun hc => ?_)
      · replace H := H.1 hc
        refine jm_E_n 2 (x' := (44, [some (jm_r 7 0), some (jm_i a0), some (jm_i a1), some (jm_i a2), some (jm_i v2)], [jm_i (-2), jm_r 7 0], h2)) rfl ?_
        obtain ⟨v3, h3, hR, H⟩ := H
        refine jm_E_call rfl (Nat.le_of_ble_eq_true rfl) (Nat.le_of_ble_eq_true rfl) rfl hR trivial ?_
        refine jm_E_eq (x := (45, [some (jm_r 7 0), some (jm_i a0), some (jm_i a1), some (jm_i a2), some (jm_i v2)], [jm_i v3], h3)) rfl ?_
        exact jm_E_ret rfl (by rw [H]; rfl)
      · replace H := H.2 hc
        refine jm_E_n 3 (x' := (40, [some (jm_r 7 0), some (jm_i a0), some (jm_i a1), some (jm_i a2), some (jm_i v2)], [jm_i a0, jm_r 32 0, jm_r 7 0], h2)) rfl ?_
        refine jm_E_aald rfl rfl H.1 ?_
        replace H := H.2
        refine jm_E_eq (x := (41, [some (jm_r 7 0), some (jm_i a0), some (jm_i a1), some (jm_i a2), some (jm_i v2)], [jm_r 6 (3 * 0 + a0.toNatClampNeg), jm_r 7 0], h2)) rfl ?_
        refine jm_E_n 2 (x' := (43, [some (jm_r 7 0), some (jm_i a0), some (jm_i a1), some (jm_i a2), some (jm_i v2)], [jm_i a2, jm_i a1, jm_r 6 (3 * 0 + a0.toNatClampNeg), jm_r 7 0], h2)) rfl ?_
        obtain ⟨v4, h4, hR, H⟩ := H
        refine jm_E_call rfl (Nat.le_of_ble_eq_true rfl) (Nat.le_of_ble_eq_true rfl) rfl hR trivial ?_
        refine jm_E_eq (x := (44, [some (jm_r 7 0), some (jm_i a0), some (jm_i a1), some (jm_i a2), some (jm_i v2)], [jm_i v4, jm_r 7 0], h4)) rfl ?_
        obtain ⟨v5, h5, hR, H⟩ := H
        refine jm_E_call rfl (Nat.le_of_ble_eq_true rfl) (Nat.le_of_ble_eq_true rfl) rfl hR trivial ?_
        refine jm_E_eq (x := (45, [some (jm_r 7 0), some (jm_i a0), some (jm_i a1), some (jm_i a2), some (jm_i v2)], [jm_i v5], h5)) rfl ?_
        exact jm_E_ret rfl (by rw [H]; rfl)
    · replace H := H.2 hc
      refine jm_E_n 2 (x' := (21, [some (jm_r 7 0), some (jm_i a0), some (jm_i a1), some (jm_i a2), some (jm_i v2)], [jm_i v2, jm_r 7 0], h2)) rfl ?_
      obtain ⟨v6, h6, hR, H⟩ := H
      refine jm_E_call rfl (Nat.le_of_ble_eq_true rfl) (Nat.le_of_ble_eq_true rfl) rfl hR trivial ?_
      refine jm_E_eq (x := (22, [some (jm_r 7 0), some (jm_i a0), some (jm_i a1), some (jm_i a2), some (jm_i v2)], [jm_i v6], h6)) rfl ?_
      exact jm_E_ret rfl (by rw [H]; rfl)
  · replace H := H.2 hc
    refine jm_E_n 3 (x' := (10, [some (jm_r 7 0), some (jm_i a0), some (jm_i a1), some (jm_i a2), none], [jm_i a2, jm_i a0, jm_r 7 0, jm_i a0, jm_r 7 0], h1)) rfl ?_
    obtain ⟨v7, h7, hR, H⟩ := H
    refine jm_E_call rfl (Nat.le_of_ble_eq_true rfl) (Nat.le_of_ble_eq_true rfl) rfl hR trivial ?_
    refine jm_E_eq (x := (11, [some (jm_r 7 0), some (jm_i a0), some (jm_i a1), some (jm_i a2), none], [jm_i v7, jm_i a0, jm_r 7 0], h7)) rfl ?_
    refine jm_E_n 1 (x' := (if v7 = 0 then 14 else 12, [some (jm_r 7 0), some (jm_i a0), some (jm_i a1), some (jm_i a2), none], [jm_i a0, jm_r 7 0], h7)) rfl ?_
    refine jm_E_ite (fun hc => ?_) (fun hc => ?_)
    · replace H := H.1 hc
      refine jm_E_n 1 (x' := (15, [some (jm_r 7 0), some (jm_i a0), some (jm_i a1), some (jm_i a2), none], [jm_i 0, jm_i a0, jm_r 7 0], h7)) rfl ?_
      obtain ⟨v8, h8, hR, H⟩ := H
      refine jm_E_call rfl (Nat.le_of_ble_eq_true rfl) (Nat.le_of_ble_eq_true rfl) rfl hR trivial ?_
      refine jm_E_eq (x := (16, [some (jm_r 7 0), some (jm_i a0), some (jm_i a1), some (jm_i a2), none], [jm_i v8], h8)) rfl ?_
      refine jm_E_n 3 (x' := (if v8 = 0 then 23 else 19, [some (jm_r 7 0), some (jm_i a0), some (jm_i a1), some (jm_i a2), some (jm_i v8)], [], h8)) rfl ?_
      refine jm_E_ite (fun hc => ?_) (fun hc => ?_)
      · replace H := H.1 hc
        refine jm_E_n 4 (x' := (27, [some (jm_r 7 0), some (jm_i a0), some (jm_i a1), some (jm_i a2), some (jm_i v8)], [jm_i a0, jm_r 32 0, jm_r 7 0], h8)) rfl ?_
        refine jm_E_aald rfl rfl H.1 ?_
        replace H := H.2
        refine jm_E_eq (x := (28, [some (jm_r 7 0), some (jm_i a0), some (jm_i a1), some (jm_i a2), some (jm_i v8)], [jm_r 6 (3 * 0 + a0.toNatClampNeg), jm_r 7 0], h8)) rfl ?_
        refine jm_E_n 3 (x' := (31, [some (jm_r 7 0), some (jm_i a0), some (jm_i a1), some (jm_i a2), some (jm_i v8)], [jm_i a1, jm_r 20 (3 * 0 + a0.toNatClampNeg), jm_r 7 0], h8)) rfl ?_
        refine jm_E_aald rfl rfl H.1 ?_
        replace H := H.2
        refine jm_E_eq (x := (32, [some (jm_r 7 0), some (jm_i a0), some (jm_i a1), some (jm_i a2), some (jm_i v8)], [jm_r 21 (24 * (3 * 0 + a0.toNatClampNeg) + a1.toNatClampNeg), jm_r 7 0], h8)) rfl ?_
        refine jm_E_n 1 (x' := (33, [some (jm_r 7 0), some (jm_i a0), some (jm_i a1), some (jm_i a2), some (jm_i v8)], [jm_i a2, jm_r 21 (24 * (3 * 0 + a0.toNatClampNeg) + a1.toNatClampNeg), jm_r 7 0], h8)) rfl ?_
        refine jm_E_iald rfl rfl H.1 ?_
        replace H := H.2
        refine jm_E_eq (x := (34, [some (jm_r 7 0), some (jm_i a0), some (jm_i a1), some (jm_i a2), some (jm_i v8)], [jm_i (h8.1 21 (24 * (3 * 0 + a0.toNatClampNeg) + a1.toNatClampNeg) a2.toNatClampNeg), jm_r 7 0], h8)) rfl ?_
        refine jm_E_n 1 (x' := (if (h8.1 21 (24 * (3 * 0 + a0.toNatClampNeg) + a1.toNatClampNeg) a2.toNatClampNeg) = 0 then 35 else 37, [some (jm_r 7 0), some (jm_i a0), some (jm_i a1), some (jm_i a2), some (jm_i v8)], [jm_r 7 0], h8)) rfl ?_
        refine jm_E_ite (fun hc => ?_) (fun hc => ?_)
        · replace H := H.1 hc
          refine jm_E_n 2 (x' := (44, [some (jm_r 7 0), some (jm_i a0), some (jm_i a1), some (jm_i a2), some (jm_i v8)], [jm_i (-2), jm_r 7 0], h8)) rfl ?_
          obtain ⟨v9, h9, hR, H⟩ := H
          refine jm_E_call rfl (Nat.le_of_ble_eq_true rfl) (Nat.le_of_ble_eq_true rfl) rfl hR trivial ?_
          refine jm_E_eq (x := (45, [some (jm_r 7 0), some (jm_i a0), some (jm_i a1), some (jm_i a2), some (jm_i v8)], [jm_i v9], h9)) rfl ?_
          exact jm_E_ret rfl (by rw [H]; rfl)
        · replace H := H.2 hc
          refine jm_E_n 3 (x' := (40, [some (jm_r 7 0), some (jm_i a0), some (jm_i a1), some (jm_i a2), some (jm_i v8)], [jm_i a0, jm_r 32 0, jm_r 7 0], h8)) rfl ?_
          refine jm_E_aald rfl rfl H.1 ?_
          replace H := H.2
          refine jm_E_eq (x := (41, [some (jm_r 7 0), some (jm_i a0), some (jm_i a1), some (jm_i a2), some (jm_i v8)], [jm_r 6 (3 * 0 + a0.toNatClampNeg), jm_r 7 0], h8)) rfl ?_
          refine jm_E_n 2 (x' := (43, [some (jm_r 7 0), some (jm_i a0), some (jm_i a1), some (jm_i a2), some (jm_i v8)], [jm_i a2, jm_i a1, jm_r 6 (3 * 0 + a0.toNatClampNeg), jm_r 7 0], h8)) rfl ?_
          obtain ⟨v10, h10, hR, H⟩ := H
          refine jm_E_call rfl (Nat.le_of_ble_eq_true rfl) (Nat.le_of_ble_eq_true rfl) rfl hR trivial ?_
          refine jm_E_eq (x := (44, [some (jm_r 7 0), some (jm_i a0), some (jm_i a1), some (jm_i a2), some (jm_i v8)], [jm_i v10, jm_r 7 0], h10)) rfl ?_
          obtain ⟨v11, h11, hR, H⟩ := H
          refine jm_E_call rfl (Nat.le_of_ble_eq_true rfl) (Nat.le_of_ble_eq_true rfl) rfl hR trivial ?_
          refine jm_E_eq (x := (45, [some (jm_r 7 0), some (jm_i a0), some (jm_i a1), some (jm_i a2), some (jm_i v8)], [jm_i v11], h11)) rfl ?_
          exact jm_E_ret rfl (by rw [H]; rfl)
      · replace H := H.2 hc
        refine jm_E_n 2 (x' := (21, [some (jm_r 7 0), some (jm_i a0), some (jm_i a1), some (jm_i a2), some (jm_i v8)], [jm_i v8, jm_r 7 0], h8)) rfl ?_
        obtain ⟨v12, h12, hR, H⟩ := H
        refine jm_E_call rfl (Nat.le_of_ble_eq_true rfl) (Nat.le_of_ble_eq_true rfl) rfl hR trivial ?_
        refine jm_E_eq (x := (22, [some (jm_r 7 0), some (jm_i a0), some (jm_i a1), some (jm_i a2), some (jm_i v8)], [jm_i v12], h12)) rfl ?_
        exact jm_E_ret rfl (by rw [H]; rfl)
    · replace H := H.2 hc
      refine jm_E_n 2 (x' := (15, [some (jm_r 7 0), some (jm_i a0), some (jm_i a1), some (jm_i a2), none], [jm_i 1, jm_i a0, jm_r 7 0], h7)) rfl ?_
      obtain ⟨v13, h13, hR, H⟩ := H
      refine jm_E_call rfl (Nat.le_of_ble_eq_true rfl) (Nat.le_of_ble_eq_true rfl) rfl hR trivial ?_
      refine jm_E_eq (x := (16, [some (jm_r 7 0), some (jm_i a0), some (jm_i a1), some (jm_i a2), none], [jm_i v13], h13)) rfl ?_
      refine jm_E_n 3 (x' := (if v13 = 0 then 23 else 19, [some (jm_r 7 0), some (jm_i a0), some (jm_i a1), some (jm_i a2), some (jm_i v13)], [], h13)) rfl ?_
      refine jm_E_ite (fun hc => ?_) (fun hc => ?_)
      · replace H := H.1 hc
        refine jm_E_n 4 (x' := (27, [some (jm_r 7 0), some (jm_i a0), some (jm_i a1), some (jm_i a2), some (jm_i v13)], [jm_i a0, jm_r 32 0, jm_r 7 0], h13)) rfl ?_
        refine jm_E_aald rfl rfl H.1 ?_
        replace H := H.2
        refine jm_E_eq (x := (28, [some (jm_r 7 0), some (jm_i a0), some (jm_i a1), some (jm_i a2), some (jm_i v13)], [jm_r 6 (3 * 0 + a0.toNatClampNeg), jm_r 7 0], h13)) rfl ?_
        refine jm_E_n 3 (x' := (31, [some (jm_r 7 0), some (jm_i a0), some (jm_i a1), some (jm_i a2), some (jm_i v13)], [jm_i a1, jm_r 20 (3 * 0 + a0.toNatClampNeg), jm_r 7 0], h13)) rfl ?_
        refine jm_E_aald rfl rfl H.1 ?_
        replace H := H.2
        refine jm_E_eq (x := (32, [some (jm_r 7 0), some (jm_i a0), some (jm_i a1), some (jm_i a2), some (jm_i v13)], [jm_r 21 (24 * (3 * 0 + a0.toNatClampNeg) + a1.toNatClampNeg), jm_r 7 0], h13)) rfl ?_
        refine jm_E_n 1 (x' := (33, [some (jm_r 7 0), some (jm_i a0), some (jm_i a1), some (jm_i a2), some (jm_i v13)], [jm_i a2, jm_r 21 (24 * (3 * 0 + a0.toNatClampNeg) + a1.toNatClampNeg), jm_r 7 0], h13)) rfl ?_
        refine jm_E_iald rfl rfl H.1 ?_
        replace H := H.2
        refine jm_E_eq (x := (34, [some (jm_r 7 0), some (jm_i a0), some (jm_i a1), some (jm_i a2), some (jm_i v13)], [jm_i (h13.1 21 (24 * (3 * 0 + a0.toNatClampNeg) + a1.toNatClampNeg) a2.toNatClampNeg), jm_r 7 0], h13)) rfl ?_
        refine jm_E_n 1 (x' := (if (h13.1 21 (24 * (3 * 0 + a0.toNatClampNeg) + a1.toNatClampNeg) a2.toNatClampNeg) = 0 then 35 else 37, [some (jm_r 7 0), some (jm_i a0), some (jm_i a1), some (jm_i a2), some (jm_i v13)], [jm_r 7 0], h13)) rfl ?_
        refine jm_E_ite (fun hc => ?_) (fun hc => ?_)
        · replace H := H.1 hc
          refine jm_E_n 2 (x' := (44, [some (jm_r 7 0), some (jm_i a0), some (jm_i a1), some (jm_i a2), some (jm_i v13)], [jm_i (-2), jm_r 7 0], h13)) rfl ?_
          obtain ⟨v14, h14, hR, H⟩ := H
          refine jm_E_call rfl (Nat.le_of_ble_eq_true rfl) (Nat.le_of_ble_eq_true rfl) rfl hR trivial ?_
          refine jm_E_eq (x := (45, [some (jm_r 7 0), some (jm_i a0), some (jm_i a1), some (jm_i a2), some (jm_i v13)], [jm_i v14], h14)) rfl ?_
          exact jm_E_ret rfl (by rw [H]; rfl)
        · replace H := H.2 hc
          refine jm_E_n 3 (x' := (40, [some (jm_r 7 0), some (jm_i a0), some (jm_i a1), some (jm_i a2), some (jm_i v13)], [jm_i a0, jm_r 32 0, jm_r 7 0], h13)) rfl ?_
          refine jm_E_aald rfl rfl H.1 ?_
          replace H := H.2
          refine jm_E_eq (x := (41, [some (jm_r 7 0), some (jm_i a0), some (jm_i a1), some (jm_i a2), some (jm_i v13)], [jm_r 6 (3 * 0 + a0.toNatClampNeg), jm_r 7 0], h13)) rfl ?_
          refine jm_E_n 2 (x' := (43, [some (jm_r 7 0), some (jm_i a0), some (jm_i a1), some (jm_i a2), some (jm_i v13)], [jm_i a2, jm_i a1, jm_r 6 (3 * 0 + a0.toNatClampNeg), jm_r 7 0], h13)) rfl ?_
          obtain ⟨v15, h15, hR, H⟩ := H
          refine jm_E_call rfl (Nat.le_of_ble_eq_true rfl) (Nat.le_of_ble_eq_true rfl) rfl hR trivial ?_
          refine jm_E_eq (x := (44, [some (jm_r 7 0), some (jm_i a0), some (jm_i a1), some (jm_i a2), some (jm_i v13)], [jm_i v15, jm_r 7 0], h15)) rfl ?_
          obtain ⟨v16, h16, hR, H⟩ := H
          refine jm_E_call rfl (Nat.le_of_ble_eq_true rfl) (Nat.le_of_ble_eq_true rfl) rfl hR trivial ?_
          refine jm_E_eq (x := (45, [some (jm_r 7 0), some (jm_i a0), some (jm_i a1), some (jm_i a2), some (jm_i v13)], [jm_i v16], h16)) rfl ?_
          exact jm_E_ret rfl (by rw [H]; rfl)
      · replace H := H.2 hc
        refine jm_E_n 2 (x' := (21, [some (jm_r 7 0), some (jm_i a0), some (jm_i a1), some (jm_i a2), some (jm_i v13)], [jm_i v13, jm_r 7 0], h13)) rfl ?_
        obtain ⟨v17, h17, hR, H⟩ := H
        refine jm_E_call rfl (Nat.le_of_ble_eq_true rfl) (Nat.le_of_ble_eq_true rfl) rfl hR trivial ?_
        refine jm_E_eq (x := (22, [some (jm_r 7 0), some (jm_i a0), some (jm_i a1), some (jm_i a2), some (jm_i v13)], [jm_i v17], h17)) rfl ?_
        exact jm_E_ret rfl (by rw [H]; rfl)
set_option maxRecDepth 100000 in
theorem wp_Table_lastFrame_6 {x0 : Nat} {x1 : Int32} {x2 : Int32} {h : jm_H} {r : jm_Rs} (H :
  jm_in x1 24 ∧
  (x2 < (h.1 16 x0 x1.toNatClampNeg) →
    r = (some (jm_i (-1)), h)) ∧
  (¬ (x2 < (h.1 16 x0 x1.toNatClampNeg)) →
    jm_in x1 24 ∧
    jm_in x2 24 ∧
    ((h.1 21 (24 * x0 + x1.toNatClampNeg) x2.toNatClampNeg) ≤ 0 →
      l_Table_lastFrame_6 x0 x1 (x2 + (-1)) h r) ∧
    (¬ ((h.1 21 (24 * x0 + x1.toNatClampNeg) x2.toNatClampNeg) ≤ 0) →
      r = (some (jm_i x2), h)))) : l_Table_lastFrame_6 x0 x1 x2 h r := by
  refine jm_E_n 5 (x' := (11, [some (jm_r 6 x0), some (jm_i x1), some (jm_i x2)], [jm_i x1, jm_r 16 x0, jm_i x2], h)) rfl ?_
  refine jm_E_iald rfl rfl H.1 ?_
  replace H := H.2
  refine jm_E_eq (x := (12, [some (jm_r 6 x0), some (jm_i x1), some (jm_i x2)], [jm_i (h.1 16 x0 x1.toNatClampNeg), jm_i x2], h)) rfl ?_
  refine jm_E_n 1 (x' := (if x2 < (h.1 16 x0 x1.toNatClampNeg) then 25 else 13, [some (jm_r 6 x0), some (jm_i x1), some (jm_i x2)], [], h)) rfl ?_
  refine jm_E_ite (fun hc => ?_) (fun hc => ?_)
  · replace H := H.1 hc
    refine jm_E_n 1 (x' := (26, [some (jm_r 6 x0), some (jm_i x1), some (jm_i x2)], [jm_i (-1)], h)) rfl ?_
    exact jm_E_ret rfl (by rw [H]; rfl)
  · replace H := H.2 hc
    refine jm_E_n 4 (x' := (17, [some (jm_r 6 x0), some (jm_i x1), some (jm_i x2)], [jm_i x1, jm_r 20 x0], h)) rfl ?_
    refine jm_E_aald rfl rfl H.1 ?_
    replace H := H.2
    refine jm_E_eq (x := (18, [some (jm_r 6 x0), some (jm_i x1), some (jm_i x2)], [jm_r 21 (24 * x0 + x1.toNatClampNeg)], h)) rfl ?_
    refine jm_E_n 1 (x' := (19, [some (jm_r 6 x0), some (jm_i x1), some (jm_i x2)], [jm_i x2, jm_r 21 (24 * x0 + x1.toNatClampNeg)], h)) rfl ?_
    refine jm_E_iald rfl rfl H.1 ?_
    replace H := H.2
    refine jm_E_eq (x := (20, [some (jm_r 6 x0), some (jm_i x1), some (jm_i x2)], [jm_i (h.1 21 (24 * x0 + x1.toNatClampNeg) x2.toNatClampNeg)], h)) rfl ?_
    refine jm_E_n 1 (x' := (if (h.1 21 (24 * x0 + x1.toNatClampNeg) x2.toNatClampNeg) ≤ 0 then 23 else 21, [some (jm_r 6 x0), some (jm_i x1), some (jm_i x2)], [], h)) rfl ?_
    refine jm_E_ite (fun hc => ?_) (fun hc => ?_)
    · replace H := H.1 hc
      refine jm_E_n 2 (x' := (6, [some (jm_r 6 x0), some (jm_i x1), some (jm_i (x2 + (-1)))], [], h)) rfl ?_
      exact H
    · replace H := H.2 hc
      refine jm_E_n 1 (x' := (22, [some (jm_r 6 x0), some (jm_i x1), some (jm_i x2)], [jm_i x2], h)) rfl ?_
      exact jm_E_ret rfl (by rw [H]; rfl)
set_option maxRecDepth 100000 in
theorem wp_Table_lastFrame {o : Nat} {a0 : Int32} {h : jm_H} {r : jm_Rs} (H :
  jm_in a0 24 ∧
  l_Table_lastFrame_6 o a0 (h.1 17 o a0.toNatClampNeg) h r) : jm_R 268 [jm_r 6 o, jm_i a0] h r := by
  refine jm_R_of hz_268 (Nat.le_of_ble_eq_true rfl) ?_
  show jm_E cod_268 (0, [some (jm_r 6 o), some (jm_i a0), none], [], h) r
  refine jm_E_n 4 (x' := (4, [some (jm_r 6 o), some (jm_i a0), none], [jm_i a0, jm_r 17 o], h)) rfl ?_
  refine jm_E_iald rfl rfl H.1 ?_
  replace H := H.2
  refine jm_E_eq (x := (5, [some (jm_r 6 o), some (jm_i a0), none], [jm_i (h.1 17 o a0.toNatClampNeg)], h)) rfl ?_
  refine jm_E_n 1 (x' := (6, [some (jm_r 6 o), some (jm_i a0), some (jm_i (h.1 17 o a0.toNatClampNeg))], [], h)) rfl ?_
  exact H
set_option maxRecDepth 100000 in
theorem wp_Table_lastEnd {o : Nat} {a0 : Int32} {h : jm_H} {r : jm_Rs} (H :
  ∃ (v1 : Int32) (h1 : jm_H), m_Table_lastFrame o a0 h v1 h1 ∧
  (0 ≤ v1 →
    ∃ (v2 : Int32) (h2 : jm_H), m_Table_pieceStart o a0 v1 h1 v2 h2 ∧
    jm_in a0 24 ∧
    jm_in v1 24 ∧
    r = (some (jm_i (v2 + (h2.1 21 (24 * o + a0.toNatClampNeg) v1.toNatClampNeg))), h2)) ∧
  (¬ (0 ≤ v1) →
    r = (some (jm_i (-2)), h1))) : jm_R 269 [jm_r 6 o, jm_i a0] h r := by
  refine jm_R_of hz_269 (Nat.le_of_ble_eq_true rfl) ?_
  show jm_E cod_269 (0, [some (jm_r 6 o), some (jm_i a0), none], [], h) r
  refine jm_E_n 2 (x' := (2, [some (jm_r 6 o), some (jm_i a0), none], [jm_i a0, jm_r 6 o], h)) rfl ?_
  obtain ⟨v1, h1, hR, H⟩ := H
  refine jm_E_call rfl (Nat.le_of_ble_eq_true rfl) (Nat.le_of_ble_eq_true rfl) rfl hR trivial ?_
  refine jm_E_eq (x := (3, [some (jm_r 6 o), some (jm_i a0), none], [jm_i v1], h1)) rfl ?_
  refine jm_E_n 3 (x' := (if 0 ≤ v1 then 8 else 6, [some (jm_r 6 o), some (jm_i a0), some (jm_i v1)], [], h1)) rfl ?_
  refine jm_E_ite (fun hc => ?_) (fun hc => ?_)
  · replace H := H.1 hc
    refine jm_E_n 3 (x' := (11, [some (jm_r 6 o), some (jm_i a0), some (jm_i v1)], [jm_i v1, jm_i a0, jm_r 6 o], h1)) rfl ?_
    obtain ⟨v2, h2, hR, H⟩ := H
    refine jm_E_call rfl (Nat.le_of_ble_eq_true rfl) (Nat.le_of_ble_eq_true rfl) rfl hR trivial ?_
    refine jm_E_eq (x := (12, [some (jm_r 6 o), some (jm_i a0), some (jm_i v1)], [jm_i v2], h2)) rfl ?_
    refine jm_E_n 4 (x' := (16, [some (jm_r 6 o), some (jm_i a0), some (jm_i v1)], [jm_i a0, jm_r 20 o, jm_i v2], h2)) rfl ?_
    refine jm_E_aald rfl rfl H.1 ?_
    replace H := H.2
    refine jm_E_eq (x := (17, [some (jm_r 6 o), some (jm_i a0), some (jm_i v1)], [jm_r 21 (24 * o + a0.toNatClampNeg), jm_i v2], h2)) rfl ?_
    refine jm_E_n 1 (x' := (18, [some (jm_r 6 o), some (jm_i a0), some (jm_i v1)], [jm_i v1, jm_r 21 (24 * o + a0.toNatClampNeg), jm_i v2], h2)) rfl ?_
    refine jm_E_iald rfl rfl H.1 ?_
    replace H := H.2
    refine jm_E_eq (x := (19, [some (jm_r 6 o), some (jm_i a0), some (jm_i v1)], [jm_i (h2.1 21 (24 * o + a0.toNatClampNeg) v1.toNatClampNeg), jm_i v2], h2)) rfl ?_
    refine jm_E_n 1 (x' := (20, [some (jm_r 6 o), some (jm_i a0), some (jm_i v1)], [jm_i (v2 + (h2.1 21 (24 * o + a0.toNatClampNeg) v1.toNatClampNeg))], h2)) rfl ?_
    exact jm_E_ret rfl (by rw [H]; rfl)
  · replace H := H.2 hc
    refine jm_E_n 2 (x' := (20, [some (jm_r 6 o), some (jm_i a0), some (jm_i v1)], [jm_i (-2)], h1)) rfl ?_
    exact jm_E_ret rfl (by rw [H]; rfl)
set_option maxRecDepth 100000 in
theorem wp_FR_finishes {a0 : Int32} {a1 : Int32} {h : jm_H} {r : jm_Rs} (H :
  ∃ (v1 : Int32) (h1 : jm_H), m_FR_isJob a0 a1 h v1 h1 ∧
  ∃ (v2 : Int32) (h2 : jm_H), m_FR_tableRefusal a0 v1 h1 v2 h2 ∧
  (v2 = 0 →
    jm_in a0 3 ∧
    ∃ (v3 : Int32) (h3 : jm_H), m_Table_lastEnd (3 * 0 + a0.toNatClampNeg) a1 h2 v3 h3 ∧
    ∃ (v4 : Int32) (h4 : jm_H), m_FR_answered v3 h3 v4 h4 ∧
    r = (some (jm_i v4), h4)) ∧
  (¬ (v2 = 0) →
    ∃ (v5 : Int32) (h5 : jm_H), m_FR_refused v2 h2 v5 h5 ∧
    r = (some (jm_i v5), h5))) : jm_R 41 [jm_r 7 0, jm_i a0, jm_i a1] h r := by
  refine jm_R_of hz_41 (Nat.le_of_ble_eq_true rfl) ?_
  show jm_E cod_41 (0, [some (jm_r 7 0), some (jm_i a0), some (jm_i a1), none], [], h) r
  refine jm_E_n 5 (x' := (5, [some (jm_r 7 0), some (jm_i a0), some (jm_i a1), none], [jm_i a1, jm_i a0, jm_r 7 0, jm_i a0, jm_r 7 0], h)) rfl ?_
  obtain ⟨v1, h1, hR, H⟩ := H
  refine jm_E_call rfl (Nat.le_of_ble_eq_true rfl) (Nat.le_of_ble_eq_true rfl) rfl hR trivial ?_
  refine jm_E_eq (x := (6, [some (jm_r 7 0), some (jm_i a0), some (jm_i a1), none], [jm_i v1, jm_i a0, jm_r 7 0], h1)) rfl ?_
  obtain ⟨v2, h2, hR, H⟩ := H
  refine jm_E_call rfl (Nat.le_of_ble_eq_true rfl) (Nat.le_of_ble_eq_true rfl) rfl hR trivial ?_
  refine jm_E_eq (x := (7, [some (jm_r 7 0), some (jm_i a0), some (jm_i a1), none], [jm_i v2], h2)) rfl ?_
  refine jm_E_n 3 (x' := (if v2 = 0 then 14 else 10, [some (jm_r 7 0), some (jm_i a0), some (jm_i a1), some (jm_i v2)], [], h2)) rfl ?_
  refine jm_E_ite (fun hc => ?_) (fun hc => ?_)
  · replace H := H.1 hc
    refine jm_E_n 4 (x' := (18, [some (jm_r 7 0), some (jm_i a0), some (jm_i a1), some (jm_i v2)], [jm_i a0, jm_r 32 0, jm_r 7 0], h2)) rfl ?_
    refine jm_E_aald rfl rfl H.1 ?_
    replace H := H.2
    refine jm_E_eq (x := (19, [some (jm_r 7 0), some (jm_i a0), some (jm_i a1), some (jm_i v2)], [jm_r 6 (3 * 0 + a0.toNatClampNeg), jm_r 7 0], h2)) rfl ?_
    refine jm_E_n 1 (x' := (20, [some (jm_r 7 0), some (jm_i a0), some (jm_i a1), some (jm_i v2)], [jm_i a1, jm_r 6 (3 * 0 + a0.toNatClampNeg), jm_r 7 0], h2)) rfl ?_
    obtain ⟨v3, h3, hR, H⟩ := H
    refine jm_E_call rfl (Nat.le_of_ble_eq_true rfl) (Nat.le_of_ble_eq_true rfl) rfl hR trivial ?_
    refine jm_E_eq (x := (21, [some (jm_r 7 0), some (jm_i a0), some (jm_i a1), some (jm_i v2)], [jm_i v3, jm_r 7 0], h3)) rfl ?_
    obtain ⟨v4, h4, hR, H⟩ := H
    refine jm_E_call rfl (Nat.le_of_ble_eq_true rfl) (Nat.le_of_ble_eq_true rfl) rfl hR trivial ?_
    refine jm_E_eq (x := (22, [some (jm_r 7 0), some (jm_i a0), some (jm_i a1), some (jm_i v2)], [jm_i v4], h4)) rfl ?_
    exact jm_E_ret rfl (by rw [H]; rfl)
  · replace H := H.2 hc
    refine jm_E_n 2 (x' := (12, [some (jm_r 7 0), some (jm_i a0), some (jm_i a1), some (jm_i v2)], [jm_i v2, jm_r 7 0], h2)) rfl ?_
    obtain ⟨v5, h5, hR, H⟩ := H
    refine jm_E_call rfl (Nat.le_of_ble_eq_true rfl) (Nat.le_of_ble_eq_true rfl) rfl hR trivial ?_
    refine jm_E_eq (x := (13, [some (jm_r 7 0), some (jm_i a0), some (jm_i a1), some (jm_i v2)], [jm_i v5], h5)) rfl ?_
    refine jm_E_n 1 (x' := (22, [some (jm_r 7 0), some (jm_i a0), some (jm_i a1), some (jm_i v2)], [jm_i v5], h5)) rfl ?_
    exact jm_E_ret rfl (by rw [H]; rfl)
set_option maxRecDepth 100000 in
theorem wp_FR_slack {a0 : Int32} {a1 : Int32} {h : jm_H} {r : jm_Rs} (H :
  ∃ (v1 : Int32) (h1 : jm_H), m_FR_isFrame a0 a1 h v1 h1 ∧
  ∃ (v2 : Int32) (h2 : jm_H), m_FR_tableRefusal a0 v1 h1 v2 h2 ∧
  (v2 = 0 →
    jm_in a0 3 ∧
    jm_in a1 24 ∧
    ∃ (v3 : Int32) (h3 : jm_H), m_FR_answered (h2.1 19 (3 * 0 + a0.toNatClampNeg) a1.toNatClampNeg) h2 v3 h3 ∧
    r = (some (jm_i v3), h3)) ∧
  (¬ (v2 = 0) →
    ∃ (v4 : Int32) (h4 : jm_H), m_FR_refused v2 h2 v4 h4 ∧
    r = (some (jm_i v4), h4))) : jm_R 42 [jm_r 7 0, jm_i a0, jm_i a1] h r := by
  refine jm_R_of hz_42 (Nat.le_of_ble_eq_true rfl) ?_
  show jm_E cod_42 (0, [some (jm_r 7 0), some (jm_i a0), some (jm_i a1), none], [], h) r
  refine jm_E_n 5 (x' := (5, [some (jm_r 7 0), some (jm_i a0), some (jm_i a1), none], [jm_i a1, jm_i a0, jm_r 7 0, jm_i a0, jm_r 7 0], h)) rfl ?_
  obtain ⟨v1, h1, hR, H⟩ := H
  refine jm_E_call rfl (Nat.le_of_ble_eq_true rfl) (Nat.le_of_ble_eq_true rfl) rfl hR trivial ?_
  refine jm_E_eq (x := (6, [some (jm_r 7 0), some (jm_i a0), some (jm_i a1), none], [jm_i v1, jm_i a0, jm_r 7 0], h1)) rfl ?_
  obtain ⟨v2, h2, hR, H⟩ := H
  refine jm_E_call rfl (Nat.le_of_ble_eq_true rfl) (Nat.le_of_ble_eq_true rfl) rfl hR trivial ?_
  refine jm_E_eq (x := (7, [some (jm_r 7 0), some (jm_i a0), some (jm_i a1), none], [jm_i v2], h2)) rfl ?_
  refine jm_E_n 3 (x' := (if v2 = 0 then 14 else 10, [some (jm_r 7 0), some (jm_i a0), some (jm_i a1), some (jm_i v2)], [], h2)) rfl ?_
  refine jm_E_ite (fun hc => ?_) (fun hc => ?_)
  · replace H := H.1 hc
    refine jm_E_n 4 (x' := (18, [some (jm_r 7 0), some (jm_i a0), some (jm_i a1), some (jm_i v2)], [jm_i a0, jm_r 32 0, jm_r 7 0], h2)) rfl ?_
    refine jm_E_aald rfl rfl H.1 ?_
    replace H := H.2
    refine jm_E_eq (x := (19, [some (jm_r 7 0), some (jm_i a0), some (jm_i a1), some (jm_i v2)], [jm_r 6 (3 * 0 + a0.toNatClampNeg), jm_r 7 0], h2)) rfl ?_
    refine jm_E_n 3 (x' := (22, [some (jm_r 7 0), some (jm_i a0), some (jm_i a1), some (jm_i v2)], [jm_i a1, jm_r 19 (3 * 0 + a0.toNatClampNeg), jm_r 7 0], h2)) rfl ?_
    refine jm_E_iald rfl rfl H.1 ?_
    replace H := H.2
    refine jm_E_eq (x := (23, [some (jm_r 7 0), some (jm_i a0), some (jm_i a1), some (jm_i v2)], [jm_i (h2.1 19 (3 * 0 + a0.toNatClampNeg) a1.toNatClampNeg), jm_r 7 0], h2)) rfl ?_
    obtain ⟨v3, h3, hR, H⟩ := H
    refine jm_E_call rfl (Nat.le_of_ble_eq_true rfl) (Nat.le_of_ble_eq_true rfl) rfl hR trivial ?_
    refine jm_E_eq (x := (24, [some (jm_r 7 0), some (jm_i a0), some (jm_i a1), some (jm_i v2)], [jm_i v3], h3)) rfl ?_
    exact jm_E_ret rfl (by rw [H]; rfl)
  · replace H := H.2 hc
    refine jm_E_n 2 (x' := (12, [some (jm_r 7 0), some (jm_i a0), some (jm_i a1), some (jm_i v2)], [jm_i v2, jm_r 7 0], h2)) rfl ?_
    obtain ⟨v4, h4, hR, H⟩ := H
    refine jm_E_call rfl (Nat.le_of_ble_eq_true rfl) (Nat.le_of_ble_eq_true rfl) rfl hR trivial ?_
    refine jm_E_eq (x := (13, [some (jm_r 7 0), some (jm_i a0), some (jm_i a1), some (jm_i v2)], [jm_i v4], h4)) rfl ?_
    refine jm_E_n 1 (x' := (24, [some (jm_r 7 0), some (jm_i a0), some (jm_i a1), some (jm_i v2)], [jm_i v4], h4)) rfl ?_
    exact jm_E_ret rfl (by rw [H]; rfl)
set_option maxRecDepth 100000 in
theorem wp_Table_openJobs_4 {x0 : Nat} {x1 : Int32} {x2 : Int32} {x3 : Int32} {h : jm_H} {r : jm_Rs} (H :
  ((h.1 1 x0 3) ≤ x3 →
    r = (some (jm_i x2), h)) ∧
  (¬ ((h.1 1 x0 3) ≤ x3) →
    jm_in x3 24 ∧
    ((x1 * (h.1 1 x0 0)) ≤ (h.1 13 x0 x3.toNatClampNeg) →
      l_Table_openJobs_4 x0 x1 x2 (x3 + 1) h r) ∧
    (¬ ((x1 * (h.1 1 x0 0)) ≤ (h.1 13 x0 x3.toNatClampNeg)) →
      ∃ (v1 : Int32) (h1 : jm_H), m_Table_lastFrame x0 x3 h v1 h1 ∧
      (v1 < x1 →
        l_Table_openJobs_4 x0 x1 x2 (x3 + 1) h1 r) ∧
      (¬ (v1 < x1) →
        l_Table_openJobs_4 x0 x1 (x2 ||| (1 <<< (x3 &&& 31))) (x3 + 1) h1 r)))) : l_Table_openJobs_4 x0 x1 x2 x3 h r := by
  refine jm_E_n 5 (x' := (if (h.1 1 x0 3) ≤ x3 then 33 else 9, [some (jm_r 6 x0), some (jm_i x1), some (jm_i x2), some (jm_i x3)], [], h)) rfl ?_
  refine jm_E_ite (fun hc => ?_) (fun hc => ?_)
  · replace H := H.1 hc
    refine jm_E_n 1 (x' := (34, [some (jm_r 6 x0), some (jm_i x1), some (jm_i x2), some (jm_i x3)], [jm_i x2], h)) rfl ?_
    exact jm_E_ret rfl (by rw [H]; rfl)
  · replace H := H.2 hc
    refine jm_E_n 4 (x' := (13, [some (jm_r 6 x0), some (jm_i x1), some (jm_i x2), some (jm_i x3)], [jm_i x3, jm_r 13 x0], h)) rfl ?_
    refine jm_E_iald rfl rfl H.1 ?_
    replace H := H.2
    refine jm_E_eq (x := (14, [some (jm_r 6 x0), some (jm_i x1), some (jm_i x2), some (jm_i x3)], [jm_i (h.1 13 x0 x3.toNatClampNeg)], h)) rfl ?_
    refine jm_E_n 6 (x' := (if (x1 * (h.1 1 x0 0)) ≤ (h.1 13 x0 x3.toNatClampNeg) then 31 else 20, [some (jm_r 6 x0), some (jm_i x1), some (jm_i x2), some (jm_i x3)], [], h)) rfl ?_
    refine jm_E_ite (fun hc => ?_) (fun hc => ?_)
    · replace H := H.1 hc
      refine jm_E_n 2 (x' := (4, [some (jm_r 6 x0), some (jm_i x1), some (jm_i x2), some (jm_i (x3 + 1))], [], h)) rfl ?_
      exact H
    · replace H := H.2 hc
      refine jm_E_n 2 (x' := (22, [some (jm_r 6 x0), some (jm_i x1), some (jm_i x2), some (jm_i x3)], [jm_i x3, jm_r 6 x0], h)) rfl ?_
      obtain ⟨v1, h1, hR, H⟩ := H
      refine jm_E_call rfl (Nat.le_of_ble_eq_true rfl) (Nat.le_of_ble_eq_true rfl) rfl hR trivial ?_
      refine jm_E_eq (x := (23, [some (jm_r 6 x0), some (jm_i x1), some (jm_i x2), some (jm_i x3)], [jm_i v1], h1)) rfl ?_
      refine jm_E_n 2 (x' := (if v1 < x1 then 31 else 25, [some (jm_r 6 x0), some (jm_i x1), some (jm_i x2), some (jm_i x3)], [], h1)) rfl ?_
      refine jm_E_ite (fun hc => ?_) (fun hc => ?_)
      · replace H := H.1 hc
        refine jm_E_n 2 (x' := (4, [some (jm_r 6 x0), some (jm_i x1), some (jm_i x2), some (jm_i (x3 + 1))], [], h1)) rfl ?_
        exact H
      · replace H := H.2 hc
        refine jm_E_n 8 (x' := (4, [some (jm_r 6 x0), some (jm_i x1), some (jm_i (x2 ||| (1 <<< (x3 &&& 31)))), some (jm_i (x3 + 1))], [], h1)) rfl ?_
        exact H
set_option maxRecDepth 100000 in
theorem wp_Table_openJobs {o : Nat} {a0 : Int32} {h : jm_H} {r : jm_Rs} (H :
  l_Table_openJobs_4 o a0 0 0 h r) : jm_R 270 [jm_r 6 o, jm_i a0] h r := by
  refine jm_R_of hz_270 (Nat.le_of_ble_eq_true rfl) ?_
  show jm_E cod_270 (0, [some (jm_r 6 o), some (jm_i a0), none, none], [], h) r
  refine jm_E_n 4 (x' := (4, [some (jm_r 6 o), some (jm_i a0), some (jm_i 0), some (jm_i 0)], [], h)) rfl ?_
  exact H
set_option maxRecDepth 100000 in
theorem wp_FR_openAt {a0 : Int32} {a1 : Int32} {h : jm_H} {r : jm_Rs} (H :
  ∃ (v1 : Int32) (h1 : jm_H), m_FR_isFrame a0 a1 h v1 h1 ∧
  ∃ (v2 : Int32) (h2 : jm_H), m_FR_tableRefusal a0 v1 h1 v2 h2 ∧
  (v2 = 0 →
    jm_in a0 3 ∧
    ∃ (v3 : Int32) (h3 : jm_H), m_Table_openJobs (3 * 0 + a0.toNatClampNeg) a1 h2 v3 h3 ∧
    ∃ (v4 : Int32) (h4 : jm_H), m_FR_answered v3 h3 v4 h4 ∧
    r = (some (jm_i v4), h4)) ∧
  (¬ (v2 = 0) →
    ∃ (v5 : Int32) (h5 : jm_H), m_FR_refused v2 h2 v5 h5 ∧
    r = (some (jm_i v5), h5))) : jm_R 43 [jm_r 7 0, jm_i a0, jm_i a1] h r := by
  refine jm_R_of hz_43 (Nat.le_of_ble_eq_true rfl) ?_
  show jm_E cod_43 (0, [some (jm_r 7 0), some (jm_i a0), some (jm_i a1), none], [], h) r
  refine jm_E_n 5 (x' := (5, [some (jm_r 7 0), some (jm_i a0), some (jm_i a1), none], [jm_i a1, jm_i a0, jm_r 7 0, jm_i a0, jm_r 7 0], h)) rfl ?_
  obtain ⟨v1, h1, hR, H⟩ := H
  refine jm_E_call rfl (Nat.le_of_ble_eq_true rfl) (Nat.le_of_ble_eq_true rfl) rfl hR trivial ?_
  refine jm_E_eq (x := (6, [some (jm_r 7 0), some (jm_i a0), some (jm_i a1), none], [jm_i v1, jm_i a0, jm_r 7 0], h1)) rfl ?_
  obtain ⟨v2, h2, hR, H⟩ := H
  refine jm_E_call rfl (Nat.le_of_ble_eq_true rfl) (Nat.le_of_ble_eq_true rfl) rfl hR trivial ?_
  refine jm_E_eq (x := (7, [some (jm_r 7 0), some (jm_i a0), some (jm_i a1), none], [jm_i v2], h2)) rfl ?_
  refine jm_E_n 3 (x' := (if v2 = 0 then 14 else 10, [some (jm_r 7 0), some (jm_i a0), some (jm_i a1), some (jm_i v2)], [], h2)) rfl ?_
  refine jm_E_ite (fun hc => ?_) (fun hc => ?_)
  · replace H := H.1 hc
    refine jm_E_n 4 (x' := (18, [some (jm_r 7 0), some (jm_i a0), some (jm_i a1), some (jm_i v2)], [jm_i a0, jm_r 32 0, jm_r 7 0], h2)) rfl ?_
    refine jm_E_aald rfl rfl H.1 ?_
    replace H := H.2
    refine jm_E_eq (x := (19, [some (jm_r 7 0), some (jm_i a0), some (jm_i a1), some (jm_i v2)], [jm_r 6 (3 * 0 + a0.toNatClampNeg), jm_r 7 0], h2)) rfl ?_
    refine jm_E_n 1 (x' := (20, [some (jm_r 7 0), some (jm_i a0), some (jm_i a1), some (jm_i v2)], [jm_i a1, jm_r 6 (3 * 0 + a0.toNatClampNeg), jm_r 7 0], h2)) rfl ?_
    obtain ⟨v3, h3, hR, H⟩ := H
    refine jm_E_call rfl (Nat.le_of_ble_eq_true rfl) (Nat.le_of_ble_eq_true rfl) rfl hR trivial ?_
    refine jm_E_eq (x := (21, [some (jm_r 7 0), some (jm_i a0), some (jm_i a1), some (jm_i v2)], [jm_i v3, jm_r 7 0], h3)) rfl ?_
    obtain ⟨v4, h4, hR, H⟩ := H
    refine jm_E_call rfl (Nat.le_of_ble_eq_true rfl) (Nat.le_of_ble_eq_true rfl) rfl hR trivial ?_
    refine jm_E_eq (x := (22, [some (jm_r 7 0), some (jm_i a0), some (jm_i a1), some (jm_i v2)], [jm_i v4], h4)) rfl ?_
    exact jm_E_ret rfl (by rw [H]; rfl)
  · replace H := H.2 hc
    refine jm_E_n 2 (x' := (12, [some (jm_r 7 0), some (jm_i a0), some (jm_i a1), some (jm_i v2)], [jm_i v2, jm_r 7 0], h2)) rfl ?_
    obtain ⟨v5, h5, hR, H⟩ := H
    refine jm_E_call rfl (Nat.le_of_ble_eq_true rfl) (Nat.le_of_ble_eq_true rfl) rfl hR trivial ?_
    refine jm_E_eq (x := (13, [some (jm_r 7 0), some (jm_i a0), some (jm_i a1), some (jm_i v2)], [jm_i v5], h5)) rfl ?_
    refine jm_E_n 1 (x' := (22, [some (jm_r 7 0), some (jm_i a0), some (jm_i a1), some (jm_i v2)], [jm_i v5], h5)) rfl ?_
    exact jm_E_ret rfl (by rw [H]; rfl)
set_option maxRecDepth 100000 in
theorem wp_Clock_tell {o : Nat} {a0 : Int32} {h : jm_H} {r : jm_Rs} (H :
  (a0 = 0 →
    r = (some (jm_i (h.1 0 o 0)), h)) ∧
  (a0 = 1 →
    r = (some (jm_i (h.1 0 o 1)), h)) ∧
  (a0 = 2 →
    r = (some (jm_i (h.1 0 o 2)), h)) ∧
  (a0 = 3 →
    r = (some (jm_i (h.1 0 o 3)), h)) ∧
  (a0 = 4 →
    r = (some (jm_i (h.1 0 o 4)), h)) ∧
  (a0 = 5 →
    r = (some (jm_i (h.1 0 o 5)), h)) ∧
  (a0 = 6 →
    r = (some (jm_i (h.1 0 o 6)), h)) ∧
  (a0 = 7 →
    r = (some (jm_i (h.1 0 o 7)), h)) ∧
  (a0 = 8 →
    r = (some (jm_i (h.1 0 o 8)), h)) ∧
  (a0.toInt < 0 ∨ 9 ≤ a0.toInt →
    r = (some (jm_i (h.1 0 o 9)), h))) : jm_R 203 [jm_r 0 o, jm_i a0] h r := by
  refine jm_R_of hz_203 (Nat.le_of_ble_eq_true rfl) ?_
  show jm_E cod_203 (0, [some (jm_r 0 o), some (jm_i a0)], [], h) r
  refine jm_E_n 2 (x' := (if a0.toInt < 0 ∨ 0 + (9 : Nat) ≤ a0.toInt then 29 else ([2, 5, 8, 11, 14, 17, 20, 23, 26] : List Nat).getD (a0.toInt - 0).toNat 0, [some (jm_r 0 o), some (jm_i a0)], [], h)) rfl ?_
  obtain ⟨H0, H1, H2, H3, H4, H5, H6, H7, H8, HD⟩ := H
  refine jm_E_tsw9 (fun hc => ?_) (fun hc => ?_) (fun hc => ?_) (fun hc => ?_) (fun hc => ?_) (fun hc => ?_) (fun hc => ?_) (fun hc => ?_) (fun hc => ?_) (fun hc => ?_)
  · replace H := HD hc
    refine jm_E_n 2 (x' := (31, [some (jm_r 0 o), some (jm_i a0)], [jm_i (h.1 0 o 9)], h)) rfl ?_
    exact jm_E_ret rfl (by rw [H]; rfl)
  · replace H := H0 hc
    refine jm_E_n 2 (x' := (4, [some (jm_r 0 o), some (jm_i a0)], [jm_i (h.1 0 o 0)], h)) rfl ?_
    exact jm_E_ret rfl (by rw [H]; rfl)
  · replace H := H1 hc
    refine jm_E_n 2 (x' := (7, [some (jm_r 0 o), some (jm_i a0)], [jm_i (h.1 0 o 1)], h)) rfl ?_
    exact jm_E_ret rfl (by rw [H]; rfl)
  · replace H := H2 hc
    refine jm_E_n 2 (x' := (10, [some (jm_r 0 o), some (jm_i a0)], [jm_i (h.1 0 o 2)], h)) rfl ?_
    exact jm_E_ret rfl (by rw [H]; rfl)
  · replace H := H3 hc
    refine jm_E_n 2 (x' := (13, [some (jm_r 0 o), some (jm_i a0)], [jm_i (h.1 0 o 3)], h)) rfl ?_
    exact jm_E_ret rfl (by rw [H]; rfl)
  · replace H := H4 hc
    refine jm_E_n 2 (x' := (16, [some (jm_r 0 o), some (jm_i a0)], [jm_i (h.1 0 o 4)], h)) rfl ?_
    exact jm_E_ret rfl (by rw [H]; rfl)
  · replace H := H5 hc
    refine jm_E_n 2 (x' := (19, [some (jm_r 0 o), some (jm_i a0)], [jm_i (h.1 0 o 5)], h)) rfl ?_
    exact jm_E_ret rfl (by rw [H]; rfl)
  · replace H := H6 hc
    refine jm_E_n 2 (x' := (22, [some (jm_r 0 o), some (jm_i a0)], [jm_i (h.1 0 o 6)], h)) rfl ?_
    exact jm_E_ret rfl (by rw [H]; rfl)
  · replace H := H7 hc
    refine jm_E_n 2 (x' := (25, [some (jm_r 0 o), some (jm_i a0)], [jm_i (h.1 0 o 7)], h)) rfl ?_
    exact jm_E_ret rfl (by rw [H]; rfl)
  · replace H := H8 hc
    refine jm_E_n 2 (x' := (28, [some (jm_r 0 o), some (jm_i a0)], [jm_i (h.1 0 o 8)], h)) rfl ?_
    exact jm_E_ret rfl (by rw [H]; rfl)
set_option maxRecDepth 100000 in
theorem wp_FR_clock {a0 : Int32} {h : jm_H} {r : jm_Rs} (H :
  ((h.1 3 (h.2.1 7 0 1) 0) = 0 →
    ∃ (v1 : Int32) (h1 : jm_H), m_FR_refused 1 h v1 h1 ∧
    r = (some (jm_i v1), h1)) ∧
  (¬ ((h.1 3 (h.2.1 7 0 1) 0) = 0) →
    (a0 < 0 →
      ∃ (v2 : Int32) (h2 : jm_H), m_FR_refused 1 h v2 h2 ∧
      r = (some (jm_i v2), h2)) ∧
    (¬ (a0 < 0) →
      (a0 ≤ 9 →
        ∃ (v3 : Int32) (h3 : jm_H), m_Clock_tell 0 a0 h v3 h3 ∧
        ∃ (v4 : Int32) (h4 : jm_H), m_FR_answered v3 h3 v4 h4 ∧
        r = (some (jm_i v4), h4)) ∧
      (¬ (a0 ≤ 9) →
        ∃ (v5 : Int32) (h5 : jm_H), m_FR_refused 1 h v5 h5 ∧
        r = (some (jm_i v5), h5))))) : jm_R 45 [jm_r 7 0, jm_i a0] h r := by
  refine jm_R_of hz_45 (Nat.le_of_ble_eq_true rfl) ?_
  show jm_E cod_45 (0, [some (jm_r 7 0), some (jm_i a0)], [], h) r
  refine jm_E_n 4 (x' := (if (h.1 3 (h.2.1 7 0 1) 0) = 0 then 9 else 4, [some (jm_r 7 0), some (jm_i a0)], [], h)) rfl ?_
  refine jm_E_ite (fun hc => ?_) (fun hc => ?_)
  · replace H := H.1 hc
    refine jm_E_n 2 (x' := (11, [some (jm_r 7 0), some (jm_i a0)], [jm_i 1, jm_r 7 0], h)) rfl ?_
    obtain ⟨v1, h1, hR, H⟩ := H
    refine jm_E_call rfl (Nat.le_of_ble_eq_true rfl) (Nat.le_of_ble_eq_true rfl) rfl hR trivial ?_
    refine jm_E_eq (x := (12, [some (jm_r 7 0), some (jm_i a0)], [jm_i v1], h1)) rfl ?_
    exact jm_E_ret rfl (by rw [H]; rfl)
  · replace H := H.2 hc
    refine jm_E_n 2 (x' := (if a0 < 0 then 9 else 6, [some (jm_r 7 0), some (jm_i a0)], [], h)) rfl ?_
    refine jm_E_ite (fun hc => ?_) (fun hc => ?_)
    · replace H := H.1 hc
      refine jm_E_n 2 (x' := (11, [some (jm_r 7 0), some (jm_i a0)], [jm_i 1, jm_r 7 0], h)) rfl ?_
      obtain ⟨v2, h2, hR, H⟩ := H
      refine jm_E_call rfl (Nat.le_of_ble_eq_true rfl) (Nat.le_of_ble_eq_true rfl) rfl hR trivial ?_
      refine jm_E_eq (x := (12, [some (jm_r 7 0), some (jm_i a0)], [jm_i v2], h2)) rfl ?_
      exact jm_E_ret rfl (by rw [H]; rfl)
    · replace H := H.2 hc
      refine jm_E_n 3 (x' := (if a0 ≤ 9 then 13 else 9, [some (jm_r 7 0), some (jm_i a0)], [], h)) rfl ?_
      refine jm_E_ite (fun hc => ?_) (fun hc => ?_)
      · replace H := H.1 hc
        refine jm_E_n 4 (x' := (17, [some (jm_r 7 0), some (jm_i a0)], [jm_i a0, jm_r 0 0, jm_r 7 0], h)) rfl ?_
        obtain ⟨v3, h3, hR, H⟩ := H
        refine jm_E_call rfl (Nat.le_of_ble_eq_true rfl) (Nat.le_of_ble_eq_true rfl) rfl hR trivial ?_
        refine jm_E_eq (x := (18, [some (jm_r 7 0), some (jm_i a0)], [jm_i v3, jm_r 7 0], h3)) rfl ?_
        obtain ⟨v4, h4, hR, H⟩ := H
        refine jm_E_call rfl (Nat.le_of_ble_eq_true rfl) (Nat.le_of_ble_eq_true rfl) rfl hR trivial ?_
        refine jm_E_eq (x := (19, [some (jm_r 7 0), some (jm_i a0)], [jm_i v4], h4)) rfl ?_
        exact jm_E_ret rfl (by rw [H]; rfl)
      · replace H := H.2 hc
        refine jm_E_n 2 (x' := (11, [some (jm_r 7 0), some (jm_i a0)], [jm_i 1, jm_r 7 0], h)) rfl ?_
        obtain ⟨v5, h5, hR, H⟩ := H
        refine jm_E_call rfl (Nat.le_of_ble_eq_true rfl) (Nat.le_of_ble_eq_true rfl) rfl hR trivial ?_
        refine jm_E_eq (x := (12, [some (jm_r 7 0), some (jm_i a0)], [jm_i v5], h5)) rfl ?_
        exact jm_E_ret rfl (by rw [H]; rfl)
set_option maxRecDepth 100000 in
theorem wp_FR_clockRefusal {a0 : Int32} {h : jm_H} {r : jm_Rs} (H :
  ((h.1 3 (h.2.1 7 0 1) 0) = 0 →
    r = (some (jm_i 1), h)) ∧
  (¬ ((h.1 3 (h.2.1 7 0 1) 0) = 0) →
    jm_in (h.1 0 0 1) 3 ∧
    ((h.1 6 (3 * 0 + (h.1 0 0 1).toNatClampNeg) 1) = 0 →
      r = (some (jm_i 5), h)) ∧
    (¬ ((h.1 6 (3 * 0 + (h.1 0 0 1).toNatClampNeg) 1) = 0) →
      (a0 = 0 →
        r = (some (jm_i 2), h)) ∧
      (¬ (a0 = 0) →
        r = (some (jm_i 0), h))))) : jm_R 59 [jm_r 7 0, jm_i a0] h r := by
  refine jm_R_of hz_59 (Nat.le_of_ble_eq_true rfl) ?_
  show jm_E cod_59 (0, [some (jm_r 7 0), some (jm_i a0)], [], h) r
  refine jm_E_n 4 (x' := (if (h.1 3 (h.2.1 7 0 1) 0) = 0 then 4 else 6, [some (jm_r 7 0), some (jm_i a0)], [], h)) rfl ?_
  refine jm_E_ite (fun hc => ?_) (fun hc => ?_)
  · replace H := H.1 hc
    refine jm_E_n 1 (x' := (5, [some (jm_r 7 0), some (jm_i a0)], [jm_i 1], h)) rfl ?_
    exact jm_E_ret rfl (by rw [H]; rfl)
  · replace H := H.2 hc
    refine jm_E_n 5 (x' := (11, [some (jm_r 7 0), some (jm_i a0)], [jm_i (h.1 0 0 1), jm_r 32 0], h)) rfl ?_
    refine jm_E_aald rfl rfl H.1 ?_
    replace H := H.2
    refine jm_E_eq (x := (12, [some (jm_r 7 0), some (jm_i a0)], [jm_r 6 (3 * 0 + (h.1 0 0 1).toNatClampNeg)], h)) rfl ?_
    refine jm_E_n 2 (x' := (if (h.1 6 (3 * 0 + (h.1 0 0 1).toNatClampNeg) 1) = 0 then 14 else 16, [some (jm_r 7 0), some (jm_i a0)], [], h)) rfl ?_
    refine jm_E_ite (fun hc => ?_) (fun hc => ?_)
    · replace H := H.1 hc
      refine jm_E_n 1 (x' := (15, [some (jm_r 7 0), some (jm_i a0)], [jm_i 5], h)) rfl ?_
      exact jm_E_ret rfl (by rw [H]; rfl)
    · replace H := H.2 hc
      refine jm_E_n 2 (x' := (if a0 = 0 then 20 else 18, [some (jm_r 7 0), some (jm_i a0)], [], h)) rfl ?_
      refine jm_E_ite (fun hc => ?_) (fun hc => ?_)
      · replace H := H.1 hc
        refine jm_E_n 1 (x' := (21, [some (jm_r 7 0), some (jm_i a0)], [jm_i 2], h)) rfl ?_
        exact jm_E_ret rfl (by rw [H]; rfl)
      · replace H := H.2 hc
        refine jm_E_n 2 (x' := (21, [some (jm_r 7 0), some (jm_i a0)], [jm_i 0], h)) rfl ?_
        exact jm_E_ret rfl (by rw [H]; rfl)
set_option maxRecDepth 100000 in
theorem wp_Clock_hasSwitch {o : Nat} {h : jm_H} {r : jm_Rs} (H :
  ((h.1 0 o 7) < 0 →
    r = (some (jm_i 0), h)) ∧
  (¬ ((h.1 0 o 7) < 0) →
    r = (some (jm_i 1), h))) : jm_R 204 [jm_r 0 o] h r := by
  refine jm_R_of hz_204 (Nat.le_of_ble_eq_true rfl) ?_
  show jm_E cod_204 (0, [some (jm_r 0 o)], [], h) r
  refine jm_E_n 3 (x' := (if (h.1 0 o 7) < 0 then 5 else 3, [some (jm_r 0 o)], [], h)) rfl ?_
  refine jm_E_ite (fun hc => ?_) (fun hc => ?_)
  · replace H := H.1 hc
    refine jm_E_n 1 (x' := (6, [some (jm_r 0 o)], [jm_i 0], h)) rfl ?_
    exact jm_E_ret rfl (by rw [H]; rfl)
  · replace H := H.2 hc
    refine jm_E_n 2 (x' := (6, [some (jm_r 0 o)], [jm_i 1], h)) rfl ?_
    exact jm_E_ret rfl (by rw [H]; rfl)
set_option maxRecDepth 100000 in
theorem wp_FR_framesToSwitch  {h : jm_H} {r : jm_Rs} (H :
  jm_in (h.1 0 0 1) 3 ∧
  ∃ (v1 : Int32) (h1 : jm_H), m_Clock_hasSwitch 0 h v1 h1 ∧
  (v1 = 0 →
    r = (some (jm_i 1000000), h1)) ∧
  (¬ (v1 = 0) →
    (0 < (h.1 1 (3 * 0 + (h.1 0 0 1).toNatClampNeg) 0) →
      ¬ (h.1 1 (3 * 0 + (h.1 0 0 1).toNatClampNeg) 0) = 0 ∧
      r = (some (jm_i (((h1.1 0 0 8) - (h1.1 0 0 0)) / (h.1 1 (3 * 0 + (h.1 0 0 1).toNatClampNeg) 0))), h1)) ∧
    (¬ (0 < (h.1 1 (3 * 0 + (h.1 0 0 1).toNatClampNeg) 0)) →
      r = (some (jm_i 1000000), h1)))) : jm_R 63 [jm_r 7 0] h r := by
  refine jm_R_of hz_63 (Nat.le_of_ble_eq_true rfl) ?_
  show jm_E cod_63 (0, [some (jm_r 7 0), none], [], h) r
  refine jm_E_n 5 (x' := (5, [some (jm_r 7 0), none], [jm_i (h.1 0 0 1), jm_r 32 0], h)) rfl ?_
  refine jm_E_aald rfl rfl H.1 ?_
  replace H := H.2
  refine jm_E_eq (x := (6, [some (jm_r 7 0), none], [jm_r 6 (3 * 0 + (h.1 0 0 1).toNatClampNeg)], h)) rfl ?_
  refine jm_E_n 5 (x' := (11, [some (jm_r 7 0), some (jm_i (h.1 1 (3 * 0 + (h.1 0 0 1).toNatClampNeg) 0))], [jm_r 0 0], h)) rfl ?_
  obtain ⟨v1, h1, hR, H⟩ := H
  refine jm_E_call rfl (Nat.le_of_ble_eq_true rfl) (Nat.le_of_ble_eq_true rfl) rfl hR trivial ?_
  refine jm_E_eq (x := (12, [some (jm_r 7 0), some (jm_i (h.1 1 (3 * 0 + (h.1 0 0 1).toNatClampNeg) 0))], [jm_i v1], h1)) rfl ?_
  refine jm_E_n 1 (x' := (if v1 = 0 then 15 else 13, [some (jm_r 7 0), some (jm_i (h.1 1 (3 * 0 + (h.1 0 0 1).toNatClampNeg) 0))], [], h1)) rfl ?_
  refine jm_E_ite (fun hc => ?_) (fun hc => ?_)
  · replace H := H.1 hc
    refine jm_E_n 1 (x' := (16, [some (jm_r 7 0), some (jm_i (h.1 1 (3 * 0 + (h.1 0 0 1).toNatClampNeg) 0))], [jm_i 1000000], h1)) rfl ?_
    exact jm_E_ret rfl (by rw [H]; rfl)
  · replace H := H.2 hc
    refine jm_E_n 2 (x' := (if 0 < (h.1 1 (3 * 0 + (h.1 0 0 1).toNatClampNeg) 0) then 17 else 15, [some (jm_r 7 0), some (jm_i (h.1 1 (3 * 0 + (h.1 0 0 1).toNatClampNeg) 0))], [], h1)) rfl ?_
    refine jm_E_ite (fun hc => ?_) (fun hc => ?_)
    · replace H := H.1 hc
      refine jm_E_n 8 (x' := (25, [some (jm_r 7 0), some (jm_i (h.1 1 (3 * 0 + (h.1 0 0 1).toNatClampNeg) 0))], [jm_i (h.1 1 (3 * 0 + (h.1 0 0 1).toNatClampNeg) 0), jm_i ((h1.1 0 0 8) - (h1.1 0 0 0))], h1)) rfl ?_
      refine jm_E_idiv rfl H.1 ?_
      replace H := H.2
      refine jm_E_eq (x := (26, [some (jm_r 7 0), some (jm_i (h.1 1 (3 * 0 + (h.1 0 0 1).toNatClampNeg) 0))], [jm_i (((h1.1 0 0 8) - (h1.1 0 0 0)) / (h.1 1 (3 * 0 + (h.1 0 0 1).toNatClampNeg) 0))], h1)) rfl ?_
      exact jm_E_ret rfl (by rw [H]; rfl)
    · replace H := H.2 hc
      refine jm_E_n 1 (x' := (16, [some (jm_r 7 0), some (jm_i (h.1 1 (3 * 0 + (h.1 0 0 1).toNatClampNeg) 0))], [jm_i 1000000], h1)) rfl ?_
      exact jm_E_ret rfl (by rw [H]; rfl)
set_option maxRecDepth 100000 in
theorem wp_FR_modeAhead {a0 : Int32} {h : jm_H} {r : jm_Rs} (H :
  ∃ (v1 : Int32) (h1 : jm_H), m_FR_framesToSwitch h v1 h1 ∧
  (v1 ≤ a0 →
    r = (some (jm_i (h1.1 0 0 7)), h1)) ∧
  (¬ (v1 ≤ a0) →
    r = (some (jm_i (h1.1 0 0 1)), h1))) : jm_R 64 [jm_r 7 0, jm_i a0] h r := by
  refine jm_R_of hz_64 (Nat.le_of_ble_eq_true rfl) ?_
  show jm_E cod_64 (0, [some (jm_r 7 0), some (jm_i a0)], [], h) r
  refine jm_E_n 2 (x' := (2, [some (jm_r 7 0), some (jm_i a0)], [jm_r 7 0, jm_i a0], h)) rfl ?_
  obtain ⟨v1, h1, hR, H⟩ := H
  refine jm_E_call rfl (Nat.le_of_ble_eq_true rfl) (Nat.le_of_ble_eq_true rfl) rfl hR trivial ?_
  refine jm_E_eq (x := (3, [some (jm_r 7 0), some (jm_i a0)], [jm_i v1, jm_i a0], h1)) rfl ?_
  refine jm_E_n 1 (x' := (if v1 ≤ a0 then 8 else 4, [some (jm_r 7 0), some (jm_i a0)], [], h1)) rfl ?_
  refine jm_E_ite (fun hc => ?_) (fun hc => ?_)
  · replace H := H.1 hc
    refine jm_E_n 3 (x' := (11, [some (jm_r 7 0), some (jm_i a0)], [jm_i (h1.1 0 0 7)], h1)) rfl ?_
    exact jm_E_ret rfl (by rw [H]; rfl)
  · replace H := H.2 hc
    refine jm_E_n 4 (x' := (11, [some (jm_r 7 0), some (jm_i a0)], [jm_i (h1.1 0 0 1)], h1)) rfl ?_
    exact jm_E_ret rfl (by rw [H]; rfl)
set_option maxRecDepth 100000 in
theorem wp_FR_beginningAhead {a0 : Int32} {h : jm_H} {r : jm_Rs} (H :
  ∃ (v1 : Int32) (h1 : jm_H), m_FR_framesToSwitch h v1 h1 ∧
  ∃ (v2 : Int32) (h2 : jm_H), m_FR_modeAhead a0 h1 v2 h2 ∧
  jm_in v2 3 ∧
  (v1 ≤ a0 →
    r = (some (jm_i ((h2.1 0 0 8) + ((a0 - v1) * (h2.1 1 (3 * 0 + v2.toNatClampNeg) 0)))), h2)) ∧
  (¬ (v1 ≤ a0) →
    r = (some (jm_i ((h2.1 0 0 0) + (a0 * (h2.1 1 (3 * 0 + v2.toNatClampNeg) 0)))), h2))) : jm_R 66 [jm_r 7 0, jm_i a0] h r := by
  refine jm_R_of hz_66 (Nat.le_of_ble_eq_true rfl) ?_
  show jm_E cod_66 (0, [some (jm_r 7 0), some (jm_i a0), none, none], [], h) r
  refine jm_E_n 1 (x' := (1, [some (jm_r 7 0), some (jm_i a0), none, none], [jm_r 7 0], h)) rfl ?_
  obtain ⟨v1, h1, hR, H⟩ := H
  refine jm_E_call rfl (Nat.le_of_ble_eq_true rfl) (Nat.le_of_ble_eq_true rfl) rfl hR trivial ?_
  refine jm_E_eq (x := (2, [some (jm_r 7 0), some (jm_i a0), none, none], [jm_i v1], h1)) rfl ?_
  refine jm_E_n 5 (x' := (7, [some (jm_r 7 0), some (jm_i a0), some (jm_i v1), none], [jm_i a0, jm_r 7 0, jm_r 32 0], h1)) rfl ?_
  obtain ⟨v2, h2, hR, H⟩ := H
  refine jm_E_call rfl (Nat.le_of_ble_eq_true rfl) (Nat.le_of_ble_eq_true rfl) rfl hR trivial ?_
  refine jm_E_eq (x := (8, [some (jm_r 7 0), some (jm_i a0), some (jm_i v1), none], [jm_i v2, jm_r 32 0], h2)) rfl ?_
  refine jm_E_aald rfl rfl H.1 ?_
  replace H := H.2
  refine jm_E_eq (x := (9, [some (jm_r 7 0), some (jm_i a0), some (jm_i v1), none], [jm_r 6 (3 * 0 + v2.toNatClampNeg)], h2)) rfl ?_
  refine jm_E_n 6 (x' := (if v1 ≤ a0 then 23 else 15, [some (jm_r 7 0), some (jm_i a0), some (jm_i v1), some (jm_i (h2.1 1 (3 * 0 + v2.toNatClampNeg) 0))], [], h2)) rfl ?_
  refine jm_E_ite (fun hc => ?_) (fun hc => ?_)
  · replace H := H.1 hc
    refine jm_E_n 9 (x' := (32, [some (jm_r 7 0), some (jm_i a0), some (jm_i v1), some (jm_i (h2.1 1 (3 * 0 + v2.toNatClampNeg) 0))], [jm_i ((h2.1 0 0 8) + ((a0 - v1) * (h2.1 1 (3 * 0 + v2.toNatClampNeg) 0)))], h2)) rfl ?_
    exact jm_E_ret rfl (by rw [H]; rfl)
  · replace H := H.2 hc
    refine jm_E_n 8 (x' := (32, [some (jm_r 7 0), some (jm_i a0), some (jm_i v1), some (jm_i (h2.1 1 (3 * 0 + v2.toNatClampNeg) 0))], [jm_i ((h2.1 0 0 0) + (a0 * (h2.1 1 (3 * 0 + v2.toNatClampNeg) 0)))], h2)) rfl ?_
    exact jm_E_ret rfl (by rw [H]; rfl)
set_option maxRecDepth 100000 in
theorem wp_FR_frameAhead {a0 : Int32} {h : jm_H} {r : jm_Rs} (H :
  ∃ (v1 : Int32) (h1 : jm_H), m_FR_framesToSwitch h v1 h1 ∧
  ∃ (v2 : Int32) (h2 : jm_H), m_FR_modeAhead a0 h1 v2 h2 ∧
  jm_in v2 3 ∧
  (0 < (h2.1 1 (3 * 0 + v2.toNatClampNeg) 2) →
    (v1 ≤ a0 →
      ¬ (h2.1 1 (3 * 0 + v2.toNatClampNeg) 2) = 0 ∧
      r = (some (jm_i ((a0 - v1) - (a0 - v1) / (h2.1 1 (3 * 0 + v2.toNatClampNeg) 2) * (h2.1 1 (3 * 0 + v2.toNatClampNeg) 2))), h2)) ∧
    (¬ (v1 ≤ a0) →
      ¬ (h2.1 1 (3 * 0 + v2.toNatClampNeg) 2) = 0 ∧
      r = (some (jm_i (((h2.1 0 0 2) + a0) - ((h2.1 0 0 2) + a0) / (h2.1 1 (3 * 0 + v2.toNatClampNeg) 2) * (h2.1 1 (3 * 0 + v2.toNatClampNeg) 2))), h2))) ∧
  (¬ (0 < (h2.1 1 (3 * 0 + v2.toNatClampNeg) 2)) →
    r = (some (jm_i 0), h2))) : jm_R 65 [jm_r 7 0, jm_i a0] h r := by
  refine jm_R_of hz_65 (Nat.le_of_ble_eq_true rfl) ?_
  show jm_E cod_65 (0, [some (jm_r 7 0), some (jm_i a0), none, none], [], h) r
  refine jm_E_n 1 (x' := (1, [some (jm_r 7 0), some (jm_i a0), none, none], [jm_r 7 0], h)) rfl ?_
  obtain ⟨v1, h1, hR, H⟩ := H
  refine jm_E_call rfl (Nat.le_of_ble_eq_true rfl) (Nat.le_of_ble_eq_true rfl) rfl hR trivial ?_
  refine jm_E_eq (x := (2, [some (jm_r 7 0), some (jm_i a0), none, none], [jm_i v1], h1)) rfl ?_
  refine jm_E_n 5 (x' := (7, [some (jm_r 7 0), some (jm_i a0), some (jm_i v1), none], [jm_i a0, jm_r 7 0, jm_r 32 0], h1)) rfl ?_
  obtain ⟨v2, h2, hR, H⟩ := H
  refine jm_E_call rfl (Nat.le_of_ble_eq_true rfl) (Nat.le_of_ble_eq_true rfl) rfl hR trivial ?_
  refine jm_E_eq (x := (8, [some (jm_r 7 0), some (jm_i a0), some (jm_i v1), none], [jm_i v2, jm_r 32 0], h2)) rfl ?_
  refine jm_E_aald rfl rfl H.1 ?_
  replace H := H.2
  refine jm_E_eq (x := (9, [some (jm_r 7 0), some (jm_i a0), some (jm_i v1), none], [jm_r 6 (3 * 0 + v2.toNatClampNeg)], h2)) rfl ?_
  refine jm_E_n 5 (x' := (if 0 < (h2.1 1 (3 * 0 + v2.toNatClampNeg) 2) then 16 else 14, [some (jm_r 7 0), some (jm_i a0), some (jm_i v1), some (jm_i (h2.1 1 (3 * 0 + v2.toNatClampNeg) 2))], [], h2)) rfl ?_
  refine jm_E_ite (fun hc => ?_) (fun hc => ?_)
  · replace H := H.1 hc
    refine jm_E_n 3 (x' := (if v1 ≤ a0 then 27 else 19, [some (jm_r 7 0), some (jm_i a0), some (jm_i v1), some (jm_i (h2.1 1 (3 * 0 + v2.toNatClampNeg) 2))], [], h2)) rfl ?_
    refine jm_E_ite (fun hc => ?_) (fun hc => ?_)
    · replace H := H.1 hc
      refine jm_E_n 4 (x' := (31, [some (jm_r 7 0), some (jm_i a0), some (jm_i v1), some (jm_i (h2.1 1 (3 * 0 + v2.toNatClampNeg) 2))], [jm_i (h2.1 1 (3 * 0 + v2.toNatClampNeg) 2), jm_i (a0 - v1)], h2)) rfl ?_
      refine jm_E_irem rfl H.1 ?_
      replace H := H.2
      refine jm_E_eq (x := (32, [some (jm_r 7 0), some (jm_i a0), some (jm_i v1), some (jm_i (h2.1 1 (3 * 0 + v2.toNatClampNeg) 2))], [jm_i ((a0 - v1) - (a0 - v1) / (h2.1 1 (3 * 0 + v2.toNatClampNeg) 2) * (h2.1 1 (3 * 0 + v2.toNatClampNeg) 2))], h2)) rfl ?_
      exact jm_E_ret rfl (by rw [H]; rfl)
    · replace H := H.2 hc
      refine jm_E_n 6 (x' := (25, [some (jm_r 7 0), some (jm_i a0), some (jm_i v1), some (jm_i (h2.1 1 (3 * 0 + v2.toNatClampNeg) 2))], [jm_i (h2.1 1 (3 * 0 + v2.toNatClampNeg) 2), jm_i ((h2.1 0 0 2) + a0)], h2)) rfl ?_
      refine jm_E_irem rfl H.1 ?_
      replace H := H.2
      refine jm_E_eq (x := (26, [some (jm_r 7 0), some (jm_i a0), some (jm_i v1), some (jm_i (h2.1 1 (3 * 0 + v2.toNatClampNeg) 2))], [jm_i (((h2.1 0 0 2) + a0) - ((h2.1 0 0 2) + a0) / (h2.1 1 (3 * 0 + v2.toNatClampNeg) 2) * (h2.1 1 (3 * 0 + v2.toNatClampNeg) 2))], h2)) rfl ?_
      refine jm_E_n 1 (x' := (32, [some (jm_r 7 0), some (jm_i a0), some (jm_i v1), some (jm_i (h2.1 1 (3 * 0 + v2.toNatClampNeg) 2))], [jm_i (((h2.1 0 0 2) + a0) - ((h2.1 0 0 2) + a0) / (h2.1 1 (3 * 0 + v2.toNatClampNeg) 2) * (h2.1 1 (3 * 0 + v2.toNatClampNeg) 2))], h2)) rfl ?_
      exact jm_E_ret rfl (by rw [H]; rfl)
  · replace H := H.2 hc
    refine jm_E_n 1 (x' := (15, [some (jm_r 7 0), some (jm_i a0), some (jm_i v1), some (jm_i (h2.1 1 (3 * 0 + v2.toNatClampNeg) 2))], [jm_i 0], h2)) rfl ?_
    exact jm_E_ret rfl (by rw [H]; rfl)
