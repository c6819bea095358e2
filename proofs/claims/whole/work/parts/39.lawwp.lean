set_option maxRecDepth 100000 in
theorem wl_0 {L : Nat} {xs : Nat → Int32} {i : Int32} {h : jm_H} {x' : jm_S} (H :
  jm_in (i + 1) L ∧
  jm_in (i + 2) L ∧
  jm_in (i + 3) L ∧
  jm_in (i + 4) L ∧
  jm_in (i + 5) L ∧
  ∃ (v1 : Int32) (h1 : jm_H), m_FR_feed (xs ((i + 1).toNatClampNeg)) (xs ((i + 2).toNatClampNeg)) (xs ((i + 3).toNatClampNeg)) (xs ((i + 4).toNatClampNeg)) (xs ((i + 5).toNatClampNeg)) h v1 h1 ∧
  jm_in (i + 1) L ∧
  jm_in (i + 2) L ∧
  jm_in (i + 3) L ∧
  jm_in (i + 4) L ∧
  jm_in (i + 5) L ∧
  ∃ (v2 : Int32) (h2 : jm_H), m_M_feed (xs ((i + 1).toNatClampNeg)) (xs ((i + 2).toNatClampNeg)) (xs ((i + 3).toNatClampNeg)) (xs ((i + 4).toNatClampNeg)) (xs ((i + 5).toNatClampNeg)) h1 v2 h2 ∧
  (v1 = v2 →
    x' = (1178, [some (jm_r 62 0), some (jm_r 7 0), some (jm_r 8 0), some (jm_r 58 0), some (jm_i i), none, none], [], h2)) ∧
  (¬ (v1 = v2) →
    False)) : jm_P (cod_law L xs) (25, [some (jm_r 62 0), some (jm_r 7 0), some (jm_r 8 0), some (jm_r 58 0), some (jm_i i), none, none], [], h) x' := by
  refine jm_P_n 5 (x1 := (30, [some (jm_r 62 0), some (jm_r 7 0), some (jm_r 8 0), some (jm_r 58 0), some (jm_i i), none, none], [jm_i (i + 1), jm_r 62 0, jm_r 7 0], h)) rfl ?_
  refine jm_P_xld rfl H.1 ?_
  replace H := H.2
  refine jm_P_eq (x := (31, [some (jm_r 62 0), some (jm_r 7 0), some (jm_r 8 0), some (jm_r 58 0), some (jm_i i), none, none], [jm_i (xs ((i + 1).toNatClampNeg)), jm_r 7 0], h)) rfl ?_
  refine jm_P_n 4 (x1 := (35, [some (jm_r 62 0), some (jm_r 7 0), some (jm_r 8 0), some (jm_r 58 0), some (jm_i i), none, none], [jm_i (i + 2), jm_r 62 0, jm_i (xs ((i + 1).toNatClampNeg)), jm_r 7 0], h)) rfl ?_
  refine jm_P_xld rfl H.1 ?_
  replace H := H.2
  refine jm_P_eq (x := (36, [some (jm_r 62 0), some (jm_r 7 0), some (jm_r 8 0), some (jm_r 58 0), some (jm_i i), none, none], [jm_i (xs ((i + 2).toNatClampNeg)), jm_i (xs ((i + 1).toNatClampNeg)), jm_r 7 0], h)) rfl ?_
  refine jm_P_n 4 (x1 := (40, [some (jm_r 62 0), some (jm_r 7 0), some (jm_r 8 0), some (jm_r 58 0), some (jm_i i), none, none], [jm_i (i + 3), jm_r 62 0, jm_i (xs ((i + 2).toNatClampNeg)), jm_i (xs ((i + 1).toNatClampNeg)), jm_r 7 0], h)) rfl ?_
  refine jm_P_xld rfl H.1 ?_
  replace H := H.2
  refine jm_P_eq (x := (41, [some (jm_r 62 0), some (jm_r 7 0), some (jm_r 8 0), some (jm_r 58 0), some (jm_i i), none, none], [jm_i (xs ((i + 3).toNatClampNeg)), jm_i (xs ((i + 2).toNatClampNeg)), jm_i (xs ((i + 1).toNatClampNeg)), jm_r 7 0], h)) rfl ?_
  refine jm_P_n 4 (x1 := (45, [some (jm_r 62 0), some (jm_r 7 0), some (jm_r 8 0), some (jm_r 58 0), some (jm_i i), none, none], [jm_i (i + 4), jm_r 62 0, jm_i (xs ((i + 3).toNatClampNeg)), jm_i (xs ((i + 2).toNatClampNeg)), jm_i (xs ((i + 1).toNatClampNeg)), jm_r 7 0], h)) rfl ?_
  refine jm_P_xld rfl H.1 ?_
  replace H := H.2
  refine jm_P_eq (x := (46, [some (jm_r 62 0), some (jm_r 7 0), some (jm_r 8 0), some (jm_r 58 0), some (jm_i i), none, none], [jm_i (xs ((i + 4).toNatClampNeg)), jm_i (xs ((i + 3).toNatClampNeg)), jm_i (xs ((i + 2).toNatClampNeg)), jm_i (xs ((i + 1).toNatClampNeg)), jm_r 7 0], h)) rfl ?_
  refine jm_P_n 4 (x1 := (50, [some (jm_r 62 0), some (jm_r 7 0), some (jm_r 8 0), some (jm_r 58 0), some (jm_i i), none, none], [jm_i (i + 5), jm_r 62 0, jm_i (xs ((i + 4).toNatClampNeg)), jm_i (xs ((i + 3).toNatClampNeg)), jm_i (xs ((i + 2).toNatClampNeg)), jm_i (xs ((i + 1).toNatClampNeg)), jm_r 7 0], h)) rfl ?_
  refine jm_P_xld rfl H.1 ?_
  replace H := H.2
  refine jm_P_eq (x := (51, [some (jm_r 62 0), some (jm_r 7 0), some (jm_r 8 0), some (jm_r 58 0), some (jm_i i), none, none], [jm_i (xs ((i + 5).toNatClampNeg)), jm_i (xs ((i + 4).toNatClampNeg)), jm_i (xs ((i + 3).toNatClampNeg)), jm_i (xs ((i + 2).toNatClampNeg)), jm_i (xs ((i + 1).toNatClampNeg)), jm_r 7 0], h)) rfl ?_
  obtain ⟨v1, h1, hR, H⟩ := H
  refine jm_P_call rfl (Nat.le_of_ble_eq_true rfl) (Nat.le_of_ble_eq_true rfl) rfl hR trivial ?_
  refine jm_P_eq (x := (52, [some (jm_r 62 0), some (jm_r 7 0), some (jm_r 8 0), some (jm_r 58 0), some (jm_i i), none, none], [jm_i v1], h1)) rfl ?_
  refine jm_P_n 5 (x1 := (57, [some (jm_r 62 0), some (jm_r 7 0), some (jm_r 8 0), some (jm_r 58 0), some (jm_i i), none, none], [jm_i (i + 1), jm_r 62 0, jm_r 8 0, jm_i v1], h1)) rfl ?_
  refine jm_P_xld rfl H.1 ?_
  replace H := H.2
  refine jm_P_eq (x := (58, [some (jm_r 62 0), some (jm_r 7 0), some (jm_r 8 0), some (jm_r 58 0), some (jm_i i), none, none], [jm_i (xs ((i + 1).toNatClampNeg)), jm_r 8 0, jm_i v1], h1)) rfl ?_
  refine jm_P_n 4 (x1 := (62, [some (jm_r 62 0), some (jm_r 7 0), some (jm_r 8 0), some (jm_r 58 0), some (jm_i i), none, none], [jm_i (i + 2), jm_r 62 0, jm_i (xs ((i + 1).toNatClampNeg)), jm_r 8 0, jm_i v1], h1)) rfl ?_
  refine jm_P_xld rfl H.1 ?_
  replace H := H.2
  refine jm_P_eq (x := (63, [some (jm_r 62 0), some (jm_r 7 0), some (jm_r 8 0), some (jm_r 58 0), some (jm_i i), none, none], [jm_i (xs ((i + 2).toNatClampNeg)), jm_i (xs ((i + 1).toNatClampNeg)), jm_r 8 0, jm_i v1], h1)) rfl ?_
  refine jm_P_n 4 (x1 := (67, [some (jm_r 62 0), some (jm_r 7 0), some (jm_r 8 0), some (jm_r 58 0), some (jm_i i), none, none], [jm_i (i + 3), jm_r 62 0, jm_i (xs ((i + 2).toNatClampNeg)), jm_i (xs ((i + 1).toNatClampNeg)), jm_r 8 0, jm_i v1], h1)) rfl ?_
  refine jm_P_xld rfl H.1 ?_
  replace H := H.2
  refine jm_P_eq (x := (68, [some (jm_r 62 0), some (jm_r 7 0), some (jm_r 8 0), some (jm_r 58 0), some (jm_i i), none, none], [jm_i (xs ((i + 3).toNatClampNeg)), jm_i (xs ((i + 2).toNatClampNeg)), jm_i (xs ((i + 1).toNatClampNeg)), jm_r 8 0, jm_i v1], h1)) rfl ?_
  refine jm_P_n 4 (x1 := (72, [some (jm_r 62 0), some (jm_r 7 0), some (jm_r 8 0), some (jm_r 58 0), some (jm_i i), none, none], [jm_i (i + 4), jm_r 62 0, jm_i (xs ((i + 3).toNatClampNeg)), jm_i (xs ((i + 2).toNatClampNeg)), jm_i (xs ((i + 1).toNatClampNeg)), jm_r 8 0, jm_i v1], h1)) rfl ?_
  refine jm_P_xld rfl H.1 ?_
  replace H := H.2
  refine jm_P_eq (x := (73, [some (jm_r 62 0), some (jm_r 7 0), some (jm_r 8 0), some (jm_r 58 0), some (jm_i i), none, none], [jm_i (xs ((i + 4).toNatClampNeg)), jm_i (xs ((i + 3).toNatClampNeg)), jm_i (xs ((i + 2).toNatClampNeg)), jm_i (xs ((i + 1).toNatClampNeg)), jm_r 8 0, jm_i v1], h1)) rfl ?_
  refine jm_P_n 4 (x1 := (77, [some (jm_r 62 0), some (jm_r 7 0), some (jm_r 8 0), some (jm_r 58 0), some (jm_i i), none, none], [jm_i (i + 5), jm_r 62 0, jm_i (xs ((i + 4).toNatClampNeg)), jm_i (xs ((i + 3).toNatClampNeg)), jm_i (xs ((i + 2).toNatClampNeg)), jm_i (xs ((i + 1).toNatClampNeg)), jm_r 8 0, jm_i v1], h1)) rfl ?_
  refine jm_P_xld rfl H.1 ?_
  replace H := H.2
  refine jm_P_eq (x := (78, [some (jm_r 62 0), some (jm_r 7 0), some (jm_r 8 0), some (jm_r 58 0), some (jm_i i), none, none], [jm_i (xs ((i + 5).toNatClampNeg)), jm_i (xs ((i + 4).toNatClampNeg)), jm_i (xs ((i + 3).toNatClampNeg)), jm_i (xs ((i + 2).toNatClampNeg)), jm_i (xs ((i + 1).toNatClampNeg)), jm_r 8 0, jm_i v1], h1)) rfl ?_
  obtain ⟨v2, h2, hR, H⟩ := H
  refine jm_P_call rfl (Nat.le_of_ble_eq_true rfl) (Nat.le_of_ble_eq_true rfl) rfl hR trivial ?_
  refine jm_P_eq (x := (79, [some (jm_r 62 0), some (jm_r 7 0), some (jm_r 8 0), some (jm_r 58 0), some (jm_i i), none, none], [jm_i v2, jm_i v1], h2)) rfl ?_
  refine jm_P_n 1 (x1 := (if v1 = v2 then 1178 else 80, [some (jm_r 62 0), some (jm_r 7 0), some (jm_r 8 0), some (jm_r 58 0), some (jm_i i), none, none], [], h2)) rfl ?_
  refine jm_P_ite (fun hc => ?_) (fun hc => ?_)
  · replace H := H.1 hc
    exact jm_P_refl H
  · replace H := H.2 hc
    exact H.elim
set_option maxRecDepth 100000 in
theorem wl_1 {L : Nat} {xs : Nat → Int32} {i : Int32} {h : jm_H} {x' : jm_S} (H :
  jm_in (i + 1) L ∧
  ∃ (v1 : Int32) (h1 : jm_H), m_FR_plan (xs ((i + 1).toNatClampNeg)) h v1 h1 ∧
  jm_in (i + 1) L ∧
  ∃ (v2 : Int32) (h2 : jm_H), m_M_plan (xs ((i + 1).toNatClampNeg)) h1 v2 h2 ∧
  (v1 = v2 →
    x' = (1178, [some (jm_r 62 0), some (jm_r 7 0), some (jm_r 8 0), some (jm_r 58 0), some (jm_i i), none, none], [], h2)) ∧
  (¬ (v1 = v2) →
    False)) : jm_P (cod_law L xs) (82, [some (jm_r 62 0), some (jm_r 7 0), some (jm_r 8 0), some (jm_r 58 0), some (jm_i i), none, none], [], h) x' := by
  refine jm_P_n 5 (x1 := (87, [some (jm_r 62 0), some (jm_r 7 0), some (jm_r 8 0), some (jm_r 58 0), some (jm_i i), none, none], [jm_i (i + 1), jm_r 62 0, jm_r 7 0], h)) rfl ?_
  refine jm_P_xld rfl H.1 ?_
  replace H := H.2
  refine jm_P_eq (x := (88, [some (jm_r 62 0), some (jm_r 7 0), some (jm_r 8 0), some (jm_r 58 0), some (jm_i i), none, none], [jm_i (xs ((i + 1).toNatClampNeg)), jm_r 7 0], h)) rfl ?_
  obtain ⟨v1, h1, hR, H⟩ := H
  refine jm_P_call rfl (Nat.le_of_ble_eq_true rfl) (Nat.le_of_ble_eq_true rfl) rfl hR trivial ?_
  refine jm_P_eq (x := (89, [some (jm_r 62 0), some (jm_r 7 0), some (jm_r 8 0), some (jm_r 58 0), some (jm_i i), none, none], [jm_i v1], h1)) rfl ?_
  refine jm_P_n 5 (x1 := (94, [some (jm_r 62 0), some (jm_r 7 0), some (jm_r 8 0), some (jm_r 58 0), some (jm_i i), none, none], [jm_i (i + 1), jm_r 62 0, jm_r 8 0, jm_i v1], h1)) rfl ?_
  refine jm_P_xld rfl H.1 ?_
  replace H := H.2
  refine jm_P_eq (x := (95, [some (jm_r 62 0), some (jm_r 7 0), some (jm_r 8 0), some (jm_r 58 0), some (jm_i i), none, none], [jm_i (xs ((i + 1).toNatClampNeg)), jm_r 8 0, jm_i v1], h1)) rfl ?_
  obtain ⟨v2, h2, hR, H⟩ := H
  refine jm_P_call rfl (Nat.le_of_ble_eq_true rfl) (Nat.le_of_ble_eq_true rfl) rfl hR trivial ?_
  refine jm_P_eq (x := (96, [some (jm_r 62 0), some (jm_r 7 0), some (jm_r 8 0), some (jm_r 58 0), some (jm_i i), none, none], [jm_i v2, jm_i v1], h2)) rfl ?_
  refine jm_P_n 1 (x1 := (if v1 = v2 then 1178 else 97, [some (jm_r 62 0), some (jm_r 7 0), some (jm_r 8 0), some (jm_r 58 0), some (jm_i i), none, none], [], h2)) rfl ?_
  refine jm_P_ite (fun hc => ?_) (fun hc => ?_)
  · replace H := H.1 hc
    exact jm_P_refl H
  · replace H := H.2 hc
    exact H.elim
set_option maxRecDepth 100000 in
theorem wl_2 {L : Nat} {xs : Nat → Int32} {i : Int32} {h : jm_H} {x' : jm_S} (H :
  ∃ (v1 : Int32) (h1 : jm_H), m_FR_fault h v1 h1 ∧
  ∃ (v2 : Int32) (h2 : jm_H), m_M_fault h1 v2 h2 ∧
  (v1 = v2 →
    x' = (1178, [some (jm_r 62 0), some (jm_r 7 0), some (jm_r 8 0), some (jm_r 58 0), some (jm_i i), none, none], [], h2)) ∧
  (¬ (v1 = v2) →
    False)) : jm_P (cod_law L xs) (99, [some (jm_r 62 0), some (jm_r 7 0), some (jm_r 8 0), some (jm_r 58 0), some (jm_i i), none, none], [], h) x' := by
  refine jm_P_n 1 (x1 := (100, [some (jm_r 62 0), some (jm_r 7 0), some (jm_r 8 0), some (jm_r 58 0), some (jm_i i), none, none], [jm_r 7 0], h)) rfl ?_
  obtain ⟨v1, h1, hR, H⟩ := H
  refine jm_P_call rfl (Nat.le_of_ble_eq_true rfl) (Nat.le_of_ble_eq_true rfl) rfl hR trivial ?_
  refine jm_P_eq (x := (101, [some (jm_r 62 0), some (jm_r 7 0), some (jm_r 8 0), some (jm_r 58 0), some (jm_i i), none, none], [jm_i v1], h1)) rfl ?_
  refine jm_P_n 1 (x1 := (102, [some (jm_r 62 0), some (jm_r 7 0), some (jm_r 8 0), some (jm_r 58 0), some (jm_i i), none, none], [jm_r 8 0, jm_i v1], h1)) rfl ?_
  obtain ⟨v2, h2, hR, H⟩ := H
  refine jm_P_call rfl (Nat.le_of_ble_eq_true rfl) (Nat.le_of_ble_eq_true rfl) rfl hR trivial ?_
  refine jm_P_eq (x := (103, [some (jm_r 62 0), some (jm_r 7 0), some (jm_r 8 0), some (jm_r 58 0), some (jm_i i), none, none], [jm_i v2, jm_i v1], h2)) rfl ?_
  refine jm_P_n 1 (x1 := (if v1 = v2 then 1178 else 104, [some (jm_r 62 0), some (jm_r 7 0), some (jm_r 8 0), some (jm_r 58 0), some (jm_i i), none, none], [], h2)) rfl ?_
  refine jm_P_ite (fun hc => ?_) (fun hc => ?_)
  · replace H := H.1 hc
    exact jm_P_refl H
  · replace H := H.2 hc
    exact H.elim
set_option maxRecDepth 100000 in
theorem wl_3 {L : Nat} {xs : Nat → Int32} {i : Int32} {h : jm_H} {x' : jm_S} (H :
  ∃ (v1 : Int32) (h1 : jm_H), m_FR_where h v1 h1 ∧
  ∃ (v2 : Int32) (h2 : jm_H), m_M_where h1 v2 h2 ∧
  (v1 = v2 →
    x' = (1178, [some (jm_r 62 0), some (jm_r 7 0), some (jm_r 8 0), some (jm_r 58 0), some (jm_i i), none, none], [], h2)) ∧
  (¬ (v1 = v2) →
    False)) : jm_P (cod_law L xs) (106, [some (jm_r 62 0), some (jm_r 7 0), some (jm_r 8 0), some (jm_r 58 0), some (jm_i i), none, none], [], h) x' := by
  refine jm_P_n 1 (x1 := (107, [some (jm_r 62 0), some (jm_r 7 0), some (jm_r 8 0), some (jm_r 58 0), some (jm_i i), none, none], [jm_r 7 0], h)) rfl ?_
  obtain ⟨v1, h1, hR, H⟩ := H
  refine jm_P_call rfl (Nat.le_of_ble_eq_true rfl) (Nat.le_of_ble_eq_true rfl) rfl hR trivial ?_
  refine jm_P_eq (x := (108, [some (jm_r 62 0), some (jm_r 7 0), some (jm_r 8 0), some (jm_r 58 0), some (jm_i i), none, none], [jm_i v1], h1)) rfl ?_
  refine jm_P_n 1 (x1 := (109, [some (jm_r 62 0), some (jm_r 7 0), some (jm_r 8 0), some (jm_r 58 0), some (jm_i i), none, none], [jm_r 8 0, jm_i v1], h1)) rfl ?_
  obtain ⟨v2, h2, hR, H⟩ := H
  refine jm_P_call rfl (Nat.le_of_ble_eq_true rfl) (Nat.le_of_ble_eq_true rfl) rfl hR trivial ?_
  refine jm_P_eq (x := (110, [some (jm_r 62 0), some (jm_r 7 0), some (jm_r 8 0), some (jm_r 58 0), some (jm_i i), none, none], [jm_i v2, jm_i v1], h2)) rfl ?_
  refine jm_P_n 1 (x1 := (if v1 = v2 then 1178 else 111, [some (jm_r 62 0), some (jm_r 7 0), some (jm_r 8 0), some (jm_r 58 0), some (jm_i i), none, none], [], h2)) rfl ?_
  refine jm_P_ite (fun hc => ?_) (fun hc => ?_)
  · replace H := H.1 hc
    exact jm_P_refl H
  · replace H := H.2 hc
    exact H.elim
set_option maxRecDepth 100000 in
theorem wl_4 {L : Nat} {xs : Nat → Int32} {i : Int32} {h : jm_H} {x' : jm_S} (H :
  jm_in (i + 1) L ∧
  jm_in (i + 2) L ∧
  ∃ (v1 : Int32) (h1 : jm_H), m_FR_mode (xs ((i + 1).toNatClampNeg)) (xs ((i + 2).toNatClampNeg)) h v1 h1 ∧
  jm_in (i + 1) L ∧
  jm_in (i + 2) L ∧
  ∃ (v2 : Int32) (h2 : jm_H), m_M_mode (xs ((i + 1).toNatClampNeg)) (xs ((i + 2).toNatClampNeg)) h1 v2 h2 ∧
  (v1 = v2 →
    x' = (1178, [some (jm_r 62 0), some (jm_r 7 0), some (jm_r 8 0), some (jm_r 58 0), some (jm_i i), none, none], [], h2)) ∧
  (¬ (v1 = v2) →
    False)) : jm_P (cod_law L xs) (113, [some (jm_r 62 0), some (jm_r 7 0), some (jm_r 8 0), some (jm_r 58 0), some (jm_i i), none, none], [], h) x' := by
  refine jm_P_n 5 (x1 := (118, [some (jm_r 62 0), some (jm_r 7 0), some (jm_r 8 0), some (jm_r 58 0), some (jm_i i), none, none], [jm_i (i + 1), jm_r 62 0, jm_r 7 0], h)) rfl ?_
  refine jm_P_xld rfl H.1 ?_
  replace H := H.2
  refine jm_P_eq (x := (119, [some (jm_r 62 0), some (jm_r 7 0), some (jm_r 8 0), some (jm_r 58 0), some (jm_i i), none, none], [jm_i (xs ((i + 1).toNatClampNeg)), jm_r 7 0], h)) rfl ?_
  refine jm_P_n 4 (x1 := (123, [some (jm_r 62 0), some (jm_r 7 0), some (jm_r 8 0), some (jm_r 58 0), some (jm_i i), none, none], [jm_i (i + 2), jm_r 62 0, jm_i (xs ((i + 1).toNatClampNeg)), jm_r 7 0], h)) rfl ?_
  refine jm_P_xld rfl H.1 ?_
  replace H := H.2
  refine jm_P_eq (x := (124, [some (jm_r 62 0), some (jm_r 7 0), some (jm_r 8 0), some (jm_r 58 0), some (jm_i i), none, none], [jm_i (xs ((i + 2).toNatClampNeg)), jm_i (xs ((i + 1).toNatClampNeg)), jm_r 7 0], h)) rfl ?_
  obtain ⟨v1, h1, hR, H⟩ := H
  refine jm_P_call rfl (Nat.le_of_ble_eq_true rfl) (Nat.le_of_ble_eq_true rfl) rfl hR trivial ?_
  refine jm_P_eq (x := (125, [some (jm_r 62 0), some (jm_r 7 0), some (jm_r 8 0), some (jm_r 58 0), some (jm_i i), none, none], [jm_i v1], h1)) rfl ?_
  refine jm_P_n 5 (x1 := (130, [some (jm_r 62 0), some (jm_r 7 0), some (jm_r 8 0), some (jm_r 58 0), some (jm_i i), none, none], [jm_i (i + 1), jm_r 62 0, jm_r 8 0, jm_i v1], h1)) rfl ?_
  refine jm_P_xld rfl H.1 ?_
  replace H := H.2
  refine jm_P_eq (x := (131, [some (jm_r 62 0), some (jm_r 7 0), some (jm_r 8 0), some (jm_r 58 0), some (jm_i i), none, none], [jm_i (xs ((i + 1).toNatClampNeg)), jm_r 8 0, jm_i v1], h1)) rfl ?_
  refine jm_P_n 4 (x1 := (135, [some (jm_r 62 0), some (jm_r 7 0), some (jm_r 8 0), some (jm_r 58 0), some (jm_i i), none, none], [jm_i (i + 2), jm_r 62 0, jm_i (xs ((i + 1).toNatClampNeg)), jm_r 8 0, jm_i v1], h1)) rfl ?_
  refine jm_P_xld rfl H.1 ?_
  replace H := H.2
  refine jm_P_eq (x := (136, [some (jm_r 62 0), some (jm_r 7 0), some (jm_r 8 0), some (jm_r 58 0), some (jm_i i), none, none], [jm_i (xs ((i + 2).toNatClampNeg)), jm_i (xs ((i + 1).toNatClampNeg)), jm_r 8 0, jm_i v1], h1)) rfl ?_
  obtain ⟨v2, h2, hR, H⟩ := H
  refine jm_P_call rfl (Nat.le_of_ble_eq_true rfl) (Nat.le_of_ble_eq_true rfl) rfl hR trivial ?_
  refine jm_P_eq (x := (137, [some (jm_r 62 0), some (jm_r 7 0), some (jm_r 8 0), some (jm_r 58 0), some (jm_i i), none, none], [jm_i v2, jm_i v1], h2)) rfl ?_
  refine jm_P_n 1 (x1 := (if v1 = v2 then 1178 else 138, [some (jm_r 62 0), some (jm_r 7 0), some (jm_r 8 0), some (jm_r 58 0), some (jm_i i), none, none], [], h2)) rfl ?_
  refine jm_P_ite (fun hc => ?_) (fun hc => ?_)
  · replace H := H.1 hc
    exact jm_P_refl H
  · replace H := H.2 hc
    exact H.elim
set_option maxRecDepth 100000 in
theorem wl_5 {L : Nat} {xs : Nat → Int32} {i : Int32} {h : jm_H} {x' : jm_S} (H :
  jm_in (i + 1) L ∧
  jm_in (i + 2) L ∧
  jm_in (i + 3) L ∧
  ∃ (v1 : Int32) (h1 : jm_H), m_FR_task (xs ((i + 1).toNatClampNeg)) (xs ((i + 2).toNatClampNeg)) (xs ((i + 3).toNatClampNeg)) h v1 h1 ∧
  jm_in (i + 1) L ∧
  jm_in (i + 2) L ∧
  jm_in (i + 3) L ∧
  ∃ (v2 : Int32) (h2 : jm_H), m_M_task (xs ((i + 1).toNatClampNeg)) (xs ((i + 2).toNatClampNeg)) (xs ((i + 3).toNatClampNeg)) h1 v2 h2 ∧
  (v1 = v2 →
    x' = (1178, [some (jm_r 62 0), some (jm_r 7 0), some (jm_r 8 0), some (jm_r 58 0), some (jm_i i), none, none], [], h2)) ∧
  (¬ (v1 = v2) →
    False)) : jm_P (cod_law L xs) (140, [some (jm_r 62 0), some (jm_r 7 0), some (jm_r 8 0), some (jm_r 58 0), some (jm_i i), none, none], [], h) x' := by
  refine jm_P_n 5 (x1 := (145, [some (jm_r 62 0), some (jm_r 7 0), some (jm_r 8 0), some (jm_r 58 0), some (jm_i i), none, none], [jm_i (i + 1), jm_r 62 0, jm_r 7 0], h)) rfl ?_
  refine jm_P_xld rfl H.1 ?_
  replace H := H.2
  refine jm_P_eq (x := (146, [some (jm_r 62 0), some (jm_r 7 0), some (jm_r 8 0), some (jm_r 58 0), some (jm_i i), none, none], [jm_i (xs ((i + 1).toNatClampNeg)), jm_r 7 0], h)) rfl ?_
  refine jm_P_n 4 (x1 := (150, [some (jm_r 62 0), some (jm_r 7 0), some (jm_r 8 0), some (jm_r 58 0), some (jm_i i), none, none], [jm_i (i + 2), jm_r 62 0, jm_i (xs ((i + 1).toNatClampNeg)), jm_r 7 0], h)) rfl ?_
  refine jm_P_xld rfl H.1 ?_
  replace H := H.2
  refine jm_P_eq (x := (151, [some (jm_r 62 0), some (jm_r 7 0), some (jm_r 8 0), some (jm_r 58 0), some (jm_i i), none, none], [jm_i (xs ((i + 2).toNatClampNeg)), jm_i (xs ((i + 1).toNatClampNeg)), jm_r 7 0], h)) rfl ?_
  refine jm_P_n 4 (x1 := (155, [some (jm_r 62 0), some (jm_r 7 0), some (jm_r 8 0), some (jm_r 58 0), some (jm_i i), none, none], [jm_i (i + 3), jm_r 62 0, jm_i (xs ((i + 2).toNatClampNeg)), jm_i (xs ((i + 1).toNatClampNeg)), jm_r 7 0], h)) rfl ?_
  refine jm_P_xld rfl H.1 ?_
  replace H := H.2
  refine jm_P_eq (x := (156, [some (jm_r 62 0), some (jm_r 7 0), some (jm_r 8 0), some (jm_r 58 0), some (jm_i i), none, none], [jm_i (xs ((i + 3).toNatClampNeg)), jm_i (xs ((i + 2).toNatClampNeg)), jm_i (xs ((i + 1).toNatClampNeg)), jm_r 7 0], h)) rfl ?_
  obtain ⟨v1, h1, hR, H⟩ := H
  refine jm_P_call rfl (Nat.le_of_ble_eq_true rfl) (Nat.le_of_ble_eq_true rfl) rfl hR trivial ?_
  refine jm_P_eq (x := (157, [some (jm_r 62 0), some (jm_r 7 0), some (jm_r 8 0), some (jm_r 58 0), some (jm_i i), none, none], [jm_i v1], h1)) rfl ?_
  refine jm_P_n 5 (x1 := (162, [some (jm_r 62 0), some (jm_r 7 0), some (jm_r 8 0), some (jm_r 58 0), some (jm_i i), none, none], [jm_i (i + 1), jm_r 62 0, jm_r 8 0, jm_i v1], h1)) rfl ?_
  refine jm_P_xld rfl H.1 ?_
  replace H := H.2
  refine jm_P_eq (x := (163, [some (jm_r 62 0), some (jm_r 7 0), some (jm_r 8 0), some (jm_r 58 0), some (jm_i i), none, none], [jm_i (xs ((i + 1).toNatClampNeg)), jm_r 8 0, jm_i v1], h1)) rfl ?_
  refine jm_P_n 4 (x1 := (167, [some (jm_r 62 0), some (jm_r 7 0), some (jm_r 8 0), some (jm_r 58 0), some (jm_i i), none, none], [jm_i (i + 2), jm_r 62 0, jm_i (xs ((i + 1).toNatClampNeg)), jm_r 8 0, jm_i v1], h1)) rfl ?_
  refine jm_P_xld rfl H.1 ?_
  replace H := H.2
  refine jm_P_eq (x := (168, [some (jm_r 62 0), some (jm_r 7 0), some (jm_r 8 0), some (jm_r 58 0), some (jm_i i), none, none], [jm_i (xs ((i + 2).toNatClampNeg)), jm_i (xs ((i + 1).toNatClampNeg)), jm_r 8 0, jm_i v1], h1)) rfl ?_
  refine jm_P_n 4 (x1 := (172, [some (jm_r 62 0), some (jm_r 7 0), some (jm_r 8 0), some (jm_r 58 0), some (jm_i i), none, none], [jm_i (i + 3), jm_r 62 0, jm_i (xs ((i + 2).toNatClampNeg)), jm_i (xs ((i + 1).toNatClampNeg)), jm_r 8 0, jm_i v1], h1)) rfl ?_
  refine jm_P_xld rfl H.1 ?_
  replace H := H.2
  refine jm_P_eq (x := (173, [some (jm_r 62 0), some (jm_r 7 0), some (jm_r 8 0), some (jm_r 58 0), some (jm_i i), none, none], [jm_i (xs ((i + 3).toNatClampNeg)), jm_i (xs ((i + 2).toNatClampNeg)), jm_i (xs ((i + 1).toNatClampNeg)), jm_r 8 0, jm_i v1], h1)) rfl ?_
  obtain ⟨v2, h2, hR, H⟩ := H
  refine jm_P_call rfl (Nat.le_of_ble_eq_true rfl) (Nat.le_of_ble_eq_true rfl) rfl hR trivial ?_
  refine jm_P_eq (x := (174, [some (jm_r 62 0), some (jm_r 7 0), some (jm_r 8 0), some (jm_r 58 0), some (jm_i i), none, none], [jm_i v2, jm_i v1], h2)) rfl ?_
  refine jm_P_n 1 (x1 := (if v1 = v2 then 1178 else 175, [some (jm_r 62 0), some (jm_r 7 0), some (jm_r 8 0), some (jm_r 58 0), some (jm_i i), none, none], [], h2)) rfl ?_
  refine jm_P_ite (fun hc => ?_) (fun hc => ?_)
  · replace H := H.1 hc
    exact jm_P_refl H
  · replace H := H.2 hc
    exact H.elim
set_option maxRecDepth 100000 in
theorem wl_6 {L : Nat} {xs : Nat → Int32} {i : Int32} {h : jm_H} {x' : jm_S} (H :
  jm_in (i + 1) L ∧
  jm_in (i + 2) L ∧
  jm_in (i + 3) L ∧
  ∃ (v1 : Int32) (h1 : jm_H), m_FR_job (xs ((i + 1).toNatClampNeg)) (xs ((i + 2).toNatClampNeg)) (xs ((i + 3).toNatClampNeg)) h v1 h1 ∧
  jm_in (i + 1) L ∧
  jm_in (i + 2) L ∧
  jm_in (i + 3) L ∧
  ∃ (v2 : Int32) (h2 : jm_H), m_M_job (xs ((i + 1).toNatClampNeg)) (xs ((i + 2).toNatClampNeg)) (xs ((i + 3).toNatClampNeg)) h1 v2 h2 ∧
  (v1 = v2 →
    x' = (1178, [some (jm_r 62 0), some (jm_r 7 0), some (jm_r 8 0), some (jm_r 58 0), some (jm_i i), none, none], [], h2)) ∧
  (¬ (v1 = v2) →
    False)) : jm_P (cod_law L xs) (177, [some (jm_r 62 0), some (jm_r 7 0), some (jm_r 8 0), some (jm_r 58 0), some (jm_i i), none, none], [], h) x' := by
  refine jm_P_n 5 (x1 := (182, [some (jm_r 62 0), some (jm_r 7 0), some (jm_r 8 0), some (jm_r 58 0), some (jm_i i), none, none], [jm_i (i + 1), jm_r 62 0, jm_r 7 0], h)) rfl ?_
  refine jm_P_xld rfl H.1 ?_
  replace H := H.2
  refine jm_P_eq (x := (183, [some (jm_r 62 0), some (jm_r 7 0), some (jm_r 8 0), some (jm_r 58 0), some (jm_i i), none, none], [jm_i (xs ((i + 1).toNatClampNeg)), jm_r 7 0], h)) rfl ?_
  refine jm_P_n 4 (x1 := (187, [some (jm_r 62 0), some (jm_r 7 0), some (jm_r 8 0), some (jm_r 58 0), some (jm_i i), none, none], [jm_i (i + 2), jm_r 62 0, jm_i (xs ((i + 1).toNatClampNeg)), jm_r 7 0], h)) rfl ?_
  refine jm_P_xld rfl H.1 ?_
  replace H := H.2
  refine jm_P_eq (x := (188, [some (jm_r 62 0), some (jm_r 7 0), some (jm_r 8 0), some (jm_r 58 0), some (jm_i i), none, none], [jm_i (xs ((i + 2).toNatClampNeg)), jm_i (xs ((i + 1).toNatClampNeg)), jm_r 7 0], h)) rfl ?_
  refine jm_P_n 4 (x1 := (192, [some (jm_r 62 0), some (jm_r 7 0), some (jm_r 8 0), some (jm_r 58 0), some (jm_i i), none, none], [jm_i (i + 3), jm_r 62 0, jm_i (xs ((i + 2).toNatClampNeg)), jm_i (xs ((i + 1).toNatClampNeg)), jm_r 7 0], h)) rfl ?_
  refine jm_P_xld rfl H.1 ?_
  replace H := H.2
  refine jm_P_eq (x := (193, [some (jm_r 62 0), some (jm_r 7 0), some (jm_r 8 0), some (jm_r 58 0), some (jm_i i), none, none], [jm_i (xs ((i + 3).toNatClampNeg)), jm_i (xs ((i + 2).toNatClampNeg)), jm_i (xs ((i + 1).toNatClampNeg)), jm_r 7 0], h)) rfl ?_
  obtain ⟨v1, h1, hR, H⟩ := H
  refine jm_P_call rfl (Nat.le_of_ble_eq_true rfl) (Nat.le_of_ble_eq_true rfl) rfl hR trivial ?_
  refine jm_P_eq (x := (194, [some (jm_r 62 0), some (jm_r 7 0), some (jm_r 8 0), some (jm_r 58 0), some (jm_i i), none, none], [jm_i v1], h1)) rfl ?_
  refine jm_P_n 5 (x1 := (199, [some (jm_r 62 0), some (jm_r 7 0), some (jm_r 8 0), some (jm_r 58 0), some (jm_i i), none, none], [jm_i (i + 1), jm_r 62 0, jm_r 8 0, jm_i v1], h1)) rfl ?_
  refine jm_P_xld rfl H.1 ?_
  replace H := H.2
  refine jm_P_eq (x := (200, [some (jm_r 62 0), some (jm_r 7 0), some (jm_r 8 0), some (jm_r 58 0), some (jm_i i), none, none], [jm_i (xs ((i + 1).toNatClampNeg)), jm_r 8 0, jm_i v1], h1)) rfl ?_
  refine jm_P_n 4 (x1 := (204, [some (jm_r 62 0), some (jm_r 7 0), some (jm_r 8 0), some (jm_r 58 0), some (jm_i i), none, none], [jm_i (i + 2), jm_r 62 0, jm_i (xs ((i + 1).toNatClampNeg)), jm_r 8 0, jm_i v1], h1)) rfl ?_
  refine jm_P_xld rfl H.1 ?_
  replace H := H.2
  refine jm_P_eq (x := (205, [some (jm_r 62 0), some (jm_r 7 0), some (jm_r 8 0), some (jm_r 58 0), some (jm_i i), none, none], [jm_i (xs ((i + 2).toNatClampNeg)), jm_i (xs ((i + 1).toNatClampNeg)), jm_r 8 0, jm_i v1], h1)) rfl ?_
  refine jm_P_n 4 (x1 := (209, [some (jm_r 62 0), some (jm_r 7 0), some (jm_r 8 0), some (jm_r 58 0), some (jm_i i), none, none], [jm_i (i + 3), jm_r 62 0, jm_i (xs ((i + 2).toNatClampNeg)), jm_i (xs ((i + 1).toNatClampNeg)), jm_r 8 0, jm_i v1], h1)) rfl ?_
  refine jm_P_xld rfl H.1 ?_
  replace H := H.2
  refine jm_P_eq (x := (210, [some (jm_r 62 0), some (jm_r 7 0), some (jm_r 8 0), some (jm_r 58 0), some (jm_i i), none, none], [jm_i (xs ((i + 3).toNatClampNeg)), jm_i (xs ((i + 2).toNatClampNeg)), jm_i (xs ((i + 1).toNatClampNeg)), jm_r 8 0, jm_i v1], h1)) rfl ?_
  obtain ⟨v2, h2, hR, H⟩ := H
  refine jm_P_call rfl (Nat.le_of_ble_eq_true rfl) (Nat.le_of_ble_eq_true rfl) rfl hR trivial ?_
  refine jm_P_eq (x := (211, [some (jm_r 62 0), some (jm_r 7 0), some (jm_r 8 0), some (jm_r 58 0), some (jm_i i), none, none], [jm_i v2, jm_i v1], h2)) rfl ?_
  refine jm_P_n 1 (x1 := (if v1 = v2 then 1178 else 212, [some (jm_r 62 0), some (jm_r 7 0), some (jm_r 8 0), some (jm_r 58 0), some (jm_i i), none, none], [], h2)) rfl ?_
  refine jm_P_ite (fun hc => ?_) (fun hc => ?_)
  · replace H := H.1 hc
    exact jm_P_refl H
  · replace H := H.2 hc
    exact H.elim
set_option maxRecDepth 100000 in
theorem wl_7 {L : Nat} {xs : Nat → Int32} {i : Int32} {h : jm_H} {x' : jm_S} (H :
  jm_in (i + 1) L ∧
  ∃ (v1 : Int64) (h1 : jm_H), m_FR_load (xs ((i + 1).toNatClampNeg)) h v1 h1 ∧
  jm_in (i + 1) L ∧
  ∃ (v2 : Int64) (h2 : jm_H), m_M_load (xs ((i + 1).toNatClampNeg)) h1 v2 h2 ∧
  ((lg_cmp v1 v2) = 0 →
    x' = (1178, [some (jm_r 62 0), some (jm_r 7 0), some (jm_r 8 0), some (jm_r 58 0), some (jm_i i), none, none], [], h2)) ∧
  (¬ ((lg_cmp v1 v2) = 0) →
    False)) : jm_P (cod_law L xs) (214, [some (jm_r 62 0), some (jm_r 7 0), some (jm_r 8 0), some (jm_r 58 0), some (jm_i i), none, none], [], h) x' := by
  refine jm_P_n 5 (x1 := (219, [some (jm_r 62 0), some (jm_r 7 0), some (jm_r 8 0), some (jm_r 58 0), some (jm_i i), none, none], [jm_i (i + 1), jm_r 62 0, jm_r 7 0], h)) rfl ?_
  refine jm_P_xld rfl H.1 ?_
  replace H := H.2
  refine jm_P_eq (x := (220, [some (jm_r 62 0), some (jm_r 7 0), some (jm_r 8 0), some (jm_r 58 0), some (jm_i i), none, none], [jm_i (xs ((i + 1).toNatClampNeg)), jm_r 7 0], h)) rfl ?_
  obtain ⟨v1, h1, hR, H⟩ := H
  refine jm_P_call rfl (Nat.le_of_ble_eq_true rfl) (Nat.le_of_ble_eq_true rfl) rfl hR trivial ?_
  refine jm_P_eq (x := (221, [some (jm_r 62 0), some (jm_r 7 0), some (jm_r 8 0), some (jm_r 58 0), some (jm_i i), none, none], [.inl (.long v1)], h1)) rfl ?_
  refine jm_P_n 5 (x1 := (226, [some (jm_r 62 0), some (jm_r 7 0), some (jm_r 8 0), some (jm_r 58 0), some (jm_i i), none, none], [jm_i (i + 1), jm_r 62 0, jm_r 8 0, .inl (.long v1)], h1)) rfl ?_
  refine jm_P_xld rfl H.1 ?_
  replace H := H.2
  refine jm_P_eq (x := (227, [some (jm_r 62 0), some (jm_r 7 0), some (jm_r 8 0), some (jm_r 58 0), some (jm_i i), none, none], [jm_i (xs ((i + 1).toNatClampNeg)), jm_r 8 0, .inl (.long v1)], h1)) rfl ?_
  obtain ⟨v2, h2, hR, H⟩ := H
  refine jm_P_call rfl (Nat.le_of_ble_eq_true rfl) (Nat.le_of_ble_eq_true rfl) rfl hR trivial ?_
  refine jm_P_eq (x := (228, [some (jm_r 62 0), some (jm_r 7 0), some (jm_r 8 0), some (jm_r 58 0), some (jm_i i), none, none], [.inl (.long v2), .inl (.long v1)], h2)) rfl ?_
  refine jm_P_n 2 (x1 := (if (lg_cmp v1 v2) = 0 then 1178 else 230, [some (jm_r 62 0), some (jm_r 7 0), some (jm_r 8 0), some (jm_r 58 0), some (jm_i i), none, none], [], h2)) rfl ?_
  refine jm_P_ite (fun hc => ?_) (fun hc => ?_)
  · replace H := H.1 hc
    exact jm_P_refl H
  · replace H := H.2 hc
    exact H.elim
set_option maxRecDepth 100000 in
theorem wl_8 {L : Nat} {xs : Nat → Int32} {i : Int32} {h : jm_H} {x' : jm_S} (H :
  jm_in (i + 1) L ∧
  jm_in (i + 2) L ∧
  ∃ (v1 : Int32) (h1 : jm_H), m_FR_judge (xs ((i + 1).toNatClampNeg)) (xs ((i + 2).toNatClampNeg)) h v1 h1 ∧
  jm_in (i + 1) L ∧
  jm_in (i + 2) L ∧
  ∃ (v2 : Int32) (h2 : jm_H), m_M_judge (xs ((i + 1).toNatClampNeg)) (xs ((i + 2).toNatClampNeg)) h1 v2 h2 ∧
  (v1 = v2 →
    x' = (1178, [some (jm_r 62 0), some (jm_r 7 0), some (jm_r 8 0), some (jm_r 58 0), some (jm_i i), none, none], [], h2)) ∧
  (¬ (v1 = v2) →
    False)) : jm_P (cod_law L xs) (232, [some (jm_r 62 0), some (jm_r 7 0), some (jm_r 8 0), some (jm_r 58 0), some (jm_i i), none, none], [], h) x' := by
  refine jm_P_n 5 (x1 := (237, [some (jm_r 62 0), some (jm_r 7 0), some (jm_r 8 0), some (jm_r 58 0), some (jm_i i), none, none], [jm_i (i + 1), jm_r 62 0, jm_r 7 0], h)) rfl ?_
  refine jm_P_xld rfl H.1 ?_
  replace H := H.2
  refine jm_P_eq (x := (238, [some (jm_r 62 0), some (jm_r 7 0), some (jm_r 8 0), some (jm_r 58 0), some (jm_i i), none, none], [jm_i (xs ((i + 1).toNatClampNeg)), jm_r 7 0], h)) rfl ?_
  refine jm_P_n 4 (x1 := (242, [some (jm_r 62 0), some (jm_r 7 0), some (jm_r 8 0), some (jm_r 58 0), some (jm_i i), none, none], [jm_i (i + 2), jm_r 62 0, jm_i (xs ((i + 1).toNatClampNeg)), jm_r 7 0], h)) rfl ?_
  refine jm_P_xld rfl H.1 ?_
  replace H := H.2
  refine jm_P_eq (x := (243, [some (jm_r 62 0), some (jm_r 7 0), some (jm_r 8 0), some (jm_r 58 0), some (jm_i i), none, none], [jm_i (xs ((i + 2).toNatClampNeg)), jm_i (xs ((i + 1).toNatClampNeg)), jm_r 7 0], h)) rfl ?_
  obtain ⟨v1, h1, hR, H⟩ := H
  refine jm_P_call rfl (Nat.le_of_ble_eq_true rfl) (Nat.le_of_ble_eq_true rfl) rfl hR trivial ?_
  refine jm_P_eq (x := (244, [some (jm_r 62 0), some (jm_r 7 0), some (jm_r 8 0), some (jm_r 58 0), some (jm_i i), none, none], [jm_i v1], h1)) rfl ?_
  refine jm_P_n 5 (x1 := (249, [some (jm_r 62 0), some (jm_r 7 0), some (jm_r 8 0), some (jm_r 58 0), some (jm_i i), none, none], [jm_i (i + 1), jm_r 62 0, jm_r 8 0, jm_i v1], h1)) rfl ?_
  refine jm_P_xld rfl H.1 ?_
  replace H := H.2
  refine jm_P_eq (x := (250, [some (jm_r 62 0), some (jm_r 7 0), some (jm_r 8 0), some (jm_r 58 0), some (jm_i i), none, none], [jm_i (xs ((i + 1).toNatClampNeg)), jm_r 8 0, jm_i v1], h1)) rfl ?_
  refine jm_P_n 4 (x1 := (254, [some (jm_r 62 0), some (jm_r 7 0), some (jm_r 8 0), some (jm_r 58 0), some (jm_i i), none, none], [jm_i (i + 2), jm_r 62 0, jm_i (xs ((i + 1).toNatClampNeg)), jm_r 8 0, jm_i v1], h1)) rfl ?_
  refine jm_P_xld rfl H.1 ?_
  replace H := H.2
  refine jm_P_eq (x := (255, [some (jm_r 62 0), some (jm_r 7 0), some (jm_r 8 0), some (jm_r 58 0), some (jm_i i), none, none], [jm_i (xs ((i + 2).toNatClampNeg)), jm_i (xs ((i + 1).toNatClampNeg)), jm_r 8 0, jm_i v1], h1)) rfl ?_
  obtain ⟨v2, h2, hR, H⟩ := H
  refine jm_P_call rfl (Nat.le_of_ble_eq_true rfl) (Nat.le_of_ble_eq_true rfl) rfl hR trivial ?_
  refine jm_P_eq (x := (256, [some (jm_r 62 0), some (jm_r 7 0), some (jm_r 8 0), some (jm_r 58 0), some (jm_i i), none, none], [jm_i v2, jm_i v1], h2)) rfl ?_
  refine jm_P_n 1 (x1 := (if v1 = v2 then 1178 else 257, [some (jm_r 62 0), some (jm_r 7 0), some (jm_r 8 0), some (jm_r 58 0), some (jm_i i), none, none], [], h2)) rfl ?_
  refine jm_P_ite (fun hc => ?_) (fun hc => ?_)
  · replace H := H.1 hc
    exact jm_P_refl H
  · replace H := H.2 hc
    exact H.elim
set_option maxRecDepth 100000 in
theorem wl_9 {L : Nat} {xs : Nat → Int32} {i : Int32} {h : jm_H} {x' : jm_S} (H :
  jm_in (i + 1) L ∧
  jm_in (i + 2) L ∧
  ∃ (v1 : Int32) (h1 : jm_H), m_FR_most (xs ((i + 1).toNatClampNeg)) (xs ((i + 2).toNatClampNeg)) h v1 h1 ∧
  jm_in (i + 1) L ∧
  jm_in (i + 2) L ∧
  ∃ (v2 : Int32) (h2 : jm_H), m_M_most (xs ((i + 1).toNatClampNeg)) (xs ((i + 2).toNatClampNeg)) h1 v2 h2 ∧
  (v1 = v2 →
    x' = (1178, [some (jm_r 62 0), some (jm_r 7 0), some (jm_r 8 0), some (jm_r 58 0), some (jm_i i), none, none], [], h2)) ∧
  (¬ (v1 = v2) →
    False)) : jm_P (cod_law L xs) (259, [some (jm_r 62 0), some (jm_r 7 0), some (jm_r 8 0), some (jm_r 58 0), some (jm_i i), none, none], [], h) x' := by
  refine jm_P_n 5 (x1 := (264, [some (jm_r 62 0), some (jm_r 7 0), some (jm_r 8 0), some (jm_r 58 0), some (jm_i i), none, none], [jm_i (i + 1), jm_r 62 0, jm_r 7 0], h)) rfl ?_
  refine jm_P_xld rfl H.1 ?_
  replace H := H.2
  refine jm_P_eq (x := (265, [some (jm_r 62 0), some (jm_r 7 0), some (jm_r 8 0), some (jm_r 58 0), some (jm_i i), none, none], [jm_i (xs ((i + 1).toNatClampNeg)), jm_r 7 0], h)) rfl ?_
  refine jm_P_n 4 (x1 := (269, [some (jm_r 62 0), some (jm_r 7 0), some (jm_r 8 0), some (jm_r 58 0), some (jm_i i), none, none], [jm_i (i + 2), jm_r 62 0, jm_i (xs ((i + 1).toNatClampNeg)), jm_r 7 0], h)) rfl ?_
  refine jm_P_xld rfl H.1 ?_
  replace H := H.2
  refine jm_P_eq (x := (270, [some (jm_r 62 0), some (jm_r 7 0), some (jm_r 8 0), some (jm_r 58 0), some (jm_i i), none, none], [jm_i (xs ((i + 2).toNatClampNeg)), jm_i (xs ((i + 1).toNatClampNeg)), jm_r 7 0], h)) rfl ?_
  obtain ⟨v1, h1, hR, H⟩ := H
  refine jm_P_call rfl (Nat.le_of_ble_eq_true rfl) (Nat.le_of_ble_eq_true rfl) rfl hR trivial ?_
  refine jm_P_eq (x := (271, [some (jm_r 62 0), some (jm_r 7 0), some (jm_r 8 0), some (jm_r 58 0), some (jm_i i), none, none], [jm_i v1], h1)) rfl ?_
  refine jm_P_n 5 (x1 := (276, [some (jm_r 62 0), some (jm_r 7 0), some (jm_r 8 0), some (jm_r 58 0), some (jm_i i), none, none], [jm_i (i + 1), jm_r 62 0, jm_r 8 0, jm_i v1], h1)) rfl ?_
  refine jm_P_xld rfl H.1 ?_
  replace H := H.2
  refine jm_P_eq (x := (277, [some (jm_r 62 0), some (jm_r 7 0), some (jm_r 8 0), some (jm_r 58 0), some (jm_i i), none, none], [jm_i (xs ((i + 1).toNatClampNeg)), jm_r 8 0, jm_i v1], h1)) rfl ?_
  refine jm_P_n 4 (x1 := (281, [some (jm_r 62 0), some (jm_r 7 0), some (jm_r 8 0), some (jm_r 58 0), some (jm_i i), none, none], [jm_i (i + 2), jm_r 62 0, jm_i (xs ((i + 1).toNatClampNeg)), jm_r 8 0, jm_i v1], h1)) rfl ?_
  refine jm_P_xld rfl H.1 ?_
  replace H := H.2
  refine jm_P_eq (x := (282, [some (jm_r 62 0), some (jm_r 7 0), some (jm_r 8 0), some (jm_r 58 0), some (jm_i i), none, none], [jm_i (xs ((i + 2).toNatClampNeg)), jm_i (xs ((i + 1).toNatClampNeg)), jm_r 8 0, jm_i v1], h1)) rfl ?_
  obtain ⟨v2, h2, hR, H⟩ := H
  refine jm_P_call rfl (Nat.le_of_ble_eq_true rfl) (Nat.le_of_ble_eq_true rfl) rfl hR trivial ?_
  refine jm_P_eq (x := (283, [some (jm_r 62 0), some (jm_r 7 0), some (jm_r 8 0), some (jm_r 58 0), some (jm_i i), none, none], [jm_i v2, jm_i v1], h2)) rfl ?_
  refine jm_P_n 1 (x1 := (if v1 = v2 then 1178 else 284, [some (jm_r 62 0), some (jm_r 7 0), some (jm_r 8 0), some (jm_r 58 0), some (jm_i i), none, none], [], h2)) rfl ?_
  refine jm_P_ite (fun hc => ?_) (fun hc => ?_)
  · replace H := H.1 hc
    exact jm_P_refl H
  · replace H := H.2 hc
    exact H.elim
set_option maxRecDepth 100000 in
theorem wl_10 {L : Nat} {xs : Nat → Int32} {i : Int32} {h : jm_H} {x' : jm_S} (H :
  jm_in (i + 1) L ∧
  jm_in (i + 2) L ∧
  ∃ (v1 : Int32) (h1 : jm_H), m_FR_over (xs ((i + 1).toNatClampNeg)) (xs ((i + 2).toNatClampNeg)) h v1 h1 ∧
  jm_in (i + 1) L ∧
  jm_in (i + 2) L ∧
  ∃ (v2 : Int32) (h2 : jm_H), m_M_over (xs ((i + 1).toNatClampNeg)) (xs ((i + 2).toNatClampNeg)) h1 v2 h2 ∧
  (v1 = v2 →
    x' = (1178, [some (jm_r 62 0), some (jm_r 7 0), some (jm_r 8 0), some (jm_r 58 0), some (jm_i i), none, none], [], h2)) ∧
  (¬ (v1 = v2) →
    False)) : jm_P (cod_law L xs) (286, [some (jm_r 62 0), some (jm_r 7 0), some (jm_r 8 0), some (jm_r 58 0), some (jm_i i), none, none], [], h) x' := by
  refine jm_P_n 5 (x1 := (291, [some (jm_r 62 0), some (jm_r 7 0), some (jm_r 8 0), some (jm_r 58 0), some (jm_i i), none, none], [jm_i (i + 1), jm_r 62 0, jm_r 7 0], h)) rfl ?_
  refine jm_P_xld rfl H.1 ?_
  replace H := H.2
  refine jm_P_eq (x := (292, [some (jm_r 62 0), some (jm_r 7 0), some (jm_r 8 0), some (jm_r 58 0), some (jm_i i), none, none], [jm_i (xs ((i + 1).toNatClampNeg)), jm_r 7 0], h)) rfl ?_
  refine jm_P_n 4 (x1 := (296, [some (jm_r 62 0), some (jm_r 7 0), some (jm_r 8 0), some (jm_r 58 0), some (jm_i i), none, none], [jm_i (i + 2), jm_r 62 0, jm_i (xs ((i + 1).toNatClampNeg)), jm_r 7 0], h)) rfl ?_
  refine jm_P_xld rfl H.1 ?_
  replace H := H.2
  refine jm_P_eq (x := (297, [some (jm_r 62 0), some (jm_r 7 0), some (jm_r 8 0), some (jm_r 58 0), some (jm_i i), none, none], [jm_i (xs ((i + 2).toNatClampNeg)), jm_i (xs ((i + 1).toNatClampNeg)), jm_r 7 0], h)) rfl ?_
  obtain ⟨v1, h1, hR, H⟩ := H
  refine jm_P_call rfl (Nat.le_of_ble_eq_true rfl) (Nat.le_of_ble_eq_true rfl) rfl hR trivial ?_
  refine jm_P_eq (x := (298, [some (jm_r 62 0), some (jm_r 7 0), some (jm_r 8 0), some (jm_r 58 0), some (jm_i i), none, none], [jm_i v1], h1)) rfl ?_
  refine jm_P_n 5 (x1 := (303, [some (jm_r 62 0), some (jm_r 7 0), some (jm_r 8 0), some (jm_r 58 0), some (jm_i i), none, none], [jm_i (i + 1), jm_r 62 0, jm_r 8 0, jm_i v1], h1)) rfl ?_
  refine jm_P_xld rfl H.1 ?_
  replace H := H.2
  refine jm_P_eq (x := (304, [some (jm_r 62 0), some (jm_r 7 0), some (jm_r 8 0), some (jm_r 58 0), some (jm_i i), none, none], [jm_i (xs ((i + 1).toNatClampNeg)), jm_r 8 0, jm_i v1], h1)) rfl ?_
  refine jm_P_n 4 (x1 := (308, [some (jm_r 62 0), some (jm_r 7 0), some (jm_r 8 0), some (jm_r 58 0), some (jm_i i), none, none], [jm_i (i + 2), jm_r 62 0, jm_i (xs ((i + 1).toNatClampNeg)), jm_r 8 0, jm_i v1], h1)) rfl ?_
  refine jm_P_xld rfl H.1 ?_
  replace H := H.2
  refine jm_P_eq (x := (309, [some (jm_r 62 0), some (jm_r 7 0), some (jm_r 8 0), some (jm_r 58 0), some (jm_i i), none, none], [jm_i (xs ((i + 2).toNatClampNeg)), jm_i (xs ((i + 1).toNatClampNeg)), jm_r 8 0, jm_i v1], h1)) rfl ?_
  obtain ⟨v2, h2, hR, H⟩ := H
  refine jm_P_call rfl (Nat.le_of_ble_eq_true rfl) (Nat.le_of_ble_eq_true rfl) rfl hR trivial ?_
  refine jm_P_eq (x := (310, [some (jm_r 62 0), some (jm_r 7 0), some (jm_r 8 0), some (jm_r 58 0), some (jm_i i), none, none], [jm_i v2, jm_i v1], h2)) rfl ?_
  refine jm_P_n 1 (x1 := (if v1 = v2 then 1178 else 311, [some (jm_r 62 0), some (jm_r 7 0), some (jm_r 8 0), some (jm_r 58 0), some (jm_i i), none, none], [], h2)) rfl ?_
  refine jm_P_ite (fun hc => ?_) (fun hc => ?_)
  · replace H := H.1 hc
    exact jm_P_refl H
  · replace H := H.2 hc
    exact H.elim
set_option maxRecDepth 100000 in
theorem wl_11 {L : Nat} {xs : Nat → Int32} {i : Int32} {h : jm_H} {x' : jm_S} (H :
  jm_in (i + 1) L ∧
  jm_in (i + 2) L ∧
  ∃ (v1 : Int32) (h1 : jm_H), m_FR_cutFrames (xs ((i + 1).toNatClampNeg)) (xs ((i + 2).toNatClampNeg)) h v1 h1 ∧
  jm_in (i + 1) L ∧
  jm_in (i + 2) L ∧
  ∃ (v2 : Int32) (h2 : jm_H), m_M_cutFrames (xs ((i + 1).toNatClampNeg)) (xs ((i + 2).toNatClampNeg)) h1 v2 h2 ∧
  (v1 = v2 →
    x' = (1178, [some (jm_r 62 0), some (jm_r 7 0), some (jm_r 8 0), some (jm_r 58 0), some (jm_i i), none, none], [], h2)) ∧
  (¬ (v1 = v2) →
    False)) : jm_P (cod_law L xs) (313, [some (jm_r 62 0), some (jm_r 7 0), some (jm_r 8 0), some (jm_r 58 0), some (jm_i i), none, none], [], h) x' := by
  refine jm_P_n 5 (x1 := (318, [some (jm_r 62 0), some (jm_r 7 0), some (jm_r 8 0), some (jm_r 58 0), some (jm_i i), none, none], [jm_i (i + 1), jm_r 62 0, jm_r 7 0], h)) rfl ?_
  refine jm_P_xld rfl H.1 ?_
  replace H := H.2
  refine jm_P_eq (x := (319, [some (jm_r 62 0), some (jm_r 7 0), some (jm_r 8 0), some (jm_r 58 0), some (jm_i i), none, none], [jm_i (xs ((i + 1).toNatClampNeg)), jm_r 7 0], h)) rfl ?_
  refine jm_P_n 4 (x1 := (323, [some (jm_r 62 0), some (jm_r 7 0), some (jm_r 8 0), some (jm_r 58 0), some (jm_i i), none, none], [jm_i (i + 2), jm_r 62 0, jm_i (xs ((i + 1).toNatClampNeg)), jm_r 7 0], h)) rfl ?_
  refine jm_P_xld rfl H.1 ?_
  replace H := H.2
  refine jm_P_eq (x := (324, [some (jm_r 62 0), some (jm_r 7 0), some (jm_r 8 0), some (jm_r 58 0), some (jm_i i), none, none], [jm_i (xs ((i + 2).toNatClampNeg)), jm_i (xs ((i + 1).toNatClampNeg)), jm_r 7 0], h)) rfl ?_
  obtain ⟨v1, h1, hR, H⟩ := H
  refine jm_P_call rfl (Nat.le_of_ble_eq_true rfl) (Nat.le_of_ble_eq_true rfl) rfl hR trivial ?_
  refine jm_P_eq (x := (325, [some (jm_r 62 0), some (jm_r 7 0), some (jm_r 8 0), some (jm_r 58 0), some (jm_i i), none, none], [jm_i v1], h1)) rfl ?_
  refine jm_P_n 5 (x1 := (330, [some (jm_r 62 0), some (jm_r 7 0), some (jm_r 8 0), some (jm_r 58 0), some (jm_i i), none, none], [jm_i (i + 1), jm_r 62 0, jm_r 8 0, jm_i v1], h1)) rfl ?_
  refine jm_P_xld rfl H.1 ?_
  replace H := H.2
  refine jm_P_eq (x := (331, [some (jm_r 62 0), some (jm_r 7 0), some (jm_r 8 0), some (jm_r 58 0), some (jm_i i), none, none], [jm_i (xs ((i + 1).toNatClampNeg)), jm_r 8 0, jm_i v1], h1)) rfl ?_
  refine jm_P_n 4 (x1 := (335, [some (jm_r 62 0), some (jm_r 7 0), some (jm_r 8 0), some (jm_r 58 0), some (jm_i i), none, none], [jm_i (i + 2), jm_r 62 0, jm_i (xs ((i + 1).toNatClampNeg)), jm_r 8 0, jm_i v1], h1)) rfl ?_
  refine jm_P_xld rfl H.1 ?_
  replace H := H.2
  refine jm_P_eq (x := (336, [some (jm_r 62 0), some (jm_r 7 0), some (jm_r 8 0), some (jm_r 58 0), some (jm_i i), none, none], [jm_i (xs ((i + 2).toNatClampNeg)), jm_i (xs ((i + 1).toNatClampNeg)), jm_r 8 0, jm_i v1], h1)) rfl ?_
  obtain ⟨v2, h2, hR, H⟩ := H
  refine jm_P_call rfl (Nat.le_of_ble_eq_true rfl) (Nat.le_of_ble_eq_true rfl) rfl hR trivial ?_
  refine jm_P_eq (x := (337, [some (jm_r 62 0), some (jm_r 7 0), some (jm_r 8 0), some (jm_r 58 0), some (jm_i i), none, none], [jm_i v2, jm_i v1], h2)) rfl ?_
  refine jm_P_n 1 (x1 := (if v1 = v2 then 1178 else 338, [some (jm_r 62 0), some (jm_r 7 0), some (jm_r 8 0), some (jm_r 58 0), some (jm_i i), none, none], [], h2)) rfl ?_
  refine jm_P_ite (fun hc => ?_) (fun hc => ?_)
  · replace H := H.1 hc
    exact jm_P_refl H
  · replace H := H.2 hc
    exact H.elim
set_option maxRecDepth 100000 in
theorem wl_12 {L : Nat} {xs : Nat → Int32} {i : Int32} {h : jm_H} {x' : jm_S} (H :
  jm_in (i + 1) L ∧
  jm_in (i + 2) L ∧
  ∃ (v1 : Int32) (h1 : jm_H), m_FR_cutJobs (xs ((i + 1).toNatClampNeg)) (xs ((i + 2).toNatClampNeg)) h v1 h1 ∧
  jm_in (i + 1) L ∧
  jm_in (i + 2) L ∧
  ∃ (v2 : Int32) (h2 : jm_H), m_M_cutJobs (xs ((i + 1).toNatClampNeg)) (xs ((i + 2).toNatClampNeg)) h1 v2 h2 ∧
  (v1 = v2 →
    x' = (1178, [some (jm_r 62 0), some (jm_r 7 0), some (jm_r 8 0), some (jm_r 58 0), some (jm_i i), none, none], [], h2)) ∧
  (¬ (v1 = v2) →
    False)) : jm_P (cod_law L xs) (340, [some (jm_r 62 0), some (jm_r 7 0), some (jm_r 8 0), some (jm_r 58 0), some (jm_i i), none, none], [], h) x' := by
  refine jm_P_n 5 (x1 := (345, [some (jm_r 62 0), some (jm_r 7 0), some (jm_r 8 0), some (jm_r 58 0), some (jm_i i), none, none], [jm_i (i + 1), jm_r 62 0, jm_r 7 0], h)) rfl ?_
  refine jm_P_xld rfl H.1 ?_
  replace H := H.2
  refine jm_P_eq (x := (346, [some (jm_r 62 0), some (jm_r 7 0), some (jm_r 8 0), some (jm_r 58 0), some (jm_i i), none, none], [jm_i (xs ((i + 1).toNatClampNeg)), jm_r 7 0], h)) rfl ?_
  refine jm_P_n 4 (x1 := (350, [some (jm_r 62 0), some (jm_r 7 0), some (jm_r 8 0), some (jm_r 58 0), some (jm_i i), none, none], [jm_i (i + 2), jm_r 62 0, jm_i (xs ((i + 1).toNatClampNeg)), jm_r 7 0], h)) rfl ?_
  refine jm_P_xld rfl H.1 ?_
  replace H := H.2
  refine jm_P_eq (x := (351, [some (jm_r 62 0), some (jm_r 7 0), some (jm_r 8 0), some (jm_r 58 0), some (jm_i i), none, none], [jm_i (xs ((i + 2).toNatClampNeg)), jm_i (xs ((i + 1).toNatClampNeg)), jm_r 7 0], h)) rfl ?_
  obtain ⟨v1, h1, hR, H⟩ := H
  refine jm_P_call rfl (Nat.le_of_ble_eq_true rfl) (Nat.le_of_ble_eq_true rfl) rfl hR trivial ?_
  refine jm_P_eq (x := (352, [some (jm_r 62 0), some (jm_r 7 0), some (jm_r 8 0), some (jm_r 58 0), some (jm_i i), none, none], [jm_i v1], h1)) rfl ?_
  refine jm_P_n 5 (x1 := (357, [some (jm_r 62 0), some (jm_r 7 0), some (jm_r 8 0), some (jm_r 58 0), some (jm_i i), none, none], [jm_i (i + 1), jm_r 62 0, jm_r 8 0, jm_i v1], h1)) rfl ?_
  refine jm_P_xld rfl H.1 ?_
  replace H := H.2
  refine jm_P_eq (x := (358, [some (jm_r 62 0), some (jm_r 7 0), some (jm_r 8 0), some (jm_r 58 0), some (jm_i i), none, none], [jm_i (xs ((i + 1).toNatClampNeg)), jm_r 8 0, jm_i v1], h1)) rfl ?_
  refine jm_P_n 4 (x1 := (362, [some (jm_r 62 0), some (jm_r 7 0), some (jm_r 8 0), some (jm_r 58 0), some (jm_i i), none, none], [jm_i (i + 2), jm_r 62 0, jm_i (xs ((i + 1).toNatClampNeg)), jm_r 8 0, jm_i v1], h1)) rfl ?_
  refine jm_P_xld rfl H.1 ?_
  replace H := H.2
  refine jm_P_eq (x := (363, [some (jm_r 62 0), some (jm_r 7 0), some (jm_r 8 0), some (jm_r 58 0), some (jm_i i), none, none], [jm_i (xs ((i + 2).toNatClampNeg)), jm_i (xs ((i + 1).toNatClampNeg)), jm_r 8 0, jm_i v1], h1)) rfl ?_
  obtain ⟨v2, h2, hR, H⟩ := H
  refine jm_P_call rfl (Nat.le_of_ble_eq_true rfl) (Nat.le_of_ble_eq_true rfl) rfl hR trivial ?_
  refine jm_P_eq (x := (364, [some (jm_r 62 0), some (jm_r 7 0), some (jm_r 8 0), some (jm_r 58 0), some (jm_i i), none, none], [jm_i v2, jm_i v1], h2)) rfl ?_
  refine jm_P_n 1 (x1 := (if v1 = v2 then 1178 else 365, [some (jm_r 62 0), some (jm_r 7 0), some (jm_r 8 0), some (jm_r 58 0), some (jm_i i), none, none], [], h2)) rfl ?_
  refine jm_P_ite (fun hc => ?_) (fun hc => ?_)
  · replace H := H.1 hc
    exact jm_P_refl H
  · replace H := H.2 hc
    exact H.elim
set_option maxRecDepth 100000 in
theorem wl_13 {L : Nat} {xs : Nat → Int32} {i : Int32} {h : jm_H} {x' : jm_S} (H :
  jm_in (i + 1) L ∧
  ∃ (v1 : Int32) (h1 : jm_H), m_FR_goods (xs ((i + 1).toNatClampNeg)) h v1 h1 ∧
  jm_in (i + 1) L ∧
  ∃ (v2 : Int32) (h2 : jm_H), m_M_goods (xs ((i + 1).toNatClampNeg)) h1 v2 h2 ∧
  (v1 = v2 →
    x' = (1178, [some (jm_r 62 0), some (jm_r 7 0), some (jm_r 8 0), some (jm_r 58 0), some (jm_i i), none, none], [], h2)) ∧
  (¬ (v1 = v2) →
    False)) : jm_P (cod_law L xs) (367, [some (jm_r 62 0), some (jm_r 7 0), some (jm_r 8 0), some (jm_r 58 0), some (jm_i i), none, none], [], h) x' := by
  refine jm_P_n 5 (x1 := (372, [some (jm_r 62 0), some (jm_r 7 0), some (jm_r 8 0), some (jm_r 58 0), some (jm_i i), none, none], [jm_i (i + 1), jm_r 62 0, jm_r 7 0], h)) rfl ?_
  refine jm_P_xld rfl H.1 ?_
  replace H := H.2
  refine jm_P_eq (x := (373, [some (jm_r 62 0), some (jm_r 7 0), some (jm_r 8 0), some (jm_r 58 0), some (jm_i i), none, none], [jm_i (xs ((i + 1).toNatClampNeg)), jm_r 7 0], h)) rfl ?_
  obtain ⟨v1, h1, hR, H⟩ := H
  refine jm_P_call rfl (Nat.le_of_ble_eq_true rfl) (Nat.le_of_ble_eq_true rfl) rfl hR trivial ?_
  refine jm_P_eq (x := (374, [some (jm_r 62 0), some (jm_r 7 0), some (jm_r 8 0), some (jm_r 58 0), some (jm_i i), none, none], [jm_i v1], h1)) rfl ?_
  refine jm_P_n 5 (x1 := (379, [some (jm_r 62 0), some (jm_r 7 0), some (jm_r 8 0), some (jm_r 58 0), some (jm_i i), none, none], [jm_i (i + 1), jm_r 62 0, jm_r 8 0, jm_i v1], h1)) rfl ?_
  refine jm_P_xld rfl H.1 ?_
  replace H := H.2
  refine jm_P_eq (x := (380, [some (jm_r 62 0), some (jm_r 7 0), some (jm_r 8 0), some (jm_r 58 0), some (jm_i i), none, none], [jm_i (xs ((i + 1).toNatClampNeg)), jm_r 8 0, jm_i v1], h1)) rfl ?_
  obtain ⟨v2, h2, hR, H⟩ := H
  refine jm_P_call rfl (Nat.le_of_ble_eq_true rfl) (Nat.le_of_ble_eq_true rfl) rfl hR trivial ?_
  refine jm_P_eq (x := (381, [some (jm_r 62 0), some (jm_r 7 0), some (jm_r 8 0), some (jm_r 58 0), some (jm_i i), none, none], [jm_i v2, jm_i v1], h2)) rfl ?_
  refine jm_P_n 1 (x1 := (if v1 = v2 then 1178 else 382, [some (jm_r 62 0), some (jm_r 7 0), some (jm_r 8 0), some (jm_r 58 0), some (jm_i i), none, none], [], h2)) rfl ?_
  refine jm_P_ite (fun hc => ?_) (fun hc => ?_)
  · replace H := H.1 hc
    exact jm_P_refl H
  · replace H := H.2 hc
    exact H.elim
set_option maxRecDepth 100000 in
theorem wl_14 {L : Nat} {xs : Nat → Int32} {i : Int32} {h : jm_H} {x' : jm_S} (H :
  jm_in (i + 1) L ∧
  jm_in (i + 2) L ∧
  ∃ (v1 : Int32) (h1 : jm_H), m_FR_good (xs ((i + 1).toNatClampNeg)) (xs ((i + 2).toNatClampNeg)) h v1 h1 ∧
  jm_in (i + 1) L ∧
  jm_in (i + 2) L ∧
  ∃ (v2 : Int32) (h2 : jm_H), m_M_good (xs ((i + 1).toNatClampNeg)) (xs ((i + 2).toNatClampNeg)) h1 v2 h2 ∧
  (v1 = v2 →
    x' = (1178, [some (jm_r 62 0), some (jm_r 7 0), some (jm_r 8 0), some (jm_r 58 0), some (jm_i i), none, none], [], h2)) ∧
  (¬ (v1 = v2) →
    False)) : jm_P (cod_law L xs) (384, [some (jm_r 62 0), some (jm_r 7 0), some (jm_r 8 0), some (jm_r 58 0), some (jm_i i), none, none], [], h) x' := by
  refine jm_P_n 5 (x1 := (389, [some (jm_r 62 0), some (jm_r 7 0), some (jm_r 8 0), some (jm_r 58 0), some (jm_i i), none, none], [jm_i (i + 1), jm_r 62 0, jm_r 7 0], h)) rfl ?_
  refine jm_P_xld rfl H.1 ?_
  replace H := H.2
  refine jm_P_eq (x := (390, [some (jm_r 62 0), some (jm_r 7 0), some (jm_r 8 0), some (jm_r 58 0), some (jm_i i), none, none], [jm_i (xs ((i + 1).toNatClampNeg)), jm_r 7 0], h)) rfl ?_
  refine jm_P_n 4 (x1 := (394, [some (jm_r 62 0), some (jm_r 7 0), some (jm_r 8 0), some (jm_r 58 0), some (jm_i i), none, none], [jm_i (i + 2), jm_r 62 0, jm_i (xs ((i + 1).toNatClampNeg)), jm_r 7 0], h)) rfl ?_
  refine jm_P_xld rfl H.1 ?_
  replace H := H.2
  refine jm_P_eq (x := (395, [some (jm_r 62 0), some (jm_r 7 0), some (jm_r 8 0), some (jm_r 58 0), some (jm_i i), none, none], [jm_i (xs ((i + 2).toNatClampNeg)), jm_i (xs ((i + 1).toNatClampNeg)), jm_r 7 0], h)) rfl ?_
  obtain ⟨v1, h1, hR, H⟩ := H
  refine jm_P_call rfl (Nat.le_of_ble_eq_true rfl) (Nat.le_of_ble_eq_true rfl) rfl hR trivial ?_
  refine jm_P_eq (x := (396, [some (jm_r 62 0), some (jm_r 7 0), some (jm_r 8 0), some (jm_r 58 0), some (jm_i i), none, none], [jm_i v1], h1)) rfl ?_
  refine jm_P_n 5 (x1 := (401, [some (jm_r 62 0), some (jm_r 7 0), some (jm_r 8 0), some (jm_r 58 0), some (jm_i i), none, none], [jm_i (i + 1), jm_r 62 0, jm_r 8 0, jm_i v1], h1)) rfl ?_
  refine jm_P_xld rfl H.1 ?_
  replace H := H.2
  refine jm_P_eq (x := (402, [some (jm_r 62 0), some (jm_r 7 0), some (jm_r 8 0), some (jm_r 58 0), some (jm_i i), none, none], [jm_i (xs ((i + 1).toNatClampNeg)), jm_r 8 0, jm_i v1], h1)) rfl ?_
  refine jm_P_n 4 (x1 := (406, [some (jm_r 62 0), some (jm_r 7 0), some (jm_r 8 0), some (jm_r 58 0), some (jm_i i), none, none], [jm_i (i + 2), jm_r 62 0, jm_i (xs ((i + 1).toNatClampNeg)), jm_r 8 0, jm_i v1], h1)) rfl ?_
  refine jm_P_xld rfl H.1 ?_
  replace H := H.2
  refine jm_P_eq (x := (407, [some (jm_r 62 0), some (jm_r 7 0), some (jm_r 8 0), some (jm_r 58 0), some (jm_i i), none, none], [jm_i (xs ((i + 2).toNatClampNeg)), jm_i (xs ((i + 1).toNatClampNeg)), jm_r 8 0, jm_i v1], h1)) rfl ?_
  obtain ⟨v2, h2, hR, H⟩ := H
  refine jm_P_call rfl (Nat.le_of_ble_eq_true rfl) (Nat.le_of_ble_eq_true rfl) rfl hR trivial ?_
  refine jm_P_eq (x := (408, [some (jm_r 62 0), some (jm_r 7 0), some (jm_r 8 0), some (jm_r 58 0), some (jm_i i), none, none], [jm_i v2, jm_i v1], h2)) rfl ?_
  refine jm_P_n 1 (x1 := (if v1 = v2 then 1178 else 409, [some (jm_r 62 0), some (jm_r 7 0), some (jm_r 8 0), some (jm_r 58 0), some (jm_i i), none, none], [], h2)) rfl ?_
  refine jm_P_ite (fun hc => ?_) (fun hc => ?_)
  · replace H := H.1 hc
    exact jm_P_refl H
  · replace H := H.2 hc
    exact H.elim
set_option maxRecDepth 100000 in
theorem wl_15 {L : Nat} {xs : Nat → Int32} {i : Int32} {h : jm_H} {x' : jm_S} (H :
  jm_in (i + 1) L ∧
  jm_in (i + 2) L ∧
  ∃ (v1 : Int32) (h1 : jm_H), m_FR_piecesBy (xs ((i + 1).toNatClampNeg)) (xs ((i + 2).toNatClampNeg)) h v1 h1 ∧
  jm_in (i + 1) L ∧
  jm_in (i + 2) L ∧
  ∃ (v2 : Int32) (h2 : jm_H), m_M_piecesBy (xs ((i + 1).toNatClampNeg)) (xs ((i + 2).toNatClampNeg)) h1 v2 h2 ∧
  (v1 = v2 →
    x' = (1178, [some (jm_r 62 0), some (jm_r 7 0), some (jm_r 8 0), some (jm_r 58 0), some (jm_i i), none, none], [], h2)) ∧
  (¬ (v1 = v2) →
    False)) : jm_P (cod_law L xs) (411, [some (jm_r 62 0), some (jm_r 7 0), some (jm_r 8 0), some (jm_r 58 0), some (jm_i i), none, none], [], h) x' := by
  refine jm_P_n 5 (x1 := (416, [some (jm_r 62 0), some (jm_r 7 0), some (jm_r 8 0), some (jm_r 58 0), some (jm_i i), none, none], [jm_i (i + 1), jm_r 62 0, jm_r 7 0], h)) rfl ?_
  refine jm_P_xld rfl H.1 ?_
  replace H := H.2
  refine jm_P_eq (x := (417, [some (jm_r 62 0), some (jm_r 7 0), some (jm_r 8 0), some (jm_r 58 0), some (jm_i i), none, none], [jm_i (xs ((i + 1).toNatClampNeg)), jm_r 7 0], h)) rfl ?_
  refine jm_P_n 4 (x1 := (421, [some (jm_r 62 0), some (jm_r 7 0), some (jm_r 8 0), some (jm_r 58 0), some (jm_i i), none, none], [jm_i (i + 2), jm_r 62 0, jm_i (xs ((i + 1).toNatClampNeg)), jm_r 7 0], h)) rfl ?_
  refine jm_P_xld rfl H.1 ?_
  replace H := H.2
  refine jm_P_eq (x := (422, [some (jm_r 62 0), some (jm_r 7 0), some (jm_r 8 0), some (jm_r 58 0), some (jm_i i), none, none], [jm_i (xs ((i + 2).toNatClampNeg)), jm_i (xs ((i + 1).toNatClampNeg)), jm_r 7 0], h)) rfl ?_
  obtain ⟨v1, h1, hR, H⟩ := H
  refine jm_P_call rfl (Nat.le_of_ble_eq_true rfl) (Nat.le_of_ble_eq_true rfl) rfl hR trivial ?_
  refine jm_P_eq (x := (423, [some (jm_r 62 0), some (jm_r 7 0), some (jm_r 8 0), some (jm_r 58 0), some (jm_i i), none, none], [jm_i v1], h1)) rfl ?_
  refine jm_P_n 5 (x1 := (428, [some (jm_r 62 0), some (jm_r 7 0), some (jm_r 8 0), some (jm_r 58 0), some (jm_i i), none, none], [jm_i (i + 1), jm_r 62 0, jm_r 8 0, jm_i v1], h1)) rfl ?_
  refine jm_P_xld rfl H.1 ?_
  replace H := H.2
  refine jm_P_eq (x := (429, [some (jm_r 62 0), some (jm_r 7 0), some (jm_r 8 0), some (jm_r 58 0), some (jm_i i), none, none], [jm_i (xs ((i + 1).toNatClampNeg)), jm_r 8 0, jm_i v1], h1)) rfl ?_
  refine jm_P_n 4 (x1 := (433, [some (jm_r 62 0), some (jm_r 7 0), some (jm_r 8 0), some (jm_r 58 0), some (jm_i i), none, none], [jm_i (i + 2), jm_r 62 0, jm_i (xs ((i + 1).toNatClampNeg)), jm_r 8 0, jm_i v1], h1)) rfl ?_
  refine jm_P_xld rfl H.1 ?_
  replace H := H.2
  refine jm_P_eq (x := (434, [some (jm_r 62 0), some (jm_r 7 0), some (jm_r 8 0), some (jm_r 58 0), some (jm_i i), none, none], [jm_i (xs ((i + 2).toNatClampNeg)), jm_i (xs ((i + 1).toNatClampNeg)), jm_r 8 0, jm_i v1], h1)) rfl ?_
  obtain ⟨v2, h2, hR, H⟩ := H
  refine jm_P_call rfl (Nat.le_of_ble_eq_true rfl) (Nat.le_of_ble_eq_true rfl) rfl hR trivial ?_
  refine jm_P_eq (x := (435, [some (jm_r 62 0), some (jm_r 7 0), some (jm_r 8 0), some (jm_r 58 0), some (jm_i i), none, none], [jm_i v2, jm_i v1], h2)) rfl ?_
  refine jm_P_n 1 (x1 := (if v1 = v2 then 1178 else 436, [some (jm_r 62 0), some (jm_r 7 0), some (jm_r 8 0), some (jm_r 58 0), some (jm_i i), none, none], [], h2)) rfl ?_
  refine jm_P_ite (fun hc => ?_) (fun hc => ?_)
  · replace H := H.1 hc
    exact jm_P_refl H
  · replace H := H.2 hc
    exact H.elim
set_option maxRecDepth 100000 in
theorem wl_16 {L : Nat} {xs : Nat → Int32} {i : Int32} {h : jm_H} {x' : jm_S} (H :
  jm_in (i + 1) L ∧
  ∃ (v1 : Int32) (h1 : jm_H), m_FR_fewestBy (xs ((i + 1).toNatClampNeg)) h v1 h1 ∧
  jm_in (i + 1) L ∧
  ∃ (v2 : Int32) (h2 : jm_H), m_M_fewestBy (xs ((i + 1).toNatClampNeg)) h1 v2 h2 ∧
  (v1 = v2 →
    x' = (1178, [some (jm_r 62 0), some (jm_r 7 0), some (jm_r 8 0), some (jm_r 58 0), some (jm_i i), none, none], [], h2)) ∧
  (¬ (v1 = v2) →
    False)) : jm_P (cod_law L xs) (438, [some (jm_r 62 0), some (jm_r 7 0), some (jm_r 8 0), some (jm_r 58 0), some (jm_i i), none, none], [], h) x' := by
  refine jm_P_n 5 (x1 := (443, [some (jm_r 62 0), some (jm_r 7 0), some (jm_r 8 0), some (jm_r 58 0), some (jm_i i), none, none], [jm_i (i + 1), jm_r 62 0, jm_r 7 0], h)) rfl ?_
  refine jm_P_xld rfl H.1 ?_
  replace H := H.2
  refine jm_P_eq (x := (444, [some (jm_r 62 0), some (jm_r 7 0), some (jm_r 8 0), some (jm_r 58 0), some (jm_i i), none, none], [jm_i (xs ((i + 1).toNatClampNeg)), jm_r 7 0], h)) rfl ?_
  obtain ⟨v1, h1, hR, H⟩ := H
  refine jm_P_call rfl (Nat.le_of_ble_eq_true rfl) (Nat.le_of_ble_eq_true rfl) rfl hR trivial ?_
  refine jm_P_eq (x := (445, [some (jm_r 62 0), some (jm_r 7 0), some (jm_r 8 0), some (jm_r 58 0), some (jm_i i), none, none], [jm_i v1], h1)) rfl ?_
  refine jm_P_n 5 (x1 := (450, [some (jm_r 62 0), some (jm_r 7 0), some (jm_r 8 0), some (jm_r 58 0), some (jm_i i), none, none], [jm_i (i + 1), jm_r 62 0, jm_r 8 0, jm_i v1], h1)) rfl ?_
  refine jm_P_xld rfl H.1 ?_
  replace H := H.2
  refine jm_P_eq (x := (451, [some (jm_r 62 0), some (jm_r 7 0), some (jm_r 8 0), some (jm_r 58 0), some (jm_i i), none, none], [jm_i (xs ((i + 1).toNatClampNeg)), jm_r 8 0, jm_i v1], h1)) rfl ?_
  obtain ⟨v2, h2, hR, H⟩ := H
  refine jm_P_call rfl (Nat.le_of_ble_eq_true rfl) (Nat.le_of_ble_eq_true rfl) rfl hR trivial ?_
  refine jm_P_eq (x := (452, [some (jm_r 62 0), some (jm_r 7 0), some (jm_r 8 0), some (jm_r 58 0), some (jm_i i), none, none], [jm_i v2, jm_i v1], h2)) rfl ?_
  refine jm_P_n 1 (x1 := (if v1 = v2 then 1178 else 453, [some (jm_r 62 0), some (jm_r 7 0), some (jm_r 8 0), some (jm_r 58 0), some (jm_i i), none, none], [], h2)) rfl ?_
  refine jm_P_ite (fun hc => ?_) (fun hc => ?_)
  · replace H := H.1 hc
    exact jm_P_refl H
  · replace H := H.2 hc
    exact H.elim
set_option maxRecDepth 100000 in
theorem wl_17 {L : Nat} {xs : Nat → Int32} {i : Int32} {h : jm_H} {x' : jm_S} (H :
  jm_in (i + 1) L ∧
  jm_in (i + 2) L ∧
  ∃ (v1 : Int32) (h1 : jm_H), m_FR_headroom (xs ((i + 1).toNatClampNeg)) (xs ((i + 2).toNatClampNeg)) h v1 h1 ∧
  jm_in (i + 1) L ∧
  jm_in (i + 2) L ∧
  ∃ (v2 : Int32) (h2 : jm_H), m_M_headroom (xs ((i + 1).toNatClampNeg)) (xs ((i + 2).toNatClampNeg)) h1 v2 h2 ∧
  (v1 = v2 →
    x' = (1178, [some (jm_r 62 0), some (jm_r 7 0), some (jm_r 8 0), some (jm_r 58 0), some (jm_i i), none, none], [], h2)) ∧
  (¬ (v1 = v2) →
    False)) : jm_P (cod_law L xs) (455, [some (jm_r 62 0), some (jm_r 7 0), some (jm_r 8 0), some (jm_r 58 0), some (jm_i i), none, none], [], h) x' := by
  refine jm_P_n 5 (x1 := (460, [some (jm_r 62 0), some (jm_r 7 0), some (jm_r 8 0), some (jm_r 58 0), some (jm_i i), none, none], [jm_i (i + 1), jm_r 62 0, jm_r 7 0], h)) rfl ?_
  refine jm_P_xld rfl H.1 ?_
  replace H := H.2
  refine jm_P_eq (x := (461, [some (jm_r 62 0), some (jm_r 7 0), some (jm_r 8 0), some (jm_r 58 0), some (jm_i i), none, none], [jm_i (xs ((i + 1).toNatClampNeg)), jm_r 7 0], h)) rfl ?_
  refine jm_P_n 4 (x1 := (465, [some (jm_r 62 0), some (jm_r 7 0), some (jm_r 8 0), some (jm_r 58 0), some (jm_i i), none, none], [jm_i (i + 2), jm_r 62 0, jm_i (xs ((i + 1).toNatClampNeg)), jm_r 7 0], h)) rfl ?_
  refine jm_P_xld rfl H.1 ?_
  replace H := H.2
  refine jm_P_eq (x := (466, [some (jm_r 62 0), some (jm_r 7 0), some (jm_r 8 0), some (jm_r 58 0), some (jm_i i), none, none], [jm_i (xs ((i + 2).toNatClampNeg)), jm_i (xs ((i + 1).toNatClampNeg)), jm_r 7 0], h)) rfl ?_
  obtain ⟨v1, h1, hR, H⟩ := H
  refine jm_P_call rfl (Nat.le_of_ble_eq_true rfl) (Nat.le_of_ble_eq_true rfl) rfl hR trivial ?_
  refine jm_P_eq (x := (467, [some (jm_r 62 0), some (jm_r 7 0), some (jm_r 8 0), some (jm_r 58 0), some (jm_i i), none, none], [jm_i v1], h1)) rfl ?_
  refine jm_P_n 5 (x1 := (472, [some (jm_r 62 0), some (jm_r 7 0), some (jm_r 8 0), some (jm_r 58 0), some (jm_i i), none, none], [jm_i (i + 1), jm_r 62 0, jm_r 8 0, jm_i v1], h1)) rfl ?_
  refine jm_P_xld rfl H.1 ?_
  replace H := H.2
  refine jm_P_eq (x := (473, [some (jm_r 62 0), some (jm_r 7 0), some (jm_r 8 0), some (jm_r 58 0), some (jm_i i), none, none], [jm_i (xs ((i + 1).toNatClampNeg)), jm_r 8 0, jm_i v1], h1)) rfl ?_
  refine jm_P_n 4 (x1 := (477, [some (jm_r 62 0), some (jm_r 7 0), some (jm_r 8 0), some (jm_r 58 0), some (jm_i i), none, none], [jm_i (i + 2), jm_r 62 0, jm_i (xs ((i + 1).toNatClampNeg)), jm_r 8 0, jm_i v1], h1)) rfl ?_
  refine jm_P_xld rfl H.1 ?_
  replace H := H.2
  refine jm_P_eq (x := (478, [some (jm_r 62 0), some (jm_r 7 0), some (jm_r 8 0), some (jm_r 58 0), some (jm_i i), none, none], [jm_i (xs ((i + 2).toNatClampNeg)), jm_i (xs ((i + 1).toNatClampNeg)), jm_r 8 0, jm_i v1], h1)) rfl ?_
  obtain ⟨v2, h2, hR, H⟩ := H
  refine jm_P_call rfl (Nat.le_of_ble_eq_true rfl) (Nat.le_of_ble_eq_true rfl) rfl hR trivial ?_
  refine jm_P_eq (x := (479, [some (jm_r 62 0), some (jm_r 7 0), some (jm_r 8 0), some (jm_r 58 0), some (jm_i i), none, none], [jm_i v2, jm_i v1], h2)) rfl ?_
  refine jm_P_n 1 (x1 := (if v1 = v2 then 1178 else 480, [some (jm_r 62 0), some (jm_r 7 0), some (jm_r 8 0), some (jm_r 58 0), some (jm_i i), none, none], [], h2)) rfl ?_
  refine jm_P_ite (fun hc => ?_) (fun hc => ?_)
  · replace H := H.1 hc
    exact jm_P_refl H
  · replace H := H.2 hc
    exact H.elim
set_option maxRecDepth 100000 in
theorem wl_18 {L : Nat} {xs : Nat → Int32} {i : Int32} {h : jm_H} {x' : jm_S} (H :
  jm_in (i + 1) L ∧
  ∃ (v1 : Int32) (h1 : jm_H), m_FR_reserveUpTo (xs ((i + 1).toNatClampNeg)) h v1 h1 ∧
  jm_in (i + 1) L ∧
  ∃ (v2 : Int32) (h2 : jm_H), m_M_reserveUpTo (xs ((i + 1).toNatClampNeg)) h1 v2 h2 ∧
  (v1 = v2 →
    x' = (1178, [some (jm_r 62 0), some (jm_r 7 0), some (jm_r 8 0), some (jm_r 58 0), some (jm_i i), none, none], [], h2)) ∧
  (¬ (v1 = v2) →
    False)) : jm_P (cod_law L xs) (482, [some (jm_r 62 0), some (jm_r 7 0), some (jm_r 8 0), some (jm_r 58 0), some (jm_i i), none, none], [], h) x' := by
  refine jm_P_n 5 (x1 := (487, [some (jm_r 62 0), some (jm_r 7 0), some (jm_r 8 0), some (jm_r 58 0), some (jm_i i), none, none], [jm_i (i + 1), jm_r 62 0, jm_r 7 0], h)) rfl ?_
  refine jm_P_xld rfl H.1 ?_
  replace H := H.2
  refine jm_P_eq (x := (488, [some (jm_r 62 0), some (jm_r 7 0), some (jm_r 8 0), some (jm_r 58 0), some (jm_i i), none, none], [jm_i (xs ((i + 1).toNatClampNeg)), jm_r 7 0], h)) rfl ?_
  obtain ⟨v1, h1, hR, H⟩ := H
  refine jm_P_call rfl (Nat.le_of_ble_eq_true rfl) (Nat.le_of_ble_eq_true rfl) rfl hR trivial ?_
  refine jm_P_eq (x := (489, [some (jm_r 62 0), some (jm_r 7 0), some (jm_r 8 0), some (jm_r 58 0), some (jm_i i), none, none], [jm_i v1], h1)) rfl ?_
  refine jm_P_n 5 (x1 := (494, [some (jm_r 62 0), some (jm_r 7 0), some (jm_r 8 0), some (jm_r 58 0), some (jm_i i), none, none], [jm_i (i + 1), jm_r 62 0, jm_r 8 0, jm_i v1], h1)) rfl ?_
  refine jm_P_xld rfl H.1 ?_
  replace H := H.2
  refine jm_P_eq (x := (495, [some (jm_r 62 0), some (jm_r 7 0), some (jm_r 8 0), some (jm_r 58 0), some (jm_i i), none, none], [jm_i (xs ((i + 1).toNatClampNeg)), jm_r 8 0, jm_i v1], h1)) rfl ?_
  obtain ⟨v2, h2, hR, H⟩ := H
  refine jm_P_call rfl (Nat.le_of_ble_eq_true rfl) (Nat.le_of_ble_eq_true rfl) rfl hR trivial ?_
  refine jm_P_eq (x := (496, [some (jm_r 62 0), some (jm_r 7 0), some (jm_r 8 0), some (jm_r 58 0), some (jm_i i), none, none], [jm_i v2, jm_i v1], h2)) rfl ?_
  refine jm_P_n 1 (x1 := (if v1 = v2 then 1178 else 497, [some (jm_r 62 0), some (jm_r 7 0), some (jm_r 8 0), some (jm_r 58 0), some (jm_i i), none, none], [], h2)) rfl ?_
  refine jm_P_ite (fun hc => ?_) (fun hc => ?_)
  · replace H := H.1 hc
    exact jm_P_refl H
  · replace H := H.2 hc
    exact H.elim
set_option maxRecDepth 100000 in
theorem wl_19 {L : Nat} {xs : Nat → Int32} {i : Int32} {h : jm_H} {x' : jm_S} (H :
  jm_in (i + 1) L ∧
  ∃ (v1 : Int32) (h1 : jm_H), m_FR_hasTable (xs ((i + 1).toNatClampNeg)) h v1 h1 ∧
  jm_in (i + 1) L ∧
  ∃ (v2 : Int32) (h2 : jm_H), m_M_hasTable (xs ((i + 1).toNatClampNeg)) h1 v2 h2 ∧
  (v1 = v2 →
    x' = (1178, [some (jm_r 62 0), some (jm_r 7 0), some (jm_r 8 0), some (jm_r 58 0), some (jm_i i), none, none], [], h2)) ∧
  (¬ (v1 = v2) →
    False)) : jm_P (cod_law L xs) (499, [some (jm_r 62 0), some (jm_r 7 0), some (jm_r 8 0), some (jm_r 58 0), some (jm_i i), none, none], [], h) x' := by
  refine jm_P_n 5 (x1 := (504, [some (jm_r 62 0), some (jm_r 7 0), some (jm_r 8 0), some (jm_r 58 0), some (jm_i i), none, none], [jm_i (i + 1), jm_r 62 0, jm_r 7 0], h)) rfl ?_
  refine jm_P_xld rfl H.1 ?_
  replace H := H.2
  refine jm_P_eq (x := (505, [some (jm_r 62 0), some (jm_r 7 0), some (jm_r 8 0), some (jm_r 58 0), some (jm_i i), none, none], [jm_i (xs ((i + 1).toNatClampNeg)), jm_r 7 0], h)) rfl ?_
  obtain ⟨v1, h1, hR, H⟩ := H
  refine jm_P_call rfl (Nat.le_of_ble_eq_true rfl) (Nat.le_of_ble_eq_true rfl) rfl hR trivial ?_
  refine jm_P_eq (x := (506, [some (jm_r 62 0), some (jm_r 7 0), some (jm_r 8 0), some (jm_r 58 0), some (jm_i i), none, none], [jm_i v1], h1)) rfl ?_
  refine jm_P_n 5 (x1 := (511, [some (jm_r 62 0), some (jm_r 7 0), some (jm_r 8 0), some (jm_r 58 0), some (jm_i i), none, none], [jm_i (i + 1), jm_r 62 0, jm_r 8 0, jm_i v1], h1)) rfl ?_
  refine jm_P_xld rfl H.1 ?_
  replace H := H.2
  refine jm_P_eq (x := (512, [some (jm_r 62 0), some (jm_r 7 0), some (jm_r 8 0), some (jm_r 58 0), some (jm_i i), none, none], [jm_i (xs ((i + 1).toNatClampNeg)), jm_r 8 0, jm_i v1], h1)) rfl ?_
  obtain ⟨v2, h2, hR, H⟩ := H
  refine jm_P_call rfl (Nat.le_of_ble_eq_true rfl) (Nat.le_of_ble_eq_true rfl) rfl hR trivial ?_
  refine jm_P_eq (x := (513, [some (jm_r 62 0), some (jm_r 7 0), some (jm_r 8 0), some (jm_r 58 0), some (jm_i i), none, none], [jm_i v2, jm_i v1], h2)) rfl ?_
  refine jm_P_n 1 (x1 := (if v1 = v2 then 1178 else 514, [some (jm_r 62 0), some (jm_r 7 0), some (jm_r 8 0), some (jm_r 58 0), some (jm_i i), none, none], [], h2)) rfl ?_
  refine jm_P_ite (fun hc => ?_) (fun hc => ?_)
  · replace H := H.1 hc
    exact jm_P_refl H
  · replace H := H.2 hc
    exact H.elim
set_option maxRecDepth 100000 in
theorem wl_20 {L : Nat} {xs : Nat → Int32} {i : Int32} {h : jm_H} {x' : jm_S} (H :
  jm_in (i + 1) L ∧
  ∃ (v1 : Int32) (h1 : jm_H), m_FR_pieces (xs ((i + 1).toNatClampNeg)) h v1 h1 ∧
  jm_in (i + 1) L ∧
  ∃ (v2 : Int32) (h2 : jm_H), m_M_pieces (xs ((i + 1).toNatClampNeg)) h1 v2 h2 ∧
  (v1 = v2 →
    x' = (1178, [some (jm_r 62 0), some (jm_r 7 0), some (jm_r 8 0), some (jm_r 58 0), some (jm_i i), none, none], [], h2)) ∧
  (¬ (v1 = v2) →
    False)) : jm_P (cod_law L xs) (516, [some (jm_r 62 0), some (jm_r 7 0), some (jm_r 8 0), some (jm_r 58 0), some (jm_i i), none, none], [], h) x' := by
  refine jm_P_n 5 (x1 := (521, [some (jm_r 62 0), some (jm_r 7 0), some (jm_r 8 0), some (jm_r 58 0), some (jm_i i), none, none], [jm_i (i + 1), jm_r 62 0, jm_r 7 0], h)) rfl ?_
  refine jm_P_xld rfl H.1 ?_
  replace H := H.2
  refine jm_P_eq (x := (522, [some (jm_r 62 0), some (jm_r 7 0), some (jm_r 8 0), some (jm_r 58 0), some (jm_i i), none, none], [jm_i (xs ((i + 1).toNatClampNeg)), jm_r 7 0], h)) rfl ?_
  obtain ⟨v1, h1, hR, H⟩ := H
  refine jm_P_call rfl (Nat.le_of_ble_eq_true rfl) (Nat.le_of_ble_eq_true rfl) rfl hR trivial ?_
  refine jm_P_eq (x := (523, [some (jm_r 62 0), some (jm_r 7 0), some (jm_r 8 0), some (jm_r 58 0), some (jm_i i), none, none], [jm_i v1], h1)) rfl ?_
  refine jm_P_n 5 (x1 := (528, [some (jm_r 62 0), some (jm_r 7 0), some (jm_r 8 0), some (jm_r 58 0), some (jm_i i), none, none], [jm_i (i + 1), jm_r 62 0, jm_r 8 0, jm_i v1], h1)) rfl ?_
  refine jm_P_xld rfl H.1 ?_
  replace H := H.2
  refine jm_P_eq (x := (529, [some (jm_r 62 0), some (jm_r 7 0), some (jm_r 8 0), some (jm_r 58 0), some (jm_i i), none, none], [jm_i (xs ((i + 1).toNatClampNeg)), jm_r 8 0, jm_i v1], h1)) rfl ?_
  obtain ⟨v2, h2, hR, H⟩ := H
  refine jm_P_call rfl (Nat.le_of_ble_eq_true rfl) (Nat.le_of_ble_eq_true rfl) rfl hR trivial ?_
  refine jm_P_eq (x := (530, [some (jm_r 62 0), some (jm_r 7 0), some (jm_r 8 0), some (jm_r 58 0), some (jm_i i), none, none], [jm_i v2, jm_i v1], h2)) rfl ?_
  refine jm_P_n 1 (x1 := (if v1 = v2 then 1178 else 531, [some (jm_r 62 0), some (jm_r 7 0), some (jm_r 8 0), some (jm_r 58 0), some (jm_i i), none, none], [], h2)) rfl ?_
  refine jm_P_ite (fun hc => ?_) (fun hc => ?_)
  · replace H := H.1 hc
    exact jm_P_refl H
  · replace H := H.2 hc
    exact H.elim
set_option maxRecDepth 100000 in
theorem wl_21 {L : Nat} {xs : Nat → Int32} {i : Int32} {h : jm_H} {x' : jm_S} (H :
  jm_in (i + 1) L ∧
  ∃ (v1 : Int32) (h1 : jm_H), m_FR_swaps (xs ((i + 1).toNatClampNeg)) h v1 h1 ∧
  jm_in (i + 1) L ∧
  ∃ (v2 : Int32) (h2 : jm_H), m_M_swaps (xs ((i + 1).toNatClampNeg)) h1 v2 h2 ∧
  (v1 = v2 →
    x' = (1178, [some (jm_r 62 0), some (jm_r 7 0), some (jm_r 8 0), some (jm_r 58 0), some (jm_i i), none, none], [], h2)) ∧
  (¬ (v1 = v2) →
    False)) : jm_P (cod_law L xs) (533, [some (jm_r 62 0), some (jm_r 7 0), some (jm_r 8 0), some (jm_r 58 0), some (jm_i i), none, none], [], h) x' := by
  refine jm_P_n 5 (x1 := (538, [some (jm_r 62 0), some (jm_r 7 0), some (jm_r 8 0), some (jm_r 58 0), some (jm_i i), none, none], [jm_i (i + 1), jm_r 62 0, jm_r 7 0], h)) rfl ?_
  refine jm_P_xld rfl H.1 ?_
  replace H := H.2
  refine jm_P_eq (x := (539, [some (jm_r 62 0), some (jm_r 7 0), some (jm_r 8 0), some (jm_r 58 0), some (jm_i i), none, none], [jm_i (xs ((i + 1).toNatClampNeg)), jm_r 7 0], h)) rfl ?_
  obtain ⟨v1, h1, hR, H⟩ := H
  refine jm_P_call rfl (Nat.le_of_ble_eq_true rfl) (Nat.le_of_ble_eq_true rfl) rfl hR trivial ?_
  refine jm_P_eq (x := (540, [some (jm_r 62 0), some (jm_r 7 0), some (jm_r 8 0), some (jm_r 58 0), some (jm_i i), none, none], [jm_i v1], h1)) rfl ?_
  refine jm_P_n 5 (x1 := (545, [some (jm_r 62 0), some (jm_r 7 0), some (jm_r 8 0), some (jm_r 58 0), some (jm_i i), none, none], [jm_i (i + 1), jm_r 62 0, jm_r 8 0, jm_i v1], h1)) rfl ?_
  refine jm_P_xld rfl H.1 ?_
  replace H := H.2
  refine jm_P_eq (x := (546, [some (jm_r 62 0), some (jm_r 7 0), some (jm_r 8 0), some (jm_r 58 0), some (jm_i i), none, none], [jm_i (xs ((i + 1).toNatClampNeg)), jm_r 8 0, jm_i v1], h1)) rfl ?_
  obtain ⟨v2, h2, hR, H⟩ := H
  refine jm_P_call rfl (Nat.le_of_ble_eq_true rfl) (Nat.le_of_ble_eq_true rfl) rfl hR trivial ?_
  refine jm_P_eq (x := (547, [some (jm_r 62 0), some (jm_r 7 0), some (jm_r 8 0), some (jm_r 58 0), some (jm_i i), none, none], [jm_i v2, jm_i v1], h2)) rfl ?_
  refine jm_P_n 1 (x1 := (if v1 = v2 then 1178 else 548, [some (jm_r 62 0), some (jm_r 7 0), some (jm_r 8 0), some (jm_r 58 0), some (jm_i i), none, none], [], h2)) rfl ?_
  refine jm_P_ite (fun hc => ?_) (fun hc => ?_)
  · replace H := H.1 hc
    exact jm_P_refl H
  · replace H := H.2 hc
    exact H.elim
set_option maxRecDepth 100000 in
theorem wl_22 {L : Nat} {xs : Nat → Int32} {i : Int32} {h : jm_H} {x' : jm_S} (H :
  jm_in (i + 1) L ∧
  jm_in (i + 2) L ∧
  jm_in (i + 3) L ∧
  ∃ (v1 : Int32) (h1 : jm_H), m_FR_share (xs ((i + 1).toNatClampNeg)) (xs ((i + 2).toNatClampNeg)) (xs ((i + 3).toNatClampNeg)) h v1 h1 ∧
  jm_in (i + 1) L ∧
  jm_in (i + 2) L ∧
  jm_in (i + 3) L ∧
  ∃ (v2 : Int32) (h2 : jm_H), m_M_share (xs ((i + 1).toNatClampNeg)) (xs ((i + 2).toNatClampNeg)) (xs ((i + 3).toNatClampNeg)) h1 v2 h2 ∧
  (v1 = v2 →
    x' = (1178, [some (jm_r 62 0), some (jm_r 7 0), some (jm_r 8 0), some (jm_r 58 0), some (jm_i i), none, none], [], h2)) ∧
  (¬ (v1 = v2) →
    False)) : jm_P (cod_law L xs) (550, [some (jm_r 62 0), some (jm_r 7 0), some (jm_r 8 0), some (jm_r 58 0), some (jm_i i), none, none], [], h) x' := by
  refine jm_P_n 5 (x1 := (555, [some (jm_r 62 0), some (jm_r 7 0), some (jm_r 8 0), some (jm_r 58 0), some (jm_i i), none, none], [jm_i (i + 1), jm_r 62 0, jm_r 7 0], h)) rfl ?_
  refine jm_P_xld rfl H.1 ?_
  replace H := H.2
  refine jm_P_eq (x := (556, [some (jm_r 62 0), some (jm_r 7 0), some (jm_r 8 0), some (jm_r 58 0), some (jm_i i), none, none], [jm_i (xs ((i + 1).toNatClampNeg)), jm_r 7 0], h)) rfl ?_
  refine jm_P_n 4 (x1 := (560, [some (jm_r 62 0), some (jm_r 7 0), some (jm_r 8 0), some (jm_r 58 0), some (jm_i i), none, none], [jm_i (i + 2), jm_r 62 0, jm_i (xs ((i + 1).toNatClampNeg)), jm_r 7 0], h)) rfl ?_
  refine jm_P_xld rfl H.1 ?_
  replace H := H.2
  refine jm_P_eq (x := (561, [some (jm_r 62 0), some (jm_r 7 0), some (jm_r 8 0), some (jm_r 58 0), some (jm_i i), none, none], [jm_i (xs ((i + 2).toNatClampNeg)), jm_i (xs ((i + 1).toNatClampNeg)), jm_r 7 0], h)) rfl ?_
  refine jm_P_n 4 (x1 := (565, [some (jm_r 62 0), some (jm_r 7 0), some (jm_r 8 0), some (jm_r 58 0), some (jm_i i), none, none], [jm_i (i + 3), jm_r 62 0, jm_i (xs ((i + 2).toNatClampNeg)), jm_i (xs ((i + 1).toNatClampNeg)), jm_r 7 0], h)) rfl ?_
  refine jm_P_xld rfl H.1 ?_
  replace H := H.2
  refine jm_P_eq (x := (566, [some (jm_r 62 0), some (jm_r 7 0), some (jm_r 8 0), some (jm_r 58 0), some (jm_i i), none, none], [jm_i (xs ((i + 3).toNatClampNeg)), jm_i (xs ((i + 2).toNatClampNeg)), jm_i (xs ((i + 1).toNatClampNeg)), jm_r 7 0], h)) rfl ?_
  obtain ⟨v1, h1, hR, H⟩ := H
  refine jm_P_call rfl (Nat.le_of_ble_eq_true rfl) (Nat.le_of_ble_eq_true rfl) rfl hR trivial ?_
  refine jm_P_eq (x := (567, [some (jm_r 62 0), some (jm_r 7 0), some (jm_r 8 0), some (jm_r 58 0), some (jm_i i), none, none], [jm_i v1], h1)) rfl ?_
  refine jm_P_n 5 (x1 := (572, [some (jm_r 62 0), some (jm_r 7 0), some (jm_r 8 0), some (jm_r 58 0), some (jm_i i), none, none], [jm_i (i + 1), jm_r 62 0, jm_r 8 0, jm_i v1], h1)) rfl ?_
  refine jm_P_xld rfl H.1 ?_
  replace H := H.2
  refine jm_P_eq (x := (573, [some (jm_r 62 0), some (jm_r 7 0), some (jm_r 8 0), some (jm_r 58 0), some (jm_i i), none, none], [jm_i (xs ((i + 1).toNatClampNeg)), jm_r 8 0, jm_i v1], h1)) rfl ?_
  refine jm_P_n 4 (x1 := (577, [some (jm_r 62 0), some (jm_r 7 0), some (jm_r 8 0), some (jm_r 58 0), some (jm_i i), none, none], [jm_i (i + 2), jm_r 62 0, jm_i (xs ((i + 1).toNatClampNeg)), jm_r 8 0, jm_i v1], h1)) rfl ?_
  refine jm_P_xld rfl H.1 ?_
  replace H := H.2
  refine jm_P_eq (x := (578, [some (jm_r 62 0), some (jm_r 7 0), some (jm_r 8 0), some (jm_r 58 0), some (jm_i i), none, none], [jm_i (xs ((i + 2).toNatClampNeg)), jm_i (xs ((i + 1).toNatClampNeg)), jm_r 8 0, jm_i v1], h1)) rfl ?_
  refine jm_P_n 4 (x1 := (582, [some (jm_r 62 0), some (jm_r 7 0), some (jm_r 8 0), some (jm_r 58 0), some (jm_i i), none, none], [jm_i (i + 3), jm_r 62 0, jm_i (xs ((i + 2).toNatClampNeg)), jm_i (xs ((i + 1).toNatClampNeg)), jm_r 8 0, jm_i v1], h1)) rfl ?_
  refine jm_P_xld rfl H.1 ?_
  replace H := H.2
  refine jm_P_eq (x := (583, [some (jm_r 62 0), some (jm_r 7 0), some (jm_r 8 0), some (jm_r 58 0), some (jm_i i), none, none], [jm_i (xs ((i + 3).toNatClampNeg)), jm_i (xs ((i + 2).toNatClampNeg)), jm_i (xs ((i + 1).toNatClampNeg)), jm_r 8 0, jm_i v1], h1)) rfl ?_
  obtain ⟨v2, h2, hR, H⟩ := H
  refine jm_P_call rfl (Nat.le_of_ble_eq_true rfl) (Nat.le_of_ble_eq_true rfl) rfl hR trivial ?_
  refine jm_P_eq (x := (584, [some (jm_r 62 0), some (jm_r 7 0), some (jm_r 8 0), some (jm_r 58 0), some (jm_i i), none, none], [jm_i v2, jm_i v1], h2)) rfl ?_
  refine jm_P_n 1 (x1 := (if v1 = v2 then 1178 else 585, [some (jm_r 62 0), some (jm_r 7 0), some (jm_r 8 0), some (jm_r 58 0), some (jm_i i), none, none], [], h2)) rfl ?_
  refine jm_P_ite (fun hc => ?_) (fun hc => ?_)
  · replace H := H.1 hc
    exact jm_P_refl H
  · replace H := H.2 hc
    exact H.elim
set_option maxRecDepth 100000 in
theorem wl_23 {L : Nat} {xs : Nat → Int32} {i : Int32} {h : jm_H} {x' : jm_S} (H :
  jm_in (i + 1) L ∧
  jm_in (i + 2) L ∧
  jm_in (i + 3) L ∧
  ∃ (v1 : Int32) (h1 : jm_H), m_FR_begins (xs ((i + 1).toNatClampNeg)) (xs ((i + 2).toNatClampNeg)) (xs ((i + 3).toNatClampNeg)) h v1 h1 ∧
  jm_in (i + 1) L ∧
  jm_in (i + 2) L ∧
  jm_in (i + 3) L ∧
  ∃ (v2 : Int32) (h2 : jm_H), m_M_begins (xs ((i + 1).toNatClampNeg)) (xs ((i + 2).toNatClampNeg)) (xs ((i + 3).toNatClampNeg)) h1 v2 h2 ∧
  (v1 = v2 →
    x' = (1178, [some (jm_r 62 0), some (jm_r 7 0), some (jm_r 8 0), some (jm_r 58 0), some (jm_i i), none, none], [], h2)) ∧
  (¬ (v1 = v2) →
    False)) : jm_P (cod_law L xs) (587, [some (jm_r 62 0), some (jm_r 7 0), some (jm_r 8 0), some (jm_r 58 0), some (jm_i i), none, none], [], h) x' := by
  refine jm_P_n 5 (x1 := (592, [some (jm_r 62 0), some (jm_r 7 0), some (jm_r 8 0), some (jm_r 58 0), some (jm_i i), none, none], [jm_i (i + 1), jm_r 62 0, jm_r 7 0], h)) rfl ?_
  refine jm_P_xld rfl H.1 ?_
  replace H := H.2
  refine jm_P_eq (x := (593, [some (jm_r 62 0), some (jm_r 7 0), some (jm_r 8 0), some (jm_r 58 0), some (jm_i i), none, none], [jm_i (xs ((i + 1).toNatClampNeg)), jm_r 7 0], h)) rfl ?_
  refine jm_P_n 4 (x1 := (597, [some (jm_r 62 0), some (jm_r 7 0), some (jm_r 8 0), some (jm_r 58 0), some (jm_i i), none, none], [jm_i (i + 2), jm_r 62 0, jm_i (xs ((i + 1).toNatClampNeg)), jm_r 7 0], h)) rfl ?_
  refine jm_P_xld rfl H.1 ?_
  replace H := H.2
  refine jm_P_eq (x := (598, [some (jm_r 62 0), some (jm_r 7 0), some (jm_r 8 0), some (jm_r 58 0), some (jm_i i), none, none], [jm_i (xs ((i + 2).toNatClampNeg)), jm_i (xs ((i + 1).toNatClampNeg)), jm_r 7 0], h)) rfl ?_
  refine jm_P_n 4 (x1 := (602, [some (jm_r 62 0), some (jm_r 7 0), some (jm_r 8 0), some (jm_r 58 0), some (jm_i i), none, none], [jm_i (i + 3), jm_r 62 0, jm_i (xs ((i + 2).toNatClampNeg)), jm_i (xs ((i + 1).toNatClampNeg)), jm_r 7 0], h)) rfl ?_
  refine jm_P_xld rfl H.1 ?_
  replace H := H.2
  refine jm_P_eq (x := (603, [some (jm_r 62 0), some (jm_r 7 0), some (jm_r 8 0), some (jm_r 58 0), some (jm_i i), none, none], [jm_i (xs ((i + 3).toNatClampNeg)), jm_i (xs ((i + 2).toNatClampNeg)), jm_i (xs ((i + 1).toNatClampNeg)), jm_r 7 0], h)) rfl ?_
  obtain ⟨v1, h1, hR, H⟩ := H
  refine jm_P_call rfl (Nat.le_of_ble_eq_true rfl) (Nat.le_of_ble_eq_true rfl) rfl hR trivial ?_
  refine jm_P_eq (x := (604, [some (jm_r 62 0), some (jm_r 7 0), some (jm_r 8 0), some (jm_r 58 0), some (jm_i i), none, none], [jm_i v1], h1)) rfl ?_
  refine jm_P_n 5 (x1 := (609, [some (jm_r 62 0), some (jm_r 7 0), some (jm_r 8 0), some (jm_r 58 0), some (jm_i i), none, none], [jm_i (i + 1), jm_r 62 0, jm_r 8 0, jm_i v1], h1)) rfl ?_
  refine jm_P_xld rfl H.1 ?_
  replace H := H.2
  refine jm_P_eq (x := (610, [some (jm_r 62 0), some (jm_r 7 0), some (jm_r 8 0), some (jm_r 58 0), some (jm_i i), none, none], [jm_i (xs ((i + 1).toNatClampNeg)), jm_r 8 0, jm_i v1], h1)) rfl ?_
  refine jm_P_n 4 (x1 := (614, [some (jm_r 62 0), some (jm_r 7 0), some (jm_r 8 0), some (jm_r 58 0), some (jm_i i), none, none], [jm_i (i + 2), jm_r 62 0, jm_i (xs ((i + 1).toNatClampNeg)), jm_r 8 0, jm_i v1], h1)) rfl ?_
  refine jm_P_xld rfl H.1 ?_
  replace H := H.2
  refine jm_P_eq (x := (615, [some (jm_r 62 0), some (jm_r 7 0), some (jm_r 8 0), some (jm_r 58 0), some (jm_i i), none, none], [jm_i (xs ((i + 2).toNatClampNeg)), jm_i (xs ((i + 1).toNatClampNeg)), jm_r 8 0, jm_i v1], h1)) rfl ?_
  refine jm_P_n 4 (x1 := (619, [some (jm_r 62 0), some (jm_r 7 0), some (jm_r 8 0), some (jm_r 58 0), some (jm_i i), none, none], [jm_i (i + 3), jm_r 62 0, jm_i (xs ((i + 2).toNatClampNeg)), jm_i (xs ((i + 1).toNatClampNeg)), jm_r 8 0, jm_i v1], h1)) rfl ?_
  refine jm_P_xld rfl H.1 ?_
  replace H := H.2
  refine jm_P_eq (x := (620, [some (jm_r 62 0), some (jm_r 7 0), some (jm_r 8 0), some (jm_r 58 0), some (jm_i i), none, none], [jm_i (xs ((i + 3).toNatClampNeg)), jm_i (xs ((i + 2).toNatClampNeg)), jm_i (xs ((i + 1).toNatClampNeg)), jm_r 8 0, jm_i v1], h1)) rfl ?_
  obtain ⟨v2, h2, hR, H⟩ := H
  refine jm_P_call rfl (Nat.le_of_ble_eq_true rfl) (Nat.le_of_ble_eq_true rfl) rfl hR trivial ?_
  refine jm_P_eq (x := (621, [some (jm_r 62 0), some (jm_r 7 0), some (jm_r 8 0), some (jm_r 58 0), some (jm_i i), none, none], [jm_i v2, jm_i v1], h2)) rfl ?_
  refine jm_P_n 1 (x1 := (if v1 = v2 then 1178 else 622, [some (jm_r 62 0), some (jm_r 7 0), some (jm_r 8 0), some (jm_r 58 0), some (jm_i i), none, none], [], h2)) rfl ?_
  refine jm_P_ite (fun hc => ?_) (fun hc => ?_)
  · replace H := H.1 hc
    exact jm_P_refl H
  · replace H := H.2 hc
    exact H.elim
set_option maxRecDepth 100000 in
theorem wl_24 {L : Nat} {xs : Nat → Int32} {i : Int32} {h : jm_H} {x' : jm_S} (H :
  jm_in (i + 1) L ∧
  jm_in (i + 2) L ∧
  ∃ (v1 : Int32) (h1 : jm_H), m_FR_finishes (xs ((i + 1).toNatClampNeg)) (xs ((i + 2).toNatClampNeg)) h v1 h1 ∧
  jm_in (i + 1) L ∧
  jm_in (i + 2) L ∧
  ∃ (v2 : Int32) (h2 : jm_H), m_M_finishes (xs ((i + 1).toNatClampNeg)) (xs ((i + 2).toNatClampNeg)) h1 v2 h2 ∧
  (v1 = v2 →
    x' = (1178, [some (jm_r 62 0), some (jm_r 7 0), some (jm_r 8 0), some (jm_r 58 0), some (jm_i i), none, none], [], h2)) ∧
  (¬ (v1 = v2) →
    False)) : jm_P (cod_law L xs) (624, [some (jm_r 62 0), some (jm_r 7 0), some (jm_r 8 0), some (jm_r 58 0), some (jm_i i), none, none], [], h) x' := by
  refine jm_P_n 5 (x1 := (629, [some (jm_r 62 0), some (jm_r 7 0), some (jm_r 8 0), some (jm_r 58 0), some (jm_i i), none, none], [jm_i (i + 1), jm_r 62 0, jm_r 7 0], h)) rfl ?_
  refine jm_P_xld rfl H.1 ?_
  replace H := H.2
  refine jm_P_eq (x := (630, [some (jm_r 62 0), some (jm_r 7 0), some (jm_r 8 0), some (jm_r 58 0), some (jm_i i), none, none], [jm_i (xs ((i + 1).toNatClampNeg)), jm_r 7 0], h)) rfl ?_
  refine jm_P_n 4 (x1 := (634, [some (jm_r 62 0), some (jm_r 7 0), some (jm_r 8 0), some (jm_r 58 0), some (jm_i i), none, none], [jm_i (i + 2), jm_r 62 0, jm_i (xs ((i + 1).toNatClampNeg)), jm_r 7 0], h)) rfl ?_
  refine jm_P_xld rfl H.1 ?_
  replace H := H.2
  refine jm_P_eq (x := (635, [some (jm_r 62 0), some (jm_r 7 0), some (jm_r 8 0), some (jm_r 58 0), some (jm_i i), none, none], [jm_i (xs ((i + 2).toNatClampNeg)), jm_i (xs ((i + 1).toNatClampNeg)), jm_r 7 0], h)) rfl ?_
  obtain ⟨v1, h1, hR, H⟩ := H
  refine jm_P_call rfl (Nat.le_of_ble_eq_true rfl) (Nat.le_of_ble_eq_true rfl) rfl hR trivial ?_
  refine jm_P_eq (x := (636, [some (jm_r 62 0), some (jm_r 7 0), some (jm_r 8 0), some (jm_r 58 0), some (jm_i i), none, none], [jm_i v1], h1)) rfl ?_
  refine jm_P_n 5 (x1 := (641, [some (jm_r 62 0), some (jm_r 7 0), some (jm_r 8 0), some (jm_r 58 0), some (jm_i i), none, none], [jm_i (i + 1), jm_r 62 0, jm_r 8 0, jm_i v1], h1)) rfl ?_
  refine jm_P_xld rfl H.1 ?_
  replace H := H.2
  refine jm_P_eq (x := (642, [some (jm_r 62 0), some (jm_r 7 0), some (jm_r 8 0), some (jm_r 58 0), some (jm_i i), none, none], [jm_i (xs ((i + 1).toNatClampNeg)), jm_r 8 0, jm_i v1], h1)) rfl ?_
  refine jm_P_n 4 (x1 := (646, [some (jm_r 62 0), some (jm_r 7 0), some (jm_r 8 0), some (jm_r 58 0), some (jm_i i), none, none], [jm_i (i + 2), jm_r 62 0, jm_i (xs ((i + 1).toNatClampNeg)), jm_r 8 0, jm_i v1], h1)) rfl ?_
  refine jm_P_xld rfl H.1 ?_
  replace H := H.2
  refine jm_P_eq (x := (647, [some (jm_r 62 0), some (jm_r 7 0), some (jm_r 8 0), some (jm_r 58 0), some (jm_i i), none, none], [jm_i (xs ((i + 2).toNatClampNeg)), jm_i (xs ((i + 1).toNatClampNeg)), jm_r 8 0, jm_i v1], h1)) rfl ?_
  obtain ⟨v2, h2, hR, H⟩ := H
  refine jm_P_call rfl (Nat.le_of_ble_eq_true rfl) (Nat.le_of_ble_eq_true rfl) rfl hR trivial ?_
  refine jm_P_eq (x := (648, [some (jm_r 62 0), some (jm_r 7 0), some (jm_r 8 0), some (jm_r 58 0), some (jm_i i), none, none], [jm_i v2, jm_i v1], h2)) rfl ?_
  refine jm_P_n 1 (x1 := (if v1 = v2 then 1178 else 649, [some (jm_r 62 0), some (jm_r 7 0), some (jm_r 8 0), some (jm_r 58 0), some (jm_i i), none, none], [], h2)) rfl ?_
  refine jm_P_ite (fun hc => ?_) (fun hc => ?_)
  · replace H := H.1 hc
    exact jm_P_refl H
  · replace H := H.2 hc
    exact H.elim
set_option maxRecDepth 100000 in
theorem wl_25 {L : Nat} {xs : Nat → Int32} {i : Int32} {h : jm_H} {x' : jm_S} (H :
  jm_in (i + 1) L ∧
  jm_in (i + 2) L ∧
  ∃ (v1 : Int32) (h1 : jm_H), m_FR_slack (xs ((i + 1).toNatClampNeg)) (xs ((i + 2).toNatClampNeg)) h v1 h1 ∧
  jm_in (i + 1) L ∧
  jm_in (i + 2) L ∧
  ∃ (v2 : Int32) (h2 : jm_H), m_M_slack (xs ((i + 1).toNatClampNeg)) (xs ((i + 2).toNatClampNeg)) h1 v2 h2 ∧
  (v1 = v2 →
    x' = (1178, [some (jm_r 62 0), some (jm_r 7 0), some (jm_r 8 0), some (jm_r 58 0), some (jm_i i), none, none], [], h2)) ∧
  (¬ (v1 = v2) →
    False)) : jm_P (cod_law L xs) (651, [some (jm_r 62 0), some (jm_r 7 0), some (jm_r 8 0), some (jm_r 58 0), some (jm_i i), none, none], [], h) x' := by
  refine jm_P_n 5 (x1 := (656, [some (jm_r 62 0), some (jm_r 7 0), some (jm_r 8 0), some (jm_r 58 0), some (jm_i i), none, none], [jm_i (i + 1), jm_r 62 0, jm_r 7 0], h)) rfl ?_
  refine jm_P_xld rfl H.1 ?_
  replace H := H.2
  refine jm_P_eq (x := (657, [some (jm_r 62 0), some (jm_r 7 0), some (jm_r 8 0), some (jm_r 58 0), some (jm_i i), none, none], [jm_i (xs ((i + 1).toNatClampNeg)), jm_r 7 0], h)) rfl ?_
  refine jm_P_n 4 (x1 := (661, [some (jm_r 62 0), some (jm_r 7 0), some (jm_r 8 0), some (jm_r 58 0), some (jm_i i), none, none], [jm_i (i + 2), jm_r 62 0, jm_i (xs ((i + 1).toNatClampNeg)), jm_r 7 0], h)) rfl ?_
  refine jm_P_xld rfl H.1 ?_
  replace H := H.2
  refine jm_P_eq (x := (662, [some (jm_r 62 0), some (jm_r 7 0), some (jm_r 8 0), some (jm_r 58 0), some (jm_i i), none, none], [jm_i (xs ((i + 2).toNatClampNeg)), jm_i (xs ((i + 1).toNatClampNeg)), jm_r 7 0], h)) rfl ?_
  obtain ⟨v1, h1, hR, H⟩ := H
  refine jm_P_call rfl (Nat.le_of_ble_eq_true rfl) (Nat.le_of_ble_eq_true rfl) rfl hR trivial ?_
  refine jm_P_eq (x := (663, [some (jm_r 62 0), some (jm_r 7 0), some (jm_r 8 0), some (jm_r 58 0), some (jm_i i), none, none], [jm_i v1], h1)) rfl ?_
  refine jm_P_n 5 (x1 := (668, [some (jm_r 62 0), some (jm_r 7 0), some (jm_r 8 0), some (jm_r 58 0), some (jm_i i), none, none], [jm_i (i + 1), jm_r 62 0, jm_r 8 0, jm_i v1], h1)) rfl ?_
  refine jm_P_xld rfl H.1 ?_
  replace H := H.2
  refine jm_P_eq (x := (669, [some (jm_r 62 0), some (jm_r 7 0), some (jm_r 8 0), some (jm_r 58 0), some (jm_i i), none, none], [jm_i (xs ((i + 1).toNatClampNeg)), jm_r 8 0, jm_i v1], h1)) rfl ?_
  refine jm_P_n 4 (x1 := (673, [some (jm_r 62 0), some (jm_r 7 0), some (jm_r 8 0), some (jm_r 58 0), some (jm_i i), none, none], [jm_i (i + 2), jm_r 62 0, jm_i (xs ((i + 1).toNatClampNeg)), jm_r 8 0, jm_i v1], h1)) rfl ?_
  refine jm_P_xld rfl H.1 ?_
  replace H := H.2
  refine jm_P_eq (x := (674, [some (jm_r 62 0), some (jm_r 7 0), some (jm_r 8 0), some (jm_r 58 0), some (jm_i i), none, none], [jm_i (xs ((i + 2).toNatClampNeg)), jm_i (xs ((i + 1).toNatClampNeg)), jm_r 8 0, jm_i v1], h1)) rfl ?_
  obtain ⟨v2, h2, hR, H⟩ := H
  refine jm_P_call rfl (Nat.le_of_ble_eq_true rfl) (Nat.le_of_ble_eq_true rfl) rfl hR trivial ?_
  refine jm_P_eq (x := (675, [some (jm_r 62 0), some (jm_r 7 0), some (jm_r 8 0), some (jm_r 58 0), some (jm_i i), none, none], [jm_i v2, jm_i v1], h2)) rfl ?_
  refine jm_P_n 1 (x1 := (if v1 = v2 then 1178 else 676, [some (jm_r 62 0), some (jm_r 7 0), some (jm_r 8 0), some (jm_r 58 0), some (jm_i i), none, none], [], h2)) rfl ?_
  refine jm_P_ite (fun hc => ?_) (fun hc => ?_)
  · replace H := H.1 hc
    exact jm_P_refl H
  · replace H := H.2 hc
    exact H.elim
set_option maxRecDepth 100000 in
theorem wl_26 {L : Nat} {xs : Nat → Int32} {i : Int32} {h : jm_H} {x' : jm_S} (H :
  jm_in (i + 1) L ∧
  jm_in (i + 2) L ∧
  ∃ (v1 : Int32) (h1 : jm_H), m_FR_openAt (xs ((i + 1).toNatClampNeg)) (xs ((i + 2).toNatClampNeg)) h v1 h1 ∧
  jm_in (i + 1) L ∧
  jm_in (i + 2) L ∧
  ∃ (v2 : Int32) (h2 : jm_H), m_M_openAt (xs ((i + 1).toNatClampNeg)) (xs ((i + 2).toNatClampNeg)) h1 v2 h2 ∧
  (v1 = v2 →
    x' = (1178, [some (jm_r 62 0), some (jm_r 7 0), some (jm_r 8 0), some (jm_r 58 0), some (jm_i i), none, none], [], h2)) ∧
  (¬ (v1 = v2) →
    False)) : jm_P (cod_law L xs) (678, [some (jm_r 62 0), some (jm_r 7 0), some (jm_r 8 0), some (jm_r 58 0), some (jm_i i), none, none], [], h) x' := by
  refine jm_P_n 5 (x1 := (683, [some (jm_r 62 0), some (jm_r 7 0), some (jm_r 8 0), some (jm_r 58 0), some (jm_i i), none, none], [jm_i (i + 1), jm_r 62 0, jm_r 7 0], h)) rfl ?_
  refine jm_P_xld rfl H.1 ?_
  replace H := H.2
  refine jm_P_eq (x := (684, [some (jm_r 62 0), some (jm_r 7 0), some (jm_r 8 0), some (jm_r 58 0), some (jm_i i), none, none], [jm_i (xs ((i + 1).toNatClampNeg)), jm_r 7 0], h)) rfl ?_
  refine jm_P_n 4 (x1 := (688, [some (jm_r 62 0), some (jm_r 7 0), some (jm_r 8 0), some (jm_r 58 0), some (jm_i i), none, none], [jm_i (i + 2), jm_r 62 0, jm_i (xs ((i + 1).toNatClampNeg)), jm_r 7 0], h)) rfl ?_
  refine jm_P_xld rfl H.1 ?_
  replace H := H.2
  refine jm_P_eq (x := (689, [some (jm_r 62 0), some (jm_r 7 0), some (jm_r 8 0), some (jm_r 58 0), some (jm_i i), none, none], [jm_i (xs ((i + 2).toNatClampNeg)), jm_i (xs ((i + 1).toNatClampNeg)), jm_r 7 0], h)) rfl ?_
  obtain ⟨v1, h1, hR, H⟩ := H
  refine jm_P_call rfl (Nat.le_of_ble_eq_true rfl) (Nat.le_of_ble_eq_true rfl) rfl hR trivial ?_
  refine jm_P_eq (x := (690, [some (jm_r 62 0), some (jm_r 7 0), some (jm_r 8 0), some (jm_r 58 0), some (jm_i i), none, none], [jm_i v1], h1)) rfl ?_
  refine jm_P_n 5 (x1 := (695, [some (jm_r 62 0), some (jm_r 7 0), some (jm_r 8 0), some (jm_r 58 0), some (jm_i i), none, none], [jm_i (i + 1), jm_r 62 0, jm_r 8 0, jm_i v1], h1)) rfl ?_
  refine jm_P_xld rfl H.1 ?_
  replace H := H.2
  refine jm_P_eq (x := (696, [some (jm_r 62 0), some (jm_r 7 0), some (jm_r 8 0), some (jm_r 58 0), some (jm_i i), none, none], [jm_i (xs ((i + 1).toNatClampNeg)), jm_r 8 0, jm_i v1], h1)) rfl ?_
  refine jm_P_n 4 (x1 := (700, [some (jm_r 62 0), some (jm_r 7 0), some (jm_r 8 0), some (jm_r 58 0), some (jm_i i), none, none], [jm_i (i + 2), jm_r 62 0, jm_i (xs ((i + 1).toNatClampNeg)), jm_r 8 0, jm_i v1], h1)) rfl ?_
  refine jm_P_xld rfl H.1 ?_
  replace H := H.2
  refine jm_P_eq (x := (701, [some (jm_r 62 0), some (jm_r 7 0), some (jm_r 8 0), some (jm_r 58 0), some (jm_i i), none, none], [jm_i (xs ((i + 2).toNatClampNeg)), jm_i (xs ((i + 1).toNatClampNeg)), jm_r 8 0, jm_i v1], h1)) rfl ?_
  obtain ⟨v2, h2, hR, H⟩ := H
  refine jm_P_call rfl (Nat.le_of_ble_eq_true rfl) (Nat.le_of_ble_eq_true rfl) rfl hR trivial ?_
  refine jm_P_eq (x := (702, [some (jm_r 62 0), some (jm_r 7 0), some (jm_r 8 0), some (jm_r 58 0), some (jm_i i), none, none], [jm_i v2, jm_i v1], h2)) rfl ?_
  refine jm_P_n 1 (x1 := (if v1 = v2 then 1178 else 703, [some (jm_r 62 0), some (jm_r 7 0), some (jm_r 8 0), some (jm_r 58 0), some (jm_i i), none, none], [], h2)) rfl ?_
  refine jm_P_ite (fun hc => ?_) (fun hc => ?_)
  · replace H := H.1 hc
    exact jm_P_refl H
  · replace H := H.2 hc
    exact H.elim
set_option maxRecDepth 100000 in
theorem wl_27 {L : Nat} {xs : Nat → Int32} {i : Int32} {h : jm_H} {x' : jm_S} (H :
  jm_in (i + 1) L ∧
  ∃ (v1 : Int32) (h1 : jm_H), m_FR_clock (xs ((i + 1).toNatClampNeg)) h v1 h1 ∧
  jm_in (i + 1) L ∧
  ∃ (v2 : Int32) (h2 : jm_H), m_M_clock (xs ((i + 1).toNatClampNeg)) h1 v2 h2 ∧
  (v1 = v2 →
    x' = (1178, [some (jm_r 62 0), some (jm_r 7 0), some (jm_r 8 0), some (jm_r 58 0), some (jm_i i), none, none], [], h2)) ∧
  (¬ (v1 = v2) →
    False)) : jm_P (cod_law L xs) (705, [some (jm_r 62 0), some (jm_r 7 0), some (jm_r 8 0), some (jm_r 58 0), some (jm_i i), none, none], [], h) x' := by
  refine jm_P_n 5 (x1 := (710, [some (jm_r 62 0), some (jm_r 7 0), some (jm_r 8 0), some (jm_r 58 0), some (jm_i i), none, none], [jm_i (i + 1), jm_r 62 0, jm_r 7 0], h)) rfl ?_
  refine jm_P_xld rfl H.1 ?_
  replace H := H.2
  refine jm_P_eq (x := (711, [some (jm_r 62 0), some (jm_r 7 0), some (jm_r 8 0), some (jm_r 58 0), some (jm_i i), none, none], [jm_i (xs ((i + 1).toNatClampNeg)), jm_r 7 0], h)) rfl ?_
  obtain ⟨v1, h1, hR, H⟩ := H
  refine jm_P_call rfl (Nat.le_of_ble_eq_true rfl) (Nat.le_of_ble_eq_true rfl) rfl hR trivial ?_
  refine jm_P_eq (x := (712, [some (jm_r 62 0), some (jm_r 7 0), some (jm_r 8 0), some (jm_r 58 0), some (jm_i i), none, none], [jm_i v1], h1)) rfl ?_
  refine jm_P_n 5 (x1 := (717, [some (jm_r 62 0), some (jm_r 7 0), some (jm_r 8 0), some (jm_r 58 0), some (jm_i i), none, none], [jm_i (i + 1), jm_r 62 0, jm_r 8 0, jm_i v1], h1)) rfl ?_
  refine jm_P_xld rfl H.1 ?_
  replace H := H.2
  refine jm_P_eq (x := (718, [some (jm_r 62 0), some (jm_r 7 0), some (jm_r 8 0), some (jm_r 58 0), some (jm_i i), none, none], [jm_i (xs ((i + 1).toNatClampNeg)), jm_r 8 0, jm_i v1], h1)) rfl ?_
  obtain ⟨v2, h2, hR, H⟩ := H
  refine jm_P_call rfl (Nat.le_of_ble_eq_true rfl) (Nat.le_of_ble_eq_true rfl) rfl hR trivial ?_
  refine jm_P_eq (x := (719, [some (jm_r 62 0), some (jm_r 7 0), some (jm_r 8 0), some (jm_r 58 0), some (jm_i i), none, none], [jm_i v2, jm_i v1], h2)) rfl ?_
  refine jm_P_n 1 (x1 := (if v1 = v2 then 1178 else 720, [some (jm_r 62 0), some (jm_r 7 0), some (jm_r 8 0), some (jm_r 58 0), some (jm_i i), none, none], [], h2)) rfl ?_
  refine jm_P_ite (fun hc => ?_) (fun hc => ?_)
  · replace H := H.1 hc
    exact jm_P_refl H
  · replace H := H.2 hc
    exact H.elim
set_option maxRecDepth 100000 in
theorem wl_28 {L : Nat} {xs : Nat → Int32} {i : Int32} {h : jm_H} {x' : jm_S} (H :
  jm_in (i + 1) L ∧
  jm_in (i + 2) L ∧
  ∃ (v1 : Int32) (h1 : jm_H), m_FR_ahead (xs ((i + 1).toNatClampNeg)) (xs ((i + 2).toNatClampNeg)) h v1 h1 ∧
  jm_in (i + 1) L ∧
  jm_in (i + 2) L ∧
  ∃ (v2 : Int32) (h2 : jm_H), m_M_ahead (xs ((i + 1).toNatClampNeg)) (xs ((i + 2).toNatClampNeg)) h1 v2 h2 ∧
  (v1 = v2 →
    x' = (1178, [some (jm_r 62 0), some (jm_r 7 0), some (jm_r 8 0), some (jm_r 58 0), some (jm_i i), none, none], [], h2)) ∧
  (¬ (v1 = v2) →
    False)) : jm_P (cod_law L xs) (722, [some (jm_r 62 0), some (jm_r 7 0), some (jm_r 8 0), some (jm_r 58 0), some (jm_i i), none, none], [], h) x' := by
  refine jm_P_n 5 (x1 := (727, [some (jm_r 62 0), some (jm_r 7 0), some (jm_r 8 0), some (jm_r 58 0), some (jm_i i), none, none], [jm_i (i + 1), jm_r 62 0, jm_r 7 0], h)) rfl ?_
  refine jm_P_xld rfl H.1 ?_
  replace H := H.2
  refine jm_P_eq (x := (728, [some (jm_r 62 0), some (jm_r 7 0), some (jm_r 8 0), some (jm_r 58 0), some (jm_i i), none, none], [jm_i (xs ((i + 1).toNatClampNeg)), jm_r 7 0], h)) rfl ?_
  refine jm_P_n 4 (x1 := (732, [some (jm_r 62 0), some (jm_r 7 0), some (jm_r 8 0), some (jm_r 58 0), some (jm_i i), none, none], [jm_i (i + 2), jm_r 62 0, jm_i (xs ((i + 1).toNatClampNeg)), jm_r 7 0], h)) rfl ?_
  refine jm_P_xld rfl H.1 ?_
  replace H := H.2
  refine jm_P_eq (x := (733, [some (jm_r 62 0), some (jm_r 7 0), some (jm_r 8 0), some (jm_r 58 0), some (jm_i i), none, none], [jm_i (xs ((i + 2).toNatClampNeg)), jm_i (xs ((i + 1).toNatClampNeg)), jm_r 7 0], h)) rfl ?_
  obtain ⟨v1, h1, hR, H⟩ := H
  refine jm_P_call rfl (Nat.le_of_ble_eq_true rfl) (Nat.le_of_ble_eq_true rfl) rfl hR trivial ?_
  refine jm_P_eq (x := (734, [some (jm_r 62 0), some (jm_r 7 0), some (jm_r 8 0), some (jm_r 58 0), some (jm_i i), none, none], [jm_i v1], h1)) rfl ?_
  refine jm_P_n 5 (x1 := (739, [some (jm_r 62 0), some (jm_r 7 0), some (jm_r 8 0), some (jm_r 58 0), some (jm_i i), none, none], [jm_i (i + 1), jm_r 62 0, jm_r 8 0, jm_i v1], h1)) rfl ?_
  refine jm_P_xld rfl H.1 ?_
  replace H := H.2
  refine jm_P_eq (x := (740, [some (jm_r 62 0), some (jm_r 7 0), some (jm_r 8 0), some (jm_r 58 0), some (jm_i i), none, none], [jm_i (xs ((i + 1).toNatClampNeg)), jm_r 8 0, jm_i v1], h1)) rfl ?_
  refine jm_P_n 4 (x1 := (744, [some (jm_r 62 0), some (jm_r 7 0), some (jm_r 8 0), some (jm_r 58 0), some (jm_i i), none, none], [jm_i (i + 2), jm_r 62 0, jm_i (xs ((i + 1).toNatClampNeg)), jm_r 8 0, jm_i v1], h1)) rfl ?_
  refine jm_P_xld rfl H.1 ?_
  replace H := H.2
  refine jm_P_eq (x := (745, [some (jm_r 62 0), some (jm_r 7 0), some (jm_r 8 0), some (jm_r 58 0), some (jm_i i), none, none], [jm_i (xs ((i + 2).toNatClampNeg)), jm_i (xs ((i + 1).toNatClampNeg)), jm_r 8 0, jm_i v1], h1)) rfl ?_
  obtain ⟨v2, h2, hR, H⟩ := H
  refine jm_P_call rfl (Nat.le_of_ble_eq_true rfl) (Nat.le_of_ble_eq_true rfl) rfl hR trivial ?_
  refine jm_P_eq (x := (746, [some (jm_r 62 0), some (jm_r 7 0), some (jm_r 8 0), some (jm_r 58 0), some (jm_i i), none, none], [jm_i v2, jm_i v1], h2)) rfl ?_
  refine jm_P_n 1 (x1 := (if v1 = v2 then 1178 else 747, [some (jm_r 62 0), some (jm_r 7 0), some (jm_r 8 0), some (jm_r 58 0), some (jm_i i), none, none], [], h2)) rfl ?_
  refine jm_P_ite (fun hc => ?_) (fun hc => ?_)
  · replace H := H.1 hc
    exact jm_P_refl H
  · replace H := H.2 hc
    exact H.elim
set_option maxRecDepth 100000 in
theorem wl_29 {L : Nat} {xs : Nat → Int32} {i : Int32} {h : jm_H} {x' : jm_S} (H :
  jm_in (i + 1) L ∧
  jm_in (i + 2) L ∧
  ∃ (v1 : Int32) (h1 : jm_H), m_FR_waiting (xs ((i + 1).toNatClampNeg)) (xs ((i + 2).toNatClampNeg)) h v1 h1 ∧
  jm_in (i + 1) L ∧
  jm_in (i + 2) L ∧
  ∃ (v2 : Int32) (h2 : jm_H), m_M_waiting (xs ((i + 1).toNatClampNeg)) (xs ((i + 2).toNatClampNeg)) h1 v2 h2 ∧
  (v1 = v2 →
    x' = (1178, [some (jm_r 62 0), some (jm_r 7 0), some (jm_r 8 0), some (jm_r 58 0), some (jm_i i), none, none], [], h2)) ∧
  (¬ (v1 = v2) →
    False)) : jm_P (cod_law L xs) (749, [some (jm_r 62 0), some (jm_r 7 0), some (jm_r 8 0), some (jm_r 58 0), some (jm_i i), none, none], [], h) x' := by
  refine jm_P_n 5 (x1 := (754, [some (jm_r 62 0), some (jm_r 7 0), some (jm_r 8 0), some (jm_r 58 0), some (jm_i i), none, none], [jm_i (i + 1), jm_r 62 0, jm_r 7 0], h)) rfl ?_
  refine jm_P_xld rfl H.1 ?_
  replace H := H.2
  refine jm_P_eq (x := (755, [some (jm_r 62 0), some (jm_r 7 0), some (jm_r 8 0), some (jm_r 58 0), some (jm_i i), none, none], [jm_i (xs ((i + 1).toNatClampNeg)), jm_r 7 0], h)) rfl ?_
  refine jm_P_n 4 (x1 := (759, [some (jm_r 62 0), some (jm_r 7 0), some (jm_r 8 0), some (jm_r 58 0), some (jm_i i), none, none], [jm_i (i + 2), jm_r 62 0, jm_i (xs ((i + 1).toNatClampNeg)), jm_r 7 0], h)) rfl ?_
  refine jm_P_xld rfl H.1 ?_
  replace H := H.2
  refine jm_P_eq (x := (760, [some (jm_r 62 0), some (jm_r 7 0), some (jm_r 8 0), some (jm_r 58 0), some (jm_i i), none, none], [jm_i (xs ((i + 2).toNatClampNeg)), jm_i (xs ((i + 1).toNatClampNeg)), jm_r 7 0], h)) rfl ?_
  obtain ⟨v1, h1, hR, H⟩ := H
  refine jm_P_call rfl (Nat.le_of_ble_eq_true rfl) (Nat.le_of_ble_eq_true rfl) rfl hR trivial ?_
  refine jm_P_eq (x := (761, [some (jm_r 62 0), some (jm_r 7 0), some (jm_r 8 0), some (jm_r 58 0), some (jm_i i), none, none], [jm_i v1], h1)) rfl ?_
  refine jm_P_n 5 (x1 := (766, [some (jm_r 62 0), some (jm_r 7 0), some (jm_r 8 0), some (jm_r 58 0), some (jm_i i), none, none], [jm_i (i + 1), jm_r 62 0, jm_r 8 0, jm_i v1], h1)) rfl ?_
  refine jm_P_xld rfl H.1 ?_
  replace H := H.2
  refine jm_P_eq (x := (767, [some (jm_r 62 0), some (jm_r 7 0), some (jm_r 8 0), some (jm_r 58 0), some (jm_i i), none, none], [jm_i (xs ((i + 1).toNatClampNeg)), jm_r 8 0, jm_i v1], h1)) rfl ?_
  refine jm_P_n 4 (x1 := (771, [some (jm_r 62 0), some (jm_r 7 0), some (jm_r 8 0), some (jm_r 58 0), some (jm_i i), none, none], [jm_i (i + 2), jm_r 62 0, jm_i (xs ((i + 1).toNatClampNeg)), jm_r 8 0, jm_i v1], h1)) rfl ?_
  refine jm_P_xld rfl H.1 ?_
  replace H := H.2
  refine jm_P_eq (x := (772, [some (jm_r 62 0), some (jm_r 7 0), some (jm_r 8 0), some (jm_r 58 0), some (jm_i i), none, none], [jm_i (xs ((i + 2).toNatClampNeg)), jm_i (xs ((i + 1).toNatClampNeg)), jm_r 8 0, jm_i v1], h1)) rfl ?_
  obtain ⟨v2, h2, hR, H⟩ := H
  refine jm_P_call rfl (Nat.le_of_ble_eq_true rfl) (Nat.le_of_ble_eq_true rfl) rfl hR trivial ?_
  refine jm_P_eq (x := (773, [some (jm_r 62 0), some (jm_r 7 0), some (jm_r 8 0), some (jm_r 58 0), some (jm_i i), none, none], [jm_i v2, jm_i v1], h2)) rfl ?_
  refine jm_P_n 1 (x1 := (if v1 = v2 then 1178 else 774, [some (jm_r 62 0), some (jm_r 7 0), some (jm_r 8 0), some (jm_r 58 0), some (jm_i i), none, none], [], h2)) rfl ?_
  refine jm_P_ite (fun hc => ?_) (fun hc => ?_)
  · replace H := H.1 hc
    exact jm_P_refl H
  · replace H := H.2 hc
    exact H.elim
set_option maxRecDepth 100000 in
theorem wl_30 {L : Nat} {xs : Nat → Int32} {i : Int32} {h : jm_H} {x' : jm_S} (H :
  jm_in (i + 1) L ∧
  jm_in (i + 2) L ∧
  ∃ (v1 : Int32) (h1 : jm_H), m_FR_canTake (xs ((i + 1).toNatClampNeg)) (xs ((i + 2).toNatClampNeg)) h v1 h1 ∧
  jm_in (i + 1) L ∧
  jm_in (i + 2) L ∧
  ∃ (v2 : Int32) (h2 : jm_H), m_M_canTake (xs ((i + 1).toNatClampNeg)) (xs ((i + 2).toNatClampNeg)) h1 v2 h2 ∧
  (v1 = v2 →
    x' = (1178, [some (jm_r 62 0), some (jm_r 7 0), some (jm_r 8 0), some (jm_r 58 0), some (jm_i i), none, none], [], h2)) ∧
  (¬ (v1 = v2) →
    False)) : jm_P (cod_law L xs) (776, [some (jm_r 62 0), some (jm_r 7 0), some (jm_r 8 0), some (jm_r 58 0), some (jm_i i), none, none], [], h) x' := by
  refine jm_P_n 5 (x1 := (781, [some (jm_r 62 0), some (jm_r 7 0), some (jm_r 8 0), some (jm_r 58 0), some (jm_i i), none, none], [jm_i (i + 1), jm_r 62 0, jm_r 7 0], h)) rfl ?_
  refine jm_P_xld rfl H.1 ?_
  replace H := H.2
  refine jm_P_eq (x := (782, [some (jm_r 62 0), some (jm_r 7 0), some (jm_r 8 0), some (jm_r 58 0), some (jm_i i), none, none], [jm_i (xs ((i + 1).toNatClampNeg)), jm_r 7 0], h)) rfl ?_
  refine jm_P_n 4 (x1 := (786, [some (jm_r 62 0), some (jm_r 7 0), some (jm_r 8 0), some (jm_r 58 0), some (jm_i i), none, none], [jm_i (i + 2), jm_r 62 0, jm_i (xs ((i + 1).toNatClampNeg)), jm_r 7 0], h)) rfl ?_
  refine jm_P_xld rfl H.1 ?_
  replace H := H.2
  refine jm_P_eq (x := (787, [some (jm_r 62 0), some (jm_r 7 0), some (jm_r 8 0), some (jm_r 58 0), some (jm_i i), none, none], [jm_i (xs ((i + 2).toNatClampNeg)), jm_i (xs ((i + 1).toNatClampNeg)), jm_r 7 0], h)) rfl ?_
  obtain ⟨v1, h1, hR, H⟩ := H
  refine jm_P_call rfl (Nat.le_of_ble_eq_true rfl) (Nat.le_of_ble_eq_true rfl) rfl hR trivial ?_
  refine jm_P_eq (x := (788, [some (jm_r 62 0), some (jm_r 7 0), some (jm_r 8 0), some (jm_r 58 0), some (jm_i i), none, none], [jm_i v1], h1)) rfl ?_
  refine jm_P_n 5 (x1 := (793, [some (jm_r 62 0), some (jm_r 7 0), some (jm_r 8 0), some (jm_r 58 0), some (jm_i i), none, none], [jm_i (i + 1), jm_r 62 0, jm_r 8 0, jm_i v1], h1)) rfl ?_
  refine jm_P_xld rfl H.1 ?_
  replace H := H.2
  refine jm_P_eq (x := (794, [some (jm_r 62 0), some (jm_r 7 0), some (jm_r 8 0), some (jm_r 58 0), some (jm_i i), none, none], [jm_i (xs ((i + 1).toNatClampNeg)), jm_r 8 0, jm_i v1], h1)) rfl ?_
  refine jm_P_n 4 (x1 := (798, [some (jm_r 62 0), some (jm_r 7 0), some (jm_r 8 0), some (jm_r 58 0), some (jm_i i), none, none], [jm_i (i + 2), jm_r 62 0, jm_i (xs ((i + 1).toNatClampNeg)), jm_r 8 0, jm_i v1], h1)) rfl ?_
  refine jm_P_xld rfl H.1 ?_
  replace H := H.2
  refine jm_P_eq (x := (799, [some (jm_r 62 0), some (jm_r 7 0), some (jm_r 8 0), some (jm_r 58 0), some (jm_i i), none, none], [jm_i (xs ((i + 2).toNatClampNeg)), jm_i (xs ((i + 1).toNatClampNeg)), jm_r 8 0, jm_i v1], h1)) rfl ?_
  obtain ⟨v2, h2, hR, H⟩ := H
  refine jm_P_call rfl (Nat.le_of_ble_eq_true rfl) (Nat.le_of_ble_eq_true rfl) rfl hR trivial ?_
  refine jm_P_eq (x := (800, [some (jm_r 62 0), some (jm_r 7 0), some (jm_r 8 0), some (jm_r 58 0), some (jm_i i), none, none], [jm_i v2, jm_i v1], h2)) rfl ?_
  refine jm_P_n 1 (x1 := (if v1 = v2 then 1178 else 801, [some (jm_r 62 0), some (jm_r 7 0), some (jm_r 8 0), some (jm_r 58 0), some (jm_i i), none, none], [], h2)) rfl ?_
  refine jm_P_ite (fun hc => ?_) (fun hc => ?_)
  · replace H := H.1 hc
    exact jm_P_refl H
  · replace H := H.2 hc
    exact H.elim
set_option maxRecDepth 100000 in
theorem wl_31 {L : Nat} {xs : Nat → Int32} {i : Int32} {h : jm_H} {x' : jm_S} (H :
  jm_in (i + 1) L ∧
  jm_in (i + 2) L ∧
  ∃ (v1 : Int32) (h1 : jm_H), m_FR_take (xs ((i + 1).toNatClampNeg)) (xs ((i + 2).toNatClampNeg)) h v1 h1 ∧
  jm_in (i + 1) L ∧
  jm_in (i + 2) L ∧
  ∃ (v2 : Int32) (h2 : jm_H), m_M_take (xs ((i + 1).toNatClampNeg)) (xs ((i + 2).toNatClampNeg)) h1 v2 h2 ∧
  (v1 = v2 →
    x' = (1178, [some (jm_r 62 0), some (jm_r 7 0), some (jm_r 8 0), some (jm_r 58 0), some (jm_i i), none, none], [], h2)) ∧
  (¬ (v1 = v2) →
    False)) : jm_P (cod_law L xs) (803, [some (jm_r 62 0), some (jm_r 7 0), some (jm_r 8 0), some (jm_r 58 0), some (jm_i i), none, none], [], h) x' := by
  refine jm_P_n 5 (x1 := (808, [some (jm_r 62 0), some (jm_r 7 0), some (jm_r 8 0), some (jm_r 58 0), some (jm_i i), none, none], [jm_i (i + 1), jm_r 62 0, jm_r 7 0], h)) rfl ?_
  refine jm_P_xld rfl H.1 ?_
  replace H := H.2
  refine jm_P_eq (x := (809, [some (jm_r 62 0), some (jm_r 7 0), some (jm_r 8 0), some (jm_r 58 0), some (jm_i i), none, none], [jm_i (xs ((i + 1).toNatClampNeg)), jm_r 7 0], h)) rfl ?_
  refine jm_P_n 4 (x1 := (813, [some (jm_r 62 0), some (jm_r 7 0), some (jm_r 8 0), some (jm_r 58 0), some (jm_i i), none, none], [jm_i (i + 2), jm_r 62 0, jm_i (xs ((i + 1).toNatClampNeg)), jm_r 7 0], h)) rfl ?_
  refine jm_P_xld rfl H.1 ?_
  replace H := H.2
  refine jm_P_eq (x := (814, [some (jm_r 62 0), some (jm_r 7 0), some (jm_r 8 0), some (jm_r 58 0), some (jm_i i), none, none], [jm_i (xs ((i + 2).toNatClampNeg)), jm_i (xs ((i + 1).toNatClampNeg)), jm_r 7 0], h)) rfl ?_
  obtain ⟨v1, h1, hR, H⟩ := H
  refine jm_P_call rfl (Nat.le_of_ble_eq_true rfl) (Nat.le_of_ble_eq_true rfl) rfl hR trivial ?_
  refine jm_P_eq (x := (815, [some (jm_r 62 0), some (jm_r 7 0), some (jm_r 8 0), some (jm_r 58 0), some (jm_i i), none, none], [jm_i v1], h1)) rfl ?_
  refine jm_P_n 5 (x1 := (820, [some (jm_r 62 0), some (jm_r 7 0), some (jm_r 8 0), some (jm_r 58 0), some (jm_i i), none, none], [jm_i (i + 1), jm_r 62 0, jm_r 8 0, jm_i v1], h1)) rfl ?_
  refine jm_P_xld rfl H.1 ?_
  replace H := H.2
  refine jm_P_eq (x := (821, [some (jm_r 62 0), some (jm_r 7 0), some (jm_r 8 0), some (jm_r 58 0), some (jm_i i), none, none], [jm_i (xs ((i + 1).toNatClampNeg)), jm_r 8 0, jm_i v1], h1)) rfl ?_
  refine jm_P_n 4 (x1 := (825, [some (jm_r 62 0), some (jm_r 7 0), some (jm_r 8 0), some (jm_r 58 0), some (jm_i i), none, none], [jm_i (i + 2), jm_r 62 0, jm_i (xs ((i + 1).toNatClampNeg)), jm_r 8 0, jm_i v1], h1)) rfl ?_
  refine jm_P_xld rfl H.1 ?_
  replace H := H.2
  refine jm_P_eq (x := (826, [some (jm_r 62 0), some (jm_r 7 0), some (jm_r 8 0), some (jm_r 58 0), some (jm_i i), none, none], [jm_i (xs ((i + 2).toNatClampNeg)), jm_i (xs ((i + 1).toNatClampNeg)), jm_r 8 0, jm_i v1], h1)) rfl ?_
  obtain ⟨v2, h2, hR, H⟩ := H
  refine jm_P_call rfl (Nat.le_of_ble_eq_true rfl) (Nat.le_of_ble_eq_true rfl) rfl hR trivial ?_
  refine jm_P_eq (x := (827, [some (jm_r 62 0), some (jm_r 7 0), some (jm_r 8 0), some (jm_r 58 0), some (jm_i i), none, none], [jm_i v2, jm_i v1], h2)) rfl ?_
  refine jm_P_n 1 (x1 := (if v1 = v2 then 1178 else 828, [some (jm_r 62 0), some (jm_r 7 0), some (jm_r 8 0), some (jm_r 58 0), some (jm_i i), none, none], [], h2)) rfl ?_
  refine jm_P_ite (fun hc => ?_) (fun hc => ?_)
  · replace H := H.1 hc
    exact jm_P_refl H
  · replace H := H.2 hc
    exact H.elim
set_option maxRecDepth 100000 in
theorem wl_32 {L : Nat} {xs : Nat → Int32} {i : Int32} {h : jm_H} {x' : jm_S} (H :
  jm_in (i + 1) L ∧
  ∃ (v1 : Int32) (h1 : jm_H), m_FR_soonest (xs ((i + 1).toNatClampNeg)) h v1 h1 ∧
  jm_in (i + 1) L ∧
  ∃ (v2 : Int32) (h2 : jm_H), m_M_soonest (xs ((i + 1).toNatClampNeg)) h1 v2 h2 ∧
  (v1 = v2 →
    x' = (1178, [some (jm_r 62 0), some (jm_r 7 0), some (jm_r 8 0), some (jm_r 58 0), some (jm_i i), none, none], [], h2)) ∧
  (¬ (v1 = v2) →
    False)) : jm_P (cod_law L xs) (830, [some (jm_r 62 0), some (jm_r 7 0), some (jm_r 8 0), some (jm_r 58 0), some (jm_i i), none, none], [], h) x' := by
  refine jm_P_n 5 (x1 := (835, [some (jm_r 62 0), some (jm_r 7 0), some (jm_r 8 0), some (jm_r 58 0), some (jm_i i), none, none], [jm_i (i + 1), jm_r 62 0, jm_r 7 0], h)) rfl ?_
  refine jm_P_xld rfl H.1 ?_
  replace H := H.2
  refine jm_P_eq (x := (836, [some (jm_r 62 0), some (jm_r 7 0), some (jm_r 8 0), some (jm_r 58 0), some (jm_i i), none, none], [jm_i (xs ((i + 1).toNatClampNeg)), jm_r 7 0], h)) rfl ?_
  obtain ⟨v1, h1, hR, H⟩ := H
  refine jm_P_call rfl (Nat.le_of_ble_eq_true rfl) (Nat.le_of_ble_eq_true rfl) rfl hR trivial ?_
  refine jm_P_eq (x := (837, [some (jm_r 62 0), some (jm_r 7 0), some (jm_r 8 0), some (jm_r 58 0), some (jm_i i), none, none], [jm_i v1], h1)) rfl ?_
  refine jm_P_n 5 (x1 := (842, [some (jm_r 62 0), some (jm_r 7 0), some (jm_r 8 0), some (jm_r 58 0), some (jm_i i), none, none], [jm_i (i + 1), jm_r 62 0, jm_r 8 0, jm_i v1], h1)) rfl ?_
  refine jm_P_xld rfl H.1 ?_
  replace H := H.2
  refine jm_P_eq (x := (843, [some (jm_r 62 0), some (jm_r 7 0), some (jm_r 8 0), some (jm_r 58 0), some (jm_i i), none, none], [jm_i (xs ((i + 1).toNatClampNeg)), jm_r 8 0, jm_i v1], h1)) rfl ?_
  obtain ⟨v2, h2, hR, H⟩ := H
  refine jm_P_call rfl (Nat.le_of_ble_eq_true rfl) (Nat.le_of_ble_eq_true rfl) rfl hR trivial ?_
  refine jm_P_eq (x := (844, [some (jm_r 62 0), some (jm_r 7 0), some (jm_r 8 0), some (jm_r 58 0), some (jm_i i), none, none], [jm_i v2, jm_i v1], h2)) rfl ?_
  refine jm_P_n 1 (x1 := (if v1 = v2 then 1178 else 845, [some (jm_r 62 0), some (jm_r 7 0), some (jm_r 8 0), some (jm_r 58 0), some (jm_i i), none, none], [], h2)) rfl ?_
  refine jm_P_ite (fun hc => ?_) (fun hc => ?_)
  · replace H := H.1 hc
    exact jm_P_refl H
  · replace H := H.2 hc
    exact H.elim
set_option maxRecDepth 100000 in
theorem wl_33 {L : Nat} {xs : Nat → Int32} {i : Int32} {h : jm_H} {x' : jm_S} (H :
  jm_in (i + 1) L ∧
  ∃ (v1 : Int32) (h1 : jm_H), m_FR_greatest (xs ((i + 1).toNatClampNeg)) h v1 h1 ∧
  jm_in (i + 1) L ∧
  ∃ (v2 : Int32) (h2 : jm_H), m_M_greatest (xs ((i + 1).toNatClampNeg)) h1 v2 h2 ∧
  (v1 = v2 →
    x' = (1178, [some (jm_r 62 0), some (jm_r 7 0), some (jm_r 8 0), some (jm_r 58 0), some (jm_i i), none, none], [], h2)) ∧
  (¬ (v1 = v2) →
    False)) : jm_P (cod_law L xs) (847, [some (jm_r 62 0), some (jm_r 7 0), some (jm_r 8 0), some (jm_r 58 0), some (jm_i i), none, none], [], h) x' := by
  refine jm_P_n 5 (x1 := (852, [some (jm_r 62 0), some (jm_r 7 0), some (jm_r 8 0), some (jm_r 58 0), some (jm_i i), none, none], [jm_i (i + 1), jm_r 62 0, jm_r 7 0], h)) rfl ?_
  refine jm_P_xld rfl H.1 ?_
  replace H := H.2
  refine jm_P_eq (x := (853, [some (jm_r 62 0), some (jm_r 7 0), some (jm_r 8 0), some (jm_r 58 0), some (jm_i i), none, none], [jm_i (xs ((i + 1).toNatClampNeg)), jm_r 7 0], h)) rfl ?_
  obtain ⟨v1, h1, hR, H⟩ := H
  refine jm_P_call rfl (Nat.le_of_ble_eq_true rfl) (Nat.le_of_ble_eq_true rfl) rfl hR trivial ?_
  refine jm_P_eq (x := (854, [some (jm_r 62 0), some (jm_r 7 0), some (jm_r 8 0), some (jm_r 58 0), some (jm_i i), none, none], [jm_i v1], h1)) rfl ?_
  refine jm_P_n 5 (x1 := (859, [some (jm_r 62 0), some (jm_r 7 0), some (jm_r 8 0), some (jm_r 58 0), some (jm_i i), none, none], [jm_i (i + 1), jm_r 62 0, jm_r 8 0, jm_i v1], h1)) rfl ?_
  refine jm_P_xld rfl H.1 ?_
  replace H := H.2
  refine jm_P_eq (x := (860, [some (jm_r 62 0), some (jm_r 7 0), some (jm_r 8 0), some (jm_r 58 0), some (jm_i i), none, none], [jm_i (xs ((i + 1).toNatClampNeg)), jm_r 8 0, jm_i v1], h1)) rfl ?_
  obtain ⟨v2, h2, hR, H⟩ := H
  refine jm_P_call rfl (Nat.le_of_ble_eq_true rfl) (Nat.le_of_ble_eq_true rfl) rfl hR trivial ?_
  refine jm_P_eq (x := (861, [some (jm_r 62 0), some (jm_r 7 0), some (jm_r 8 0), some (jm_r 58 0), some (jm_i i), none, none], [jm_i v2, jm_i v1], h2)) rfl ?_
  refine jm_P_n 1 (x1 := (if v1 = v2 then 1178 else 862, [some (jm_r 62 0), some (jm_r 7 0), some (jm_r 8 0), some (jm_r 58 0), some (jm_i i), none, none], [], h2)) rfl ?_
  refine jm_P_ite (fun hc => ?_) (fun hc => ?_)
  · replace H := H.1 hc
    exact jm_P_refl H
  · replace H := H.2 hc
    exact H.elim
set_option maxRecDepth 100000 in
theorem wl_34 {L : Nat} {xs : Nat → Int32} {i : Int32} {h : jm_H} {x' : jm_S} (H :
  ∃ (v1 : Int32) (h1 : jm_H), m_FR_spare h v1 h1 ∧
  ∃ (v2 : Int32) (h2 : jm_H), m_M_spare h1 v2 h2 ∧
  (v1 = v2 →
    x' = (1178, [some (jm_r 62 0), some (jm_r 7 0), some (jm_r 8 0), some (jm_r 58 0), some (jm_i i), none, none], [], h2)) ∧
  (¬ (v1 = v2) →
    False)) : jm_P (cod_law L xs) (864, [some (jm_r 62 0), some (jm_r 7 0), some (jm_r 8 0), some (jm_r 58 0), some (jm_i i), none, none], [], h) x' := by
  refine jm_P_n 1 (x1 := (865, [some (jm_r 62 0), some (jm_r 7 0), some (jm_r 8 0), some (jm_r 58 0), some (jm_i i), none, none], [jm_r 7 0], h)) rfl ?_
  obtain ⟨v1, h1, hR, H⟩ := H
  refine jm_P_call rfl (Nat.le_of_ble_eq_true rfl) (Nat.le_of_ble_eq_true rfl) rfl hR trivial ?_
  refine jm_P_eq (x := (866, [some (jm_r 62 0), some (jm_r 7 0), some (jm_r 8 0), some (jm_r 58 0), some (jm_i i), none, none], [jm_i v1], h1)) rfl ?_
  refine jm_P_n 1 (x1 := (867, [some (jm_r 62 0), some (jm_r 7 0), some (jm_r 8 0), some (jm_r 58 0), some (jm_i i), none, none], [jm_r 8 0, jm_i v1], h1)) rfl ?_
  obtain ⟨v2, h2, hR, H⟩ := H
  refine jm_P_call rfl (Nat.le_of_ble_eq_true rfl) (Nat.le_of_ble_eq_true rfl) rfl hR trivial ?_
  refine jm_P_eq (x := (868, [some (jm_r 62 0), some (jm_r 7 0), some (jm_r 8 0), some (jm_r 58 0), some (jm_i i), none, none], [jm_i v2, jm_i v1], h2)) rfl ?_
  refine jm_P_n 1 (x1 := (if v1 = v2 then 1178 else 869, [some (jm_r 62 0), some (jm_r 7 0), some (jm_r 8 0), some (jm_r 58 0), some (jm_i i), none, none], [], h2)) rfl ?_
  refine jm_P_ite (fun hc => ?_) (fun hc => ?_)
  · replace H := H.1 hc
    exact jm_P_refl H
  · replace H := H.2 hc
    exact H.elim
set_option maxRecDepth 100000 in
theorem wl_35 {L : Nat} {xs : Nat → Int32} {i : Int32} {h : jm_H} {x' : jm_S} (H :
  jm_in (i + 1) L ∧
  ∃ (v1 : Int32) (h1 : jm_H), m_FR_step (xs ((i + 1).toNatClampNeg)) h v1 h1 ∧
  jm_in (i + 1) L ∧
  ∃ (v2 : Int32) (h2 : jm_H), m_M_step (xs ((i + 1).toNatClampNeg)) h1 v2 h2 ∧
  (v1 = v2 →
    x' = (1178, [some (jm_r 62 0), some (jm_r 7 0), some (jm_r 8 0), some (jm_r 58 0), some (jm_i i), none, none], [], h2)) ∧
  (¬ (v1 = v2) →
    False)) : jm_P (cod_law L xs) (871, [some (jm_r 62 0), some (jm_r 7 0), some (jm_r 8 0), some (jm_r 58 0), some (jm_i i), none, none], [], h) x' := by
  refine jm_P_n 5 (x1 := (876, [some (jm_r 62 0), some (jm_r 7 0), some (jm_r 8 0), some (jm_r 58 0), some (jm_i i), none, none], [jm_i (i + 1), jm_r 62 0, jm_r 7 0], h)) rfl ?_
  refine jm_P_xld rfl H.1 ?_
  replace H := H.2
  refine jm_P_eq (x := (877, [some (jm_r 62 0), some (jm_r 7 0), some (jm_r 8 0), some (jm_r 58 0), some (jm_i i), none, none], [jm_i (xs ((i + 1).toNatClampNeg)), jm_r 7 0], h)) rfl ?_
  obtain ⟨v1, h1, hR, H⟩ := H
  refine jm_P_call rfl (Nat.le_of_ble_eq_true rfl) (Nat.le_of_ble_eq_true rfl) rfl hR trivial ?_
  refine jm_P_eq (x := (878, [some (jm_r 62 0), some (jm_r 7 0), some (jm_r 8 0), some (jm_r 58 0), some (jm_i i), none, none], [jm_i v1], h1)) rfl ?_
  refine jm_P_n 5 (x1 := (883, [some (jm_r 62 0), some (jm_r 7 0), some (jm_r 8 0), some (jm_r 58 0), some (jm_i i), none, none], [jm_i (i + 1), jm_r 62 0, jm_r 8 0, jm_i v1], h1)) rfl ?_
  refine jm_P_xld rfl H.1 ?_
  replace H := H.2
  refine jm_P_eq (x := (884, [some (jm_r 62 0), some (jm_r 7 0), some (jm_r 8 0), some (jm_r 58 0), some (jm_i i), none, none], [jm_i (xs ((i + 1).toNatClampNeg)), jm_r 8 0, jm_i v1], h1)) rfl ?_
  obtain ⟨v2, h2, hR, H⟩ := H
  refine jm_P_call rfl (Nat.le_of_ble_eq_true rfl) (Nat.le_of_ble_eq_true rfl) rfl hR trivial ?_
  refine jm_P_eq (x := (885, [some (jm_r 62 0), some (jm_r 7 0), some (jm_r 8 0), some (jm_r 58 0), some (jm_i i), none, none], [jm_i v2, jm_i v1], h2)) rfl ?_
  refine jm_P_n 1 (x1 := (if v1 = v2 then 1178 else 886, [some (jm_r 62 0), some (jm_r 7 0), some (jm_r 8 0), some (jm_r 58 0), some (jm_i i), none, none], [], h2)) rfl ?_
  refine jm_P_ite (fun hc => ?_) (fun hc => ?_)
  · replace H := H.1 hc
    exact jm_P_refl H
  · replace H := H.2 hc
    exact H.elim
set_option maxRecDepth 100000 in
theorem wl_36 {L : Nat} {xs : Nat → Int32} {i : Int32} {h : jm_H} {x' : jm_S} (H :
  jm_in (i + 1) L ∧
  ∃ (v1 : Int32) (h1 : jm_H), m_FR_run (xs ((i + 1).toNatClampNeg)) h v1 h1 ∧
  jm_in (i + 1) L ∧
  ∃ (v2 : Int32) (h2 : jm_H), m_M_run (xs ((i + 1).toNatClampNeg)) h1 v2 h2 ∧
  (v1 = v2 →
    x' = (1178, [some (jm_r 62 0), some (jm_r 7 0), some (jm_r 8 0), some (jm_r 58 0), some (jm_i i), none, none], [], h2)) ∧
  (¬ (v1 = v2) →
    False)) : jm_P (cod_law L xs) (888, [some (jm_r 62 0), some (jm_r 7 0), some (jm_r 8 0), some (jm_r 58 0), some (jm_i i), none, none], [], h) x' := by
  refine jm_P_n 5 (x1 := (893, [some (jm_r 62 0), some (jm_r 7 0), some (jm_r 8 0), some (jm_r 58 0), some (jm_i i), none, none], [jm_i (i + 1), jm_r 62 0, jm_r 7 0], h)) rfl ?_
  refine jm_P_xld rfl H.1 ?_
  replace H := H.2
  refine jm_P_eq (x := (894, [some (jm_r 62 0), some (jm_r 7 0), some (jm_r 8 0), some (jm_r 58 0), some (jm_i i), none, none], [jm_i (xs ((i + 1).toNatClampNeg)), jm_r 7 0], h)) rfl ?_
  obtain ⟨v1, h1, hR, H⟩ := H
  refine jm_P_call rfl (Nat.le_of_ble_eq_true rfl) (Nat.le_of_ble_eq_true rfl) rfl hR trivial ?_
  refine jm_P_eq (x := (895, [some (jm_r 62 0), some (jm_r 7 0), some (jm_r 8 0), some (jm_r 58 0), some (jm_i i), none, none], [jm_i v1], h1)) rfl ?_
  refine jm_P_n 5 (x1 := (900, [some (jm_r 62 0), some (jm_r 7 0), some (jm_r 8 0), some (jm_r 58 0), some (jm_i i), none, none], [jm_i (i + 1), jm_r 62 0, jm_r 8 0, jm_i v1], h1)) rfl ?_
  refine jm_P_xld rfl H.1 ?_
  replace H := H.2
  refine jm_P_eq (x := (901, [some (jm_r 62 0), some (jm_r 7 0), some (jm_r 8 0), some (jm_r 58 0), some (jm_i i), none, none], [jm_i (xs ((i + 1).toNatClampNeg)), jm_r 8 0, jm_i v1], h1)) rfl ?_
  obtain ⟨v2, h2, hR, H⟩ := H
  refine jm_P_call rfl (Nat.le_of_ble_eq_true rfl) (Nat.le_of_ble_eq_true rfl) rfl hR trivial ?_
  refine jm_P_eq (x := (902, [some (jm_r 62 0), some (jm_r 7 0), some (jm_r 8 0), some (jm_r 58 0), some (jm_i i), none, none], [jm_i v2, jm_i v1], h2)) rfl ?_
  refine jm_P_n 1 (x1 := (if v1 = v2 then 1178 else 903, [some (jm_r 62 0), some (jm_r 7 0), some (jm_r 8 0), some (jm_r 58 0), some (jm_i i), none, none], [], h2)) rfl ?_
  refine jm_P_ite (fun hc => ?_) (fun hc => ?_)
  · replace H := H.1 hc
    exact jm_P_refl H
  · replace H := H.2 hc
    exact H.elim
set_option maxRecDepth 100000 in
theorem wl_37 {L : Nat} {xs : Nat → Int32} {i : Int32} {h : jm_H} {x' : jm_S} (H :
  jm_in (i + 1) L ∧
  ∃ (v1 : Int32) (h1 : jm_H), m_FR_safeEnd (xs ((i + 1).toNatClampNeg)) h v1 h1 ∧
  jm_in (i + 1) L ∧
  ∃ (v2 : Int32) (h2 : jm_H), m_M_safeEnd (xs ((i + 1).toNatClampNeg)) h1 v2 h2 ∧
  (v1 = v2 →
    x' = (1178, [some (jm_r 62 0), some (jm_r 7 0), some (jm_r 8 0), some (jm_r 58 0), some (jm_i i), none, none], [], h2)) ∧
  (¬ (v1 = v2) →
    False)) : jm_P (cod_law L xs) (905, [some (jm_r 62 0), some (jm_r 7 0), some (jm_r 8 0), some (jm_r 58 0), some (jm_i i), none, none], [], h) x' := by
  refine jm_P_n 5 (x1 := (910, [some (jm_r 62 0), some (jm_r 7 0), some (jm_r 8 0), some (jm_r 58 0), some (jm_i i), none, none], [jm_i (i + 1), jm_r 62 0, jm_r 7 0], h)) rfl ?_
  refine jm_P_xld rfl H.1 ?_
  replace H := H.2
  refine jm_P_eq (x := (911, [some (jm_r 62 0), some (jm_r 7 0), some (jm_r 8 0), some (jm_r 58 0), some (jm_i i), none, none], [jm_i (xs ((i + 1).toNatClampNeg)), jm_r 7 0], h)) rfl ?_
  obtain ⟨v1, h1, hR, H⟩ := H
  refine jm_P_call rfl (Nat.le_of_ble_eq_true rfl) (Nat.le_of_ble_eq_true rfl) rfl hR trivial ?_
  refine jm_P_eq (x := (912, [some (jm_r 62 0), some (jm_r 7 0), some (jm_r 8 0), some (jm_r 58 0), some (jm_i i), none, none], [jm_i v1], h1)) rfl ?_
  refine jm_P_n 5 (x1 := (917, [some (jm_r 62 0), some (jm_r 7 0), some (jm_r 8 0), some (jm_r 58 0), some (jm_i i), none, none], [jm_i (i + 1), jm_r 62 0, jm_r 8 0, jm_i v1], h1)) rfl ?_
  refine jm_P_xld rfl H.1 ?_
  replace H := H.2
  refine jm_P_eq (x := (918, [some (jm_r 62 0), some (jm_r 7 0), some (jm_r 8 0), some (jm_r 58 0), some (jm_i i), none, none], [jm_i (xs ((i + 1).toNatClampNeg)), jm_r 8 0, jm_i v1], h1)) rfl ?_
  obtain ⟨v2, h2, hR, H⟩ := H
  refine jm_P_call rfl (Nat.le_of_ble_eq_true rfl) (Nat.le_of_ble_eq_true rfl) rfl hR trivial ?_
  refine jm_P_eq (x := (919, [some (jm_r 62 0), some (jm_r 7 0), some (jm_r 8 0), some (jm_r 58 0), some (jm_i i), none, none], [jm_i v2, jm_i v1], h2)) rfl ?_
  refine jm_P_n 1 (x1 := (if v1 = v2 then 1178 else 920, [some (jm_r 62 0), some (jm_r 7 0), some (jm_r 8 0), some (jm_r 58 0), some (jm_i i), none, none], [], h2)) rfl ?_
  refine jm_P_ite (fun hc => ?_) (fun hc => ?_)
  · replace H := H.1 hc
    exact jm_P_refl H
  · replace H := H.2 hc
    exact H.elim
set_option maxRecDepth 100000 in
theorem wl_38 {L : Nat} {xs : Nat → Int32} {i : Int32} {h : jm_H} {x' : jm_S} (H :
  jm_in (i + 1) L ∧
  ∃ (v1 : Int32) (h1 : jm_H), m_FR_change (xs ((i + 1).toNatClampNeg)) h v1 h1 ∧
  jm_in (i + 1) L ∧
  ∃ (v2 : Int32) (h2 : jm_H), m_M_change (xs ((i + 1).toNatClampNeg)) h1 v2 h2 ∧
  (v1 = v2 →
    x' = (1178, [some (jm_r 62 0), some (jm_r 7 0), some (jm_r 8 0), some (jm_r 58 0), some (jm_i i), none, none], [], h2)) ∧
  (¬ (v1 = v2) →
    False)) : jm_P (cod_law L xs) (922, [some (jm_r 62 0), some (jm_r 7 0), some (jm_r 8 0), some (jm_r 58 0), some (jm_i i), none, none], [], h) x' := by
  refine jm_P_n 5 (x1 := (927, [some (jm_r 62 0), some (jm_r 7 0), some (jm_r 8 0), some (jm_r 58 0), some (jm_i i), none, none], [jm_i (i + 1), jm_r 62 0, jm_r 7 0], h)) rfl ?_
  refine jm_P_xld rfl H.1 ?_
  replace H := H.2
  refine jm_P_eq (x := (928, [some (jm_r 62 0), some (jm_r 7 0), some (jm_r 8 0), some (jm_r 58 0), some (jm_i i), none, none], [jm_i (xs ((i + 1).toNatClampNeg)), jm_r 7 0], h)) rfl ?_
  obtain ⟨v1, h1, hR, H⟩ := H
  refine jm_P_call rfl (Nat.le_of_ble_eq_true rfl) (Nat.le_of_ble_eq_true rfl) rfl hR trivial ?_
  refine jm_P_eq (x := (929, [some (jm_r 62 0), some (jm_r 7 0), some (jm_r 8 0), some (jm_r 58 0), some (jm_i i), none, none], [jm_i v1], h1)) rfl ?_
  refine jm_P_n 5 (x1 := (934, [some (jm_r 62 0), some (jm_r 7 0), some (jm_r 8 0), some (jm_r 58 0), some (jm_i i), none, none], [jm_i (i + 1), jm_r 62 0, jm_r 8 0, jm_i v1], h1)) rfl ?_
  refine jm_P_xld rfl H.1 ?_
  replace H := H.2
  refine jm_P_eq (x := (935, [some (jm_r 62 0), some (jm_r 7 0), some (jm_r 8 0), some (jm_r 58 0), some (jm_i i), none, none], [jm_i (xs ((i + 1).toNatClampNeg)), jm_r 8 0, jm_i v1], h1)) rfl ?_
  obtain ⟨v2, h2, hR, H⟩ := H
  refine jm_P_call rfl (Nat.le_of_ble_eq_true rfl) (Nat.le_of_ble_eq_true rfl) rfl hR trivial ?_
  refine jm_P_eq (x := (936, [some (jm_r 62 0), some (jm_r 7 0), some (jm_r 8 0), some (jm_r 58 0), some (jm_i i), none, none], [jm_i v2, jm_i v1], h2)) rfl ?_
  refine jm_P_n 1 (x1 := (if v1 = v2 then 1178 else 937, [some (jm_r 62 0), some (jm_r 7 0), some (jm_r 8 0), some (jm_r 58 0), some (jm_i i), none, none], [], h2)) rfl ?_
  refine jm_P_ite (fun hc => ?_) (fun hc => ?_)
  · replace H := H.1 hc
    exact jm_P_refl H
  · replace H := H.2 hc
    exact H.elim
set_option maxRecDepth 100000 in
theorem wl_39 {L : Nat} {xs : Nat → Int32} {i : Int32} {h : jm_H} {x' : jm_S} (H :
  ∃ (v1 : Int32) (h1 : jm_H), m_FR_keep h v1 h1 ∧
  ∃ (v2 : Int32) (h2 : jm_H), m_M_keep h1 v2 h2 ∧
  (v1 = v2 →
    x' = (1178, [some (jm_r 62 0), some (jm_r 7 0), some (jm_r 8 0), some (jm_r 58 0), some (jm_i i), none, none], [], h2)) ∧
  (¬ (v1 = v2) →
    False)) : jm_P (cod_law L xs) (939, [some (jm_r 62 0), some (jm_r 7 0), some (jm_r 8 0), some (jm_r 58 0), some (jm_i i), none, none], [], h) x' := by
  refine jm_P_n 1 (x1 := (940, [some (jm_r 62 0), some (jm_r 7 0), some (jm_r 8 0), some (jm_r 58 0), some (jm_i i), none, none], [jm_r 7 0], h)) rfl ?_
  obtain ⟨v1, h1, hR, H⟩ := H
  refine jm_P_call rfl (Nat.le_of_ble_eq_true rfl) (Nat.le_of_ble_eq_true rfl) rfl hR trivial ?_
  refine jm_P_eq (x := (941, [some (jm_r 62 0), some (jm_r 7 0), some (jm_r 8 0), some (jm_r 58 0), some (jm_i i), none, none], [jm_i v1], h1)) rfl ?_
  refine jm_P_n 1 (x1 := (942, [some (jm_r 62 0), some (jm_r 7 0), some (jm_r 8 0), some (jm_r 58 0), some (jm_i i), none, none], [jm_r 8 0, jm_i v1], h1)) rfl ?_
  obtain ⟨v2, h2, hR, H⟩ := H
  refine jm_P_call rfl (Nat.le_of_ble_eq_true rfl) (Nat.le_of_ble_eq_true rfl) rfl hR trivial ?_
  refine jm_P_eq (x := (943, [some (jm_r 62 0), some (jm_r 7 0), some (jm_r 8 0), some (jm_r 58 0), some (jm_i i), none, none], [jm_i v2, jm_i v1], h2)) rfl ?_
  refine jm_P_n 1 (x1 := (if v1 = v2 then 1178 else 944, [some (jm_r 62 0), some (jm_r 7 0), some (jm_r 8 0), some (jm_r 58 0), some (jm_i i), none, none], [], h2)) rfl ?_
  refine jm_P_ite (fun hc => ?_) (fun hc => ?_)
  · replace H := H.1 hc
    exact jm_P_refl H
  · replace H := H.2 hc
    exact H.elim
set_option maxRecDepth 100000 in
theorem wl_40 {L : Nat} {xs : Nat → Int32} {i : Int32} {h : jm_H} {x' : jm_S} (H :
  ∃ (v1 : Int32) (h1 : jm_H), m_FR_back h v1 h1 ∧
  ∃ (v2 : Int32) (h2 : jm_H), m_M_back h1 v2 h2 ∧
  (v1 = v2 →
    x' = (1178, [some (jm_r 62 0), some (jm_r 7 0), some (jm_r 8 0), some (jm_r 58 0), some (jm_i i), none, none], [], h2)) ∧
  (¬ (v1 = v2) →
    False)) : jm_P (cod_law L xs) (946, [some (jm_r 62 0), some (jm_r 7 0), some (jm_r 8 0), some (jm_r 58 0), some (jm_i i), none, none], [], h) x' := by
  refine jm_P_n 1 (x1 := (947, [some (jm_r 62 0), some (jm_r 7 0), some (jm_r 8 0), some (jm_r 58 0), some (jm_i i), none, none], [jm_r 7 0], h)) rfl ?_
  obtain ⟨v1, h1, hR, H⟩ := H
  refine jm_P_call rfl (Nat.le_of_ble_eq_true rfl) (Nat.le_of_ble_eq_true rfl) rfl hR trivial ?_
  refine jm_P_eq (x := (948, [some (jm_r 62 0), some (jm_r 7 0), some (jm_r 8 0), some (jm_r 58 0), some (jm_i i), none, none], [jm_i v1], h1)) rfl ?_
  refine jm_P_n 1 (x1 := (949, [some (jm_r 62 0), some (jm_r 7 0), some (jm_r 8 0), some (jm_r 58 0), some (jm_i i), none, none], [jm_r 8 0, jm_i v1], h1)) rfl ?_
  obtain ⟨v2, h2, hR, H⟩ := H
  refine jm_P_call rfl (Nat.le_of_ble_eq_true rfl) (Nat.le_of_ble_eq_true rfl) rfl hR trivial ?_
  refine jm_P_eq (x := (950, [some (jm_r 62 0), some (jm_r 7 0), some (jm_r 8 0), some (jm_r 58 0), some (jm_i i), none, none], [jm_i v2, jm_i v1], h2)) rfl ?_
  refine jm_P_n 1 (x1 := (if v1 = v2 then 1178 else 951, [some (jm_r 62 0), some (jm_r 7 0), some (jm_r 8 0), some (jm_r 58 0), some (jm_i i), none, none], [], h2)) rfl ?_
  refine jm_P_ite (fun hc => ?_) (fun hc => ?_)
  · replace H := H.1 hc
    exact jm_P_refl H
  · replace H := H.2 hc
    exact H.elim
set_option maxRecDepth 100000 in
theorem wl_41 {L : Nat} {xs : Nat → Int32} {i : Int32} {h : jm_H} {x' : jm_S} (H :
  jm_in (i + 1) L ∧
  jm_in (i + 2) L ∧
  jm_in (i + 3) L ∧
  ∃ (v1 : Int32) (h1 : jm_H), m_FR_recost (xs ((i + 1).toNatClampNeg)) (xs ((i + 2).toNatClampNeg)) (xs ((i + 3).toNatClampNeg)) h v1 h1 ∧
  jm_in (i + 1) L ∧
  jm_in (i + 2) L ∧
  jm_in (i + 3) L ∧
  ∃ (v2 : Int32) (h2 : jm_H), m_M_recost (xs ((i + 1).toNatClampNeg)) (xs ((i + 2).toNatClampNeg)) (xs ((i + 3).toNatClampNeg)) h1 v2 h2 ∧
  (v1 = v2 →
    x' = (1178, [some (jm_r 62 0), some (jm_r 7 0), some (jm_r 8 0), some (jm_r 58 0), some (jm_i i), none, none], [], h2)) ∧
  (¬ (v1 = v2) →
    False)) : jm_P (cod_law L xs) (953, [some (jm_r 62 0), some (jm_r 7 0), some (jm_r 8 0), some (jm_r 58 0), some (jm_i i), none, none], [], h) x' := by
  refine jm_P_n 5 (x1 := (958, [some (jm_r 62 0), some (jm_r 7 0), some (jm_r 8 0), some (jm_r 58 0), some (jm_i i), none, none], [jm_i (i + 1), jm_r 62 0, jm_r 7 0], h)) rfl ?_
  refine jm_P_xld rfl H.1 ?_
  replace H := H.2
  refine jm_P_eq (x := (959, [some (jm_r 62 0), some (jm_r 7 0), some (jm_r 8 0), some (jm_r 58 0), some (jm_i i), none, none], [jm_i (xs ((i + 1).toNatClampNeg)), jm_r 7 0], h)) rfl ?_
  refine jm_P_n 4 (x1 := (963, [some (jm_r 62 0), some (jm_r 7 0), some (jm_r 8 0), some (jm_r 58 0), some (jm_i i), none, none], [jm_i (i + 2), jm_r 62 0, jm_i (xs ((i + 1).toNatClampNeg)), jm_r 7 0], h)) rfl ?_
  refine jm_P_xld rfl H.1 ?_
  replace H := H.2
  refine jm_P_eq (x := (964, [some (jm_r 62 0), some (jm_r 7 0), some (jm_r 8 0), some (jm_r 58 0), some (jm_i i), none, none], [jm_i (xs ((i + 2).toNatClampNeg)), jm_i (xs ((i + 1).toNatClampNeg)), jm_r 7 0], h)) rfl ?_
  refine jm_P_n 4 (x1 := (968, [some (jm_r 62 0), some (jm_r 7 0), some (jm_r 8 0), some (jm_r 58 0), some (jm_i i), none, none], [jm_i (i + 3), jm_r 62 0, jm_i (xs ((i + 2).toNatClampNeg)), jm_i (xs ((i + 1).toNatClampNeg)), jm_r 7 0], h)) rfl ?_
  refine jm_P_xld rfl H.1 ?_
  replace H := H.2
  refine jm_P_eq (x := (969, [some (jm_r 62 0), some (jm_r 7 0), some (jm_r 8 0), some (jm_r 58 0), some (jm_i i), none, none], [jm_i (xs ((i + 3).toNatClampNeg)), jm_i (xs ((i + 2).toNatClampNeg)), jm_i (xs ((i + 1).toNatClampNeg)), jm_r 7 0], h)) rfl ?_
  obtain ⟨v1, h1, hR, H⟩ := H
  refine jm_P_call rfl (Nat.le_of_ble_eq_true rfl) (Nat.le_of_ble_eq_true rfl) rfl hR trivial ?_
  refine jm_P_eq (x := (970, [some (jm_r 62 0), some (jm_r 7 0), some (jm_r 8 0), some (jm_r 58 0), some (jm_i i), none, none], [jm_i v1], h1)) rfl ?_
  refine jm_P_n 5 (x1 := (975, [some (jm_r 62 0), some (jm_r 7 0), some (jm_r 8 0), some (jm_r 58 0), some (jm_i i), none, none], [jm_i (i + 1), jm_r 62 0, jm_r 8 0, jm_i v1], h1)) rfl ?_
  refine jm_P_xld rfl H.1 ?_
  replace H := H.2
  refine jm_P_eq (x := (976, [some (jm_r 62 0), some (jm_r 7 0), some (jm_r 8 0), some (jm_r 58 0), some (jm_i i), none, none], [jm_i (xs ((i + 1).toNatClampNeg)), jm_r 8 0, jm_i v1], h1)) rfl ?_
  refine jm_P_n 4 (x1 := (980, [some (jm_r 62 0), some (jm_r 7 0), some (jm_r 8 0), some (jm_r 58 0), some (jm_i i), none, none], [jm_i (i + 2), jm_r 62 0, jm_i (xs ((i + 1).toNatClampNeg)), jm_r 8 0, jm_i v1], h1)) rfl ?_
  refine jm_P_xld rfl H.1 ?_
  replace H := H.2
  refine jm_P_eq (x := (981, [some (jm_r 62 0), some (jm_r 7 0), some (jm_r 8 0), some (jm_r 58 0), some (jm_i i), none, none], [jm_i (xs ((i + 2).toNatClampNeg)), jm_i (xs ((i + 1).toNatClampNeg)), jm_r 8 0, jm_i v1], h1)) rfl ?_
  refine jm_P_n 4 (x1 := (985, [some (jm_r 62 0), some (jm_r 7 0), some (jm_r 8 0), some (jm_r 58 0), some (jm_i i), none, none], [jm_i (i + 3), jm_r 62 0, jm_i (xs ((i + 2).toNatClampNeg)), jm_i (xs ((i + 1).toNatClampNeg)), jm_r 8 0, jm_i v1], h1)) rfl ?_
  refine jm_P_xld rfl H.1 ?_
  replace H := H.2
  refine jm_P_eq (x := (986, [some (jm_r 62 0), some (jm_r 7 0), some (jm_r 8 0), some (jm_r 58 0), some (jm_i i), none, none], [jm_i (xs ((i + 3).toNatClampNeg)), jm_i (xs ((i + 2).toNatClampNeg)), jm_i (xs ((i + 1).toNatClampNeg)), jm_r 8 0, jm_i v1], h1)) rfl ?_
  obtain ⟨v2, h2, hR, H⟩ := H
  refine jm_P_call rfl (Nat.le_of_ble_eq_true rfl) (Nat.le_of_ble_eq_true rfl) rfl hR trivial ?_
  refine jm_P_eq (x := (987, [some (jm_r 62 0), some (jm_r 7 0), some (jm_r 8 0), some (jm_r 58 0), some (jm_i i), none, none], [jm_i v2, jm_i v1], h2)) rfl ?_
  refine jm_P_n 1 (x1 := (if v1 = v2 then 1178 else 988, [some (jm_r 62 0), some (jm_r 7 0), some (jm_r 8 0), some (jm_r 58 0), some (jm_i i), none, none], [], h2)) rfl ?_
  refine jm_P_ite (fun hc => ?_) (fun hc => ?_)
  · replace H := H.1 hc
    exact jm_P_refl H
  · replace H := H.2 hc
    exact H.elim
set_option maxRecDepth 100000 in
theorem wl_42 {L : Nat} {xs : Nat → Int32} {i : Int32} {h : jm_H} {x' : jm_S} (H :
  jm_in (i + 1) L ∧
  jm_in (i + 2) L ∧
  ∃ (v1 : Int32) (h1 : jm_H), m_FR_reframe (xs ((i + 1).toNatClampNeg)) (xs ((i + 2).toNatClampNeg)) h v1 h1 ∧
  jm_in (i + 1) L ∧
  jm_in (i + 2) L ∧
  ∃ (v2 : Int32) (h2 : jm_H), m_M_reframe (xs ((i + 1).toNatClampNeg)) (xs ((i + 2).toNatClampNeg)) h1 v2 h2 ∧
  (v1 = v2 →
    x' = (1178, [some (jm_r 62 0), some (jm_r 7 0), some (jm_r 8 0), some (jm_r 58 0), some (jm_i i), none, none], [], h2)) ∧
  (¬ (v1 = v2) →
    False)) : jm_P (cod_law L xs) (990, [some (jm_r 62 0), some (jm_r 7 0), some (jm_r 8 0), some (jm_r 58 0), some (jm_i i), none, none], [], h) x' := by
  refine jm_P_n 5 (x1 := (995, [some (jm_r 62 0), some (jm_r 7 0), some (jm_r 8 0), some (jm_r 58 0), some (jm_i i), none, none], [jm_i (i + 1), jm_r 62 0, jm_r 7 0], h)) rfl ?_
  refine jm_P_xld rfl H.1 ?_
  replace H := H.2
  refine jm_P_eq (x := (996, [some (jm_r 62 0), some (jm_r 7 0), some (jm_r 8 0), some (jm_r 58 0), some (jm_i i), none, none], [jm_i (xs ((i + 1).toNatClampNeg)), jm_r 7 0], h)) rfl ?_
  refine jm_P_n 4 (x1 := (1000, [some (jm_r 62 0), some (jm_r 7 0), some (jm_r 8 0), some (jm_r 58 0), some (jm_i i), none, none], [jm_i (i + 2), jm_r 62 0, jm_i (xs ((i + 1).toNatClampNeg)), jm_r 7 0], h)) rfl ?_
  refine jm_P_xld rfl H.1 ?_
  replace H := H.2
  refine jm_P_eq (x := (1001, [some (jm_r 62 0), some (jm_r 7 0), some (jm_r 8 0), some (jm_r 58 0), some (jm_i i), none, none], [jm_i (xs ((i + 2).toNatClampNeg)), jm_i (xs ((i + 1).toNatClampNeg)), jm_r 7 0], h)) rfl ?_
  obtain ⟨v1, h1, hR, H⟩ := H
  refine jm_P_call rfl (Nat.le_of_ble_eq_true rfl) (Nat.le_of_ble_eq_true rfl) rfl hR trivial ?_
  refine jm_P_eq (x := (1002, [some (jm_r 62 0), some (jm_r 7 0), some (jm_r 8 0), some (jm_r 58 0), some (jm_i i), none, none], [jm_i v1], h1)) rfl ?_
  refine jm_P_n 5 (x1 := (1007, [some (jm_r 62 0), some (jm_r 7 0), some (jm_r 8 0), some (jm_r 58 0), some (jm_i i), none, none], [jm_i (i + 1), jm_r 62 0, jm_r 8 0, jm_i v1], h1)) rfl ?_
  refine jm_P_xld rfl H.1 ?_
  replace H := H.2
  refine jm_P_eq (x := (1008, [some (jm_r 62 0), some (jm_r 7 0), some (jm_r 8 0), some (jm_r 58 0), some (jm_i i), none, none], [jm_i (xs ((i + 1).toNatClampNeg)), jm_r 8 0, jm_i v1], h1)) rfl ?_
  refine jm_P_n 4 (x1 := (1012, [some (jm_r 62 0), some (jm_r 7 0), some (jm_r 8 0), some (jm_r 58 0), some (jm_i i), none, none], [jm_i (i + 2), jm_r 62 0, jm_i (xs ((i + 1).toNatClampNeg)), jm_r 8 0, jm_i v1], h1)) rfl ?_
  refine jm_P_xld rfl H.1 ?_
  replace H := H.2
  refine jm_P_eq (x := (1013, [some (jm_r 62 0), some (jm_r 7 0), some (jm_r 8 0), some (jm_r 58 0), some (jm_i i), none, none], [jm_i (xs ((i + 2).toNatClampNeg)), jm_i (xs ((i + 1).toNatClampNeg)), jm_r 8 0, jm_i v1], h1)) rfl ?_
  obtain ⟨v2, h2, hR, H⟩ := H
  refine jm_P_call rfl (Nat.le_of_ble_eq_true rfl) (Nat.le_of_ble_eq_true rfl) rfl hR trivial ?_
  refine jm_P_eq (x := (1014, [some (jm_r 62 0), some (jm_r 7 0), some (jm_r 8 0), some (jm_r 58 0), some (jm_i i), none, none], [jm_i v2, jm_i v1], h2)) rfl ?_
  refine jm_P_n 1 (x1 := (if v1 = v2 then 1178 else 1015, [some (jm_r 62 0), some (jm_r 7 0), some (jm_r 8 0), some (jm_r 58 0), some (jm_i i), none, none], [], h2)) rfl ?_
  refine jm_P_ite (fun hc => ?_) (fun hc => ?_)
  · replace H := H.1 hc
    exact jm_P_refl H
  · replace H := H.2 hc
    exact H.elim
set_option maxRecDepth 100000 in
theorem wl_43 {L : Nat} {xs : Nat → Int32} {i : Int32} {h : jm_H} {x' : jm_S} (H :
  jm_in (i + 1) L ∧
  jm_in (i + 2) L ∧
  ∃ (v1 : Int32) (h1 : jm_H), m_FR_reserve (xs ((i + 1).toNatClampNeg)) (xs ((i + 2).toNatClampNeg)) h v1 h1 ∧
  jm_in (i + 1) L ∧
  jm_in (i + 2) L ∧
  ∃ (v2 : Int32) (h2 : jm_H), m_M_reserve (xs ((i + 1).toNatClampNeg)) (xs ((i + 2).toNatClampNeg)) h1 v2 h2 ∧
  (v1 = v2 →
    x' = (1178, [some (jm_r 62 0), some (jm_r 7 0), some (jm_r 8 0), some (jm_r 58 0), some (jm_i i), none, none], [], h2)) ∧
  (¬ (v1 = v2) →
    False)) : jm_P (cod_law L xs) (1017, [some (jm_r 62 0), some (jm_r 7 0), some (jm_r 8 0), some (jm_r 58 0), some (jm_i i), none, none], [], h) x' := by
  refine jm_P_n 5 (x1 := (1022, [some (jm_r 62 0), some (jm_r 7 0), some (jm_r 8 0), some (jm_r 58 0), some (jm_i i), none, none], [jm_i (i + 1), jm_r 62 0, jm_r 7 0], h)) rfl ?_
  refine jm_P_xld rfl H.1 ?_
  replace H := H.2
  refine jm_P_eq (x := (1023, [some (jm_r 62 0), some (jm_r 7 0), some (jm_r 8 0), some (jm_r 58 0), some (jm_i i), none, none], [jm_i (xs ((i + 1).toNatClampNeg)), jm_r 7 0], h)) rfl ?_
  refine jm_P_n 4 (x1 := (1027, [some (jm_r 62 0), some (jm_r 7 0), some (jm_r 8 0), some (jm_r 58 0), some (jm_i i), none, none], [jm_i (i + 2), jm_r 62 0, jm_i (xs ((i + 1).toNatClampNeg)), jm_r 7 0], h)) rfl ?_
  refine jm_P_xld rfl H.1 ?_
  replace H := H.2
  refine jm_P_eq (x := (1028, [some (jm_r 62 0), some (jm_r 7 0), some (jm_r 8 0), some (jm_r 58 0), some (jm_i i), none, none], [jm_i (xs ((i + 2).toNatClampNeg)), jm_i (xs ((i + 1).toNatClampNeg)), jm_r 7 0], h)) rfl ?_
  obtain ⟨v1, h1, hR, H⟩ := H
  refine jm_P_call rfl (Nat.le_of_ble_eq_true rfl) (Nat.le_of_ble_eq_true rfl) rfl hR trivial ?_
  refine jm_P_eq (x := (1029, [some (jm_r 62 0), some (jm_r 7 0), some (jm_r 8 0), some (jm_r 58 0), some (jm_i i), none, none], [jm_i v1], h1)) rfl ?_
  refine jm_P_n 5 (x1 := (1034, [some (jm_r 62 0), some (jm_r 7 0), some (jm_r 8 0), some (jm_r 58 0), some (jm_i i), none, none], [jm_i (i + 1), jm_r 62 0, jm_r 8 0, jm_i v1], h1)) rfl ?_
  refine jm_P_xld rfl H.1 ?_
  replace H := H.2
  refine jm_P_eq (x := (1035, [some (jm_r 62 0), some (jm_r 7 0), some (jm_r 8 0), some (jm_r 58 0), some (jm_i i), none, none], [jm_i (xs ((i + 1).toNatClampNeg)), jm_r 8 0, jm_i v1], h1)) rfl ?_
  refine jm_P_n 4 (x1 := (1039, [some (jm_r 62 0), some (jm_r 7 0), some (jm_r 8 0), some (jm_r 58 0), some (jm_i i), none, none], [jm_i (i + 2), jm_r 62 0, jm_i (xs ((i + 1).toNatClampNeg)), jm_r 8 0, jm_i v1], h1)) rfl ?_
  refine jm_P_xld rfl H.1 ?_
  replace H := H.2
  refine jm_P_eq (x := (1040, [some (jm_r 62 0), some (jm_r 7 0), some (jm_r 8 0), some (jm_r 58 0), some (jm_i i), none, none], [jm_i (xs ((i + 2).toNatClampNeg)), jm_i (xs ((i + 1).toNatClampNeg)), jm_r 8 0, jm_i v1], h1)) rfl ?_
  obtain ⟨v2, h2, hR, H⟩ := H
  refine jm_P_call rfl (Nat.le_of_ble_eq_true rfl) (Nat.le_of_ble_eq_true rfl) rfl hR trivial ?_
  refine jm_P_eq (x := (1041, [some (jm_r 62 0), some (jm_r 7 0), some (jm_r 8 0), some (jm_r 58 0), some (jm_i i), none, none], [jm_i v2, jm_i v1], h2)) rfl ?_
  refine jm_P_n 1 (x1 := (if v1 = v2 then 1178 else 1042, [some (jm_r 62 0), some (jm_r 7 0), some (jm_r 8 0), some (jm_r 58 0), some (jm_i i), none, none], [], h2)) rfl ?_
  refine jm_P_ite (fun hc => ?_) (fun hc => ?_)
  · replace H := H.1 hc
    exact jm_P_refl H
  · replace H := H.2 hc
    exact H.elim
set_option maxRecDepth 100000 in
theorem wl_44 {L : Nat} {xs : Nat → Int32} {i : Int32} {h : jm_H} {x' : jm_S} (H :
  jm_in (i + 1) L ∧
  jm_in (i + 2) L ∧
  jm_in (i + 3) L ∧
  ∃ (v1 : Int64) (h1 : jm_H), m_FR_ticks (xs ((i + 1).toNatClampNeg)) (xs ((i + 2).toNatClampNeg)) (xs ((i + 3).toNatClampNeg)) h v1 h1 ∧
  jm_in (i + 1) L ∧
  jm_in (i + 2) L ∧
  jm_in (i + 3) L ∧
  ∃ (v2 : Int64) (h2 : jm_H), m_M_ticks (xs ((i + 1).toNatClampNeg)) (xs ((i + 2).toNatClampNeg)) (xs ((i + 3).toNatClampNeg)) h1 v2 h2 ∧
  ((lg_cmp v1 v2) = 0 →
    x' = (1178, [some (jm_r 62 0), some (jm_r 7 0), some (jm_r 8 0), some (jm_r 58 0), some (jm_i i), none, none], [], h2)) ∧
  (¬ ((lg_cmp v1 v2) = 0) →
    False)) : jm_P (cod_law L xs) (1044, [some (jm_r 62 0), some (jm_r 7 0), some (jm_r 8 0), some (jm_r 58 0), some (jm_i i), none, none], [], h) x' := by
  refine jm_P_n 5 (x1 := (1049, [some (jm_r 62 0), some (jm_r 7 0), some (jm_r 8 0), some (jm_r 58 0), some (jm_i i), none, none], [jm_i (i + 1), jm_r 62 0, jm_r 7 0], h)) rfl ?_
  refine jm_P_xld rfl H.1 ?_
  replace H := H.2
  refine jm_P_eq (x := (1050, [some (jm_r 62 0), some (jm_r 7 0), some (jm_r 8 0), some (jm_r 58 0), some (jm_i i), none, none], [jm_i (xs ((i + 1).toNatClampNeg)), jm_r 7 0], h)) rfl ?_
  refine jm_P_n 4 (x1 := (1054, [some (jm_r 62 0), some (jm_r 7 0), some (jm_r 8 0), some (jm_r 58 0), some (jm_i i), none, none], [jm_i (i + 2), jm_r 62 0, jm_i (xs ((i + 1).toNatClampNeg)), jm_r 7 0], h)) rfl ?_
  refine jm_P_xld rfl H.1 ?_
  replace H := H.2
  refine jm_P_eq (x := (1055, [some (jm_r 62 0), some (jm_r 7 0), some (jm_r 8 0), some (jm_r 58 0), some (jm_i i), none, none], [jm_i (xs ((i + 2).toNatClampNeg)), jm_i (xs ((i + 1).toNatClampNeg)), jm_r 7 0], h)) rfl ?_
  refine jm_P_n 4 (x1 := (1059, [some (jm_r 62 0), some (jm_r 7 0), some (jm_r 8 0), some (jm_r 58 0), some (jm_i i), none, none], [jm_i (i + 3), jm_r 62 0, jm_i (xs ((i + 2).toNatClampNeg)), jm_i (xs ((i + 1).toNatClampNeg)), jm_r 7 0], h)) rfl ?_
  refine jm_P_xld rfl H.1 ?_
  replace H := H.2
  refine jm_P_eq (x := (1060, [some (jm_r 62 0), some (jm_r 7 0), some (jm_r 8 0), some (jm_r 58 0), some (jm_i i), none, none], [jm_i (xs ((i + 3).toNatClampNeg)), jm_i (xs ((i + 2).toNatClampNeg)), jm_i (xs ((i + 1).toNatClampNeg)), jm_r 7 0], h)) rfl ?_
  obtain ⟨v1, h1, hR, H⟩ := H
  refine jm_P_call rfl (Nat.le_of_ble_eq_true rfl) (Nat.le_of_ble_eq_true rfl) rfl hR trivial ?_
  refine jm_P_eq (x := (1061, [some (jm_r 62 0), some (jm_r 7 0), some (jm_r 8 0), some (jm_r 58 0), some (jm_i i), none, none], [.inl (.long v1)], h1)) rfl ?_
  refine jm_P_n 5 (x1 := (1066, [some (jm_r 62 0), some (jm_r 7 0), some (jm_r 8 0), some (jm_r 58 0), some (jm_i i), none, none], [jm_i (i + 1), jm_r 62 0, jm_r 8 0, .inl (.long v1)], h1)) rfl ?_
  refine jm_P_xld rfl H.1 ?_
  replace H := H.2
  refine jm_P_eq (x := (1067, [some (jm_r 62 0), some (jm_r 7 0), some (jm_r 8 0), some (jm_r 58 0), some (jm_i i), none, none], [jm_i (xs ((i + 1).toNatClampNeg)), jm_r 8 0, .inl (.long v1)], h1)) rfl ?_
  refine jm_P_n 4 (x1 := (1071, [some (jm_r 62 0), some (jm_r 7 0), some (jm_r 8 0), some (jm_r 58 0), some (jm_i i), none, none], [jm_i (i + 2), jm_r 62 0, jm_i (xs ((i + 1).toNatClampNeg)), jm_r 8 0, .inl (.long v1)], h1)) rfl ?_
  refine jm_P_xld rfl H.1 ?_
  replace H := H.2
  refine jm_P_eq (x := (1072, [some (jm_r 62 0), some (jm_r 7 0), some (jm_r 8 0), some (jm_r 58 0), some (jm_i i), none, none], [jm_i (xs ((i + 2).toNatClampNeg)), jm_i (xs ((i + 1).toNatClampNeg)), jm_r 8 0, .inl (.long v1)], h1)) rfl ?_
  refine jm_P_n 4 (x1 := (1076, [some (jm_r 62 0), some (jm_r 7 0), some (jm_r 8 0), some (jm_r 58 0), some (jm_i i), none, none], [jm_i (i + 3), jm_r 62 0, jm_i (xs ((i + 2).toNatClampNeg)), jm_i (xs ((i + 1).toNatClampNeg)), jm_r 8 0, .inl (.long v1)], h1)) rfl ?_
  refine jm_P_xld rfl H.1 ?_
  replace H := H.2
  refine jm_P_eq (x := (1077, [some (jm_r 62 0), some (jm_r 7 0), some (jm_r 8 0), some (jm_r 58 0), some (jm_i i), none, none], [jm_i (xs ((i + 3).toNatClampNeg)), jm_i (xs ((i + 2).toNatClampNeg)), jm_i (xs ((i + 1).toNatClampNeg)), jm_r 8 0, .inl (.long v1)], h1)) rfl ?_
  obtain ⟨v2, h2, hR, H⟩ := H
  refine jm_P_call rfl (Nat.le_of_ble_eq_true rfl) (Nat.le_of_ble_eq_true rfl) rfl hR trivial ?_
  refine jm_P_eq (x := (1078, [some (jm_r 62 0), some (jm_r 7 0), some (jm_r 8 0), some (jm_r 58 0), some (jm_i i), none, none], [.inl (.long v2), .inl (.long v1)], h2)) rfl ?_
  refine jm_P_n 2 (x1 := (if (lg_cmp v1 v2) = 0 then 1178 else 1080, [some (jm_r 62 0), some (jm_r 7 0), some (jm_r 8 0), some (jm_r 58 0), some (jm_i i), none, none], [], h2)) rfl ?_
  refine jm_P_ite (fun hc => ?_) (fun hc => ?_)
  · replace H := H.1 hc
    exact jm_P_refl H
  · replace H := H.2 hc
    exact H.elim
set_option maxRecDepth 100000 in
theorem wl_45 {L : Nat} {xs : Nat → Int32} {i : Int32} {h : jm_H} {x' : jm_S} (H :
  jm_in (i + 1) L ∧
  jm_in (i + 2) L ∧
  jm_in (i + 3) L ∧
  ∃ (v1 : Int32) (h1 : jm_H), m_FR_astray (xs ((i + 1).toNatClampNeg)) (xs ((i + 2).toNatClampNeg)) (xs ((i + 3).toNatClampNeg)) h v1 h1 ∧
  jm_in (i + 1) L ∧
  jm_in (i + 2) L ∧
  jm_in (i + 3) L ∧
  ∃ (v2 : Int32) (h2 : jm_H), m_M_astray (xs ((i + 1).toNatClampNeg)) (xs ((i + 2).toNatClampNeg)) (xs ((i + 3).toNatClampNeg)) h1 v2 h2 ∧
  (v1 = v2 →
    x' = (1178, [some (jm_r 62 0), some (jm_r 7 0), some (jm_r 8 0), some (jm_r 58 0), some (jm_i i), none, none], [], h2)) ∧
  (¬ (v1 = v2) →
    False)) : jm_P (cod_law L xs) (1082, [some (jm_r 62 0), some (jm_r 7 0), some (jm_r 8 0), some (jm_r 58 0), some (jm_i i), none, none], [], h) x' := by
  refine jm_P_n 5 (x1 := (1087, [some (jm_r 62 0), some (jm_r 7 0), some (jm_r 8 0), some (jm_r 58 0), some (jm_i i), none, none], [jm_i (i + 1), jm_r 62 0, jm_r 7 0], h)) rfl ?_
  refine jm_P_xld rfl H.1 ?_
  replace H := H.2
  refine jm_P_eq (x := (1088, [some (jm_r 62 0), some (jm_r 7 0), some (jm_r 8 0), some (jm_r 58 0), some (jm_i i), none, none], [jm_i (xs ((i + 1).toNatClampNeg)), jm_r 7 0], h)) rfl ?_
  refine jm_P_n 4 (x1 := (1092, [some (jm_r 62 0), some (jm_r 7 0), some (jm_r 8 0), some (jm_r 58 0), some (jm_i i), none, none], [jm_i (i + 2), jm_r 62 0, jm_i (xs ((i + 1).toNatClampNeg)), jm_r 7 0], h)) rfl ?_
  refine jm_P_xld rfl H.1 ?_
  replace H := H.2
  refine jm_P_eq (x := (1093, [some (jm_r 62 0), some (jm_r 7 0), some (jm_r 8 0), some (jm_r 58 0), some (jm_i i), none, none], [jm_i (xs ((i + 2).toNatClampNeg)), jm_i (xs ((i + 1).toNatClampNeg)), jm_r 7 0], h)) rfl ?_
  refine jm_P_n 4 (x1 := (1097, [some (jm_r 62 0), some (jm_r 7 0), some (jm_r 8 0), some (jm_r 58 0), some (jm_i i), none, none], [jm_i (i + 3), jm_r 62 0, jm_i (xs ((i + 2).toNatClampNeg)), jm_i (xs ((i + 1).toNatClampNeg)), jm_r 7 0], h)) rfl ?_
  refine jm_P_xld rfl H.1 ?_
  replace H := H.2
  refine jm_P_eq (x := (1098, [some (jm_r 62 0), some (jm_r 7 0), some (jm_r 8 0), some (jm_r 58 0), some (jm_i i), none, none], [jm_i (xs ((i + 3).toNatClampNeg)), jm_i (xs ((i + 2).toNatClampNeg)), jm_i (xs ((i + 1).toNatClampNeg)), jm_r 7 0], h)) rfl ?_
  obtain ⟨v1, h1, hR, H⟩ := H
  refine jm_P_call rfl (Nat.le_of_ble_eq_true rfl) (Nat.le_of_ble_eq_true rfl) rfl hR trivial ?_
  refine jm_P_eq (x := (1099, [some (jm_r 62 0), some (jm_r 7 0), some (jm_r 8 0), some (jm_r 58 0), some (jm_i i), none, none], [jm_i v1], h1)) rfl ?_
  refine jm_P_n 5 (x1 := (1104, [some (jm_r 62 0), some (jm_r 7 0), some (jm_r 8 0), some (jm_r 58 0), some (jm_i i), none, none], [jm_i (i + 1), jm_r 62 0, jm_r 8 0, jm_i v1], h1)) rfl ?_
  refine jm_P_xld rfl H.1 ?_
  replace H := H.2
  refine jm_P_eq (x := (1105, [some (jm_r 62 0), some (jm_r 7 0), some (jm_r 8 0), some (jm_r 58 0), some (jm_i i), none, none], [jm_i (xs ((i + 1).toNatClampNeg)), jm_r 8 0, jm_i v1], h1)) rfl ?_
  refine jm_P_n 4 (x1 := (1109, [some (jm_r 62 0), some (jm_r 7 0), some (jm_r 8 0), some (jm_r 58 0), some (jm_i i), none, none], [jm_i (i + 2), jm_r 62 0, jm_i (xs ((i + 1).toNatClampNeg)), jm_r 8 0, jm_i v1], h1)) rfl ?_
  refine jm_P_xld rfl H.1 ?_
  replace H := H.2
  refine jm_P_eq (x := (1110, [some (jm_r 62 0), some (jm_r 7 0), some (jm_r 8 0), some (jm_r 58 0), some (jm_i i), none, none], [jm_i (xs ((i + 2).toNatClampNeg)), jm_i (xs ((i + 1).toNatClampNeg)), jm_r 8 0, jm_i v1], h1)) rfl ?_
  refine jm_P_n 4 (x1 := (1114, [some (jm_r 62 0), some (jm_r 7 0), some (jm_r 8 0), some (jm_r 58 0), some (jm_i i), none, none], [jm_i (i + 3), jm_r 62 0, jm_i (xs ((i + 2).toNatClampNeg)), jm_i (xs ((i + 1).toNatClampNeg)), jm_r 8 0, jm_i v1], h1)) rfl ?_
  refine jm_P_xld rfl H.1 ?_
  replace H := H.2
  refine jm_P_eq (x := (1115, [some (jm_r 62 0), some (jm_r 7 0), some (jm_r 8 0), some (jm_r 58 0), some (jm_i i), none, none], [jm_i (xs ((i + 3).toNatClampNeg)), jm_i (xs ((i + 2).toNatClampNeg)), jm_i (xs ((i + 1).toNatClampNeg)), jm_r 8 0, jm_i v1], h1)) rfl ?_
  obtain ⟨v2, h2, hR, H⟩ := H
  refine jm_P_call rfl (Nat.le_of_ble_eq_true rfl) (Nat.le_of_ble_eq_true rfl) rfl hR trivial ?_
  refine jm_P_eq (x := (1116, [some (jm_r 62 0), some (jm_r 7 0), some (jm_r 8 0), some (jm_r 58 0), some (jm_i i), none, none], [jm_i v2, jm_i v1], h2)) rfl ?_
  refine jm_P_n 1 (x1 := (if v1 = v2 then 1178 else 1117, [some (jm_r 62 0), some (jm_r 7 0), some (jm_r 8 0), some (jm_r 58 0), some (jm_i i), none, none], [], h2)) rfl ?_
  refine jm_P_ite (fun hc => ?_) (fun hc => ?_)
  · replace H := H.1 hc
    exact jm_P_refl H
  · replace H := H.2 hc
    exact H.elim
set_option maxRecDepth 100000 in
theorem wl_46 {L : Nat} {xs : Nat → Int32} {i : Int32} {h : jm_H} {x' : jm_S} (H :
  jm_in (i + 1) L ∧
  x' = (1126, [some (jm_r 62 0), some (jm_r 7 0), some (jm_r 8 0), some (jm_r 58 0), some (jm_i i), none, none], [jm_r 58 0, jm_i (xs ((i + 1).toNatClampNeg)), jm_r 7 0], h)) : jm_P (cod_law L xs) (1119, [some (jm_r 62 0), some (jm_r 7 0), some (jm_r 8 0), some (jm_r 58 0), some (jm_i i), none, none], [], h) x' := by
  refine jm_P_n 5 (x1 := (1124, [some (jm_r 62 0), some (jm_r 7 0), some (jm_r 8 0), some (jm_r 58 0), some (jm_i i), none, none], [jm_i (i + 1), jm_r 62 0, jm_r 7 0], h)) rfl ?_
  refine jm_P_xld rfl H.1 ?_
  replace H := H.2
  refine jm_P_eq (x := (1125, [some (jm_r 62 0), some (jm_r 7 0), some (jm_r 8 0), some (jm_r 58 0), some (jm_i i), none, none], [jm_i (xs ((i + 1).toNatClampNeg)), jm_r 7 0], h)) rfl ?_
  refine jm_P_n 1 (x1 := (1126, [some (jm_r 62 0), some (jm_r 7 0), some (jm_r 8 0), some (jm_r 58 0), some (jm_i i), none, none], [jm_r 58 0, jm_i (xs ((i + 1).toNatClampNeg)), jm_r 7 0], h)) rfl ?_
  exact jm_P_refl H
set_option maxRecDepth 100000 in
theorem wl_47 {L : Nat} {xs : Nat → Int32} {i : Int32} {h : jm_H} {x' : jm_S} (H :
  jm_in (i + 1) L ∧
  ∃ (v1 : Int32) (h1 : jm_H), m_FR_size (xs ((i + 1).toNatClampNeg)) h v1 h1 ∧
  jm_in (i + 1) L ∧
  ∃ (v2 : Int32) (h2 : jm_H), m_M_size (xs ((i + 1).toNatClampNeg)) h1 v2 h2 ∧
  (v1 = v2 →
    x' = (1178, [some (jm_r 62 0), some (jm_r 7 0), some (jm_r 8 0), some (jm_r 58 0), some (jm_i i), none, none], [], h2)) ∧
  (¬ (v1 = v2) →
    False)) : jm_P (cod_law L xs) (1154, [some (jm_r 62 0), some (jm_r 7 0), some (jm_r 8 0), some (jm_r 58 0), some (jm_i i), none, none], [], h) x' := by
  refine jm_P_n 5 (x1 := (1159, [some (jm_r 62 0), some (jm_r 7 0), some (jm_r 8 0), some (jm_r 58 0), some (jm_i i), none, none], [jm_i (i + 1), jm_r 62 0, jm_r 7 0], h)) rfl ?_
  refine jm_P_xld rfl H.1 ?_
  replace H := H.2
  refine jm_P_eq (x := (1160, [some (jm_r 62 0), some (jm_r 7 0), some (jm_r 8 0), some (jm_r 58 0), some (jm_i i), none, none], [jm_i (xs ((i + 1).toNatClampNeg)), jm_r 7 0], h)) rfl ?_
  obtain ⟨v1, h1, hR, H⟩ := H
  refine jm_P_call rfl (Nat.le_of_ble_eq_true rfl) (Nat.le_of_ble_eq_true rfl) rfl hR trivial ?_
  refine jm_P_eq (x := (1161, [some (jm_r 62 0), some (jm_r 7 0), some (jm_r 8 0), some (jm_r 58 0), some (jm_i i), none, none], [jm_i v1], h1)) rfl ?_
  refine jm_P_n 5 (x1 := (1166, [some (jm_r 62 0), some (jm_r 7 0), some (jm_r 8 0), some (jm_r 58 0), some (jm_i i), none, none], [jm_i (i + 1), jm_r 62 0, jm_r 8 0, jm_i v1], h1)) rfl ?_
  refine jm_P_xld rfl H.1 ?_
  replace H := H.2
  refine jm_P_eq (x := (1167, [some (jm_r 62 0), some (jm_r 7 0), some (jm_r 8 0), some (jm_r 58 0), some (jm_i i), none, none], [jm_i (xs ((i + 1).toNatClampNeg)), jm_r 8 0, jm_i v1], h1)) rfl ?_
  obtain ⟨v2, h2, hR, H⟩ := H
  refine jm_P_call rfl (Nat.le_of_ble_eq_true rfl) (Nat.le_of_ble_eq_true rfl) rfl hR trivial ?_
  refine jm_P_eq (x := (1168, [some (jm_r 62 0), some (jm_r 7 0), some (jm_r 8 0), some (jm_r 58 0), some (jm_i i), none, none], [jm_i v2, jm_i v1], h2)) rfl ?_
  refine jm_P_n 1 (x1 := (if v1 = v2 then 1178 else 1169, [some (jm_r 62 0), some (jm_r 7 0), some (jm_r 8 0), some (jm_r 58 0), some (jm_i i), none, none], [], h2)) rfl ?_
  refine jm_P_ite (fun hc => ?_) (fun hc => ?_)
  · replace H := H.1 hc
    exact jm_P_refl H
  · replace H := H.2 hc
    exact H.elim
set_option maxRecDepth 100000 in
theorem wl_48 {L : Nat} {xs : Nat → Int32} {i : Int32} {h : jm_H} {x' : jm_S} (H :
  ∃ (v1 : Int32) (h1 : jm_H), m_FR_trouble h v1 h1 ∧
  ∃ (v2 : Int32) (h2 : jm_H), m_M_trouble h1 v2 h2 ∧
  (v1 = v2 →
    x' = (1178, [some (jm_r 62 0), some (jm_r 7 0), some (jm_r 8 0), some (jm_r 58 0), some (jm_i i), none, none], [], h2)) ∧
  (¬ (v1 = v2) →
    False)) : jm_P (cod_law L xs) (1171, [some (jm_r 62 0), some (jm_r 7 0), some (jm_r 8 0), some (jm_r 58 0), some (jm_i i), none, none], [], h) x' := by
  refine jm_P_n 1 (x1 := (1172, [some (jm_r 62 0), some (jm_r 7 0), some (jm_r 8 0), some (jm_r 58 0), some (jm_i i), none, none], [jm_r 7 0], h)) rfl ?_
  obtain ⟨v1, h1, hR, H⟩ := H
  refine jm_P_call rfl (Nat.le_of_ble_eq_true rfl) (Nat.le_of_ble_eq_true rfl) rfl hR trivial ?_
  refine jm_P_eq (x := (1173, [some (jm_r 62 0), some (jm_r 7 0), some (jm_r 8 0), some (jm_r 58 0), some (jm_i i), none, none], [jm_i v1], h1)) rfl ?_
  refine jm_P_n 1 (x1 := (1174, [some (jm_r 62 0), some (jm_r 7 0), some (jm_r 8 0), some (jm_r 58 0), some (jm_i i), none, none], [jm_r 8 0, jm_i v1], h1)) rfl ?_
  obtain ⟨v2, h2, hR, H⟩ := H
  refine jm_P_call rfl (Nat.le_of_ble_eq_true rfl) (Nat.le_of_ble_eq_true rfl) rfl hR trivial ?_
  refine jm_P_eq (x := (1175, [some (jm_r 62 0), some (jm_r 7 0), some (jm_r 8 0), some (jm_r 58 0), some (jm_i i), none, none], [jm_i v2, jm_i v1], h2)) rfl ?_
  refine jm_P_n 1 (x1 := (if v1 = v2 then 1178 else 1176, [some (jm_r 62 0), some (jm_r 7 0), some (jm_r 8 0), some (jm_r 58 0), some (jm_i i), none, none], [], h2)) rfl ?_
  refine jm_P_ite (fun hc => ?_) (fun hc => ?_)
  · replace H := H.1 hc
    exact jm_P_refl H
  · replace H := H.2 hc
    exact H.elim
set_option maxRecDepth 100000 in
theorem wl_dflt {L : Nat} {xs : Nat → Int32} {i : Int32} {h : jm_H} {x' : jm_S} (H :
  x' = (13, [some (jm_r 62 0), some (jm_r 7 0), some (jm_r 8 0), some (jm_r 58 0), some (jm_i (i + 6)), none, none], [], h)) : jm_P (cod_law L xs) (1178, [some (jm_r 62 0), some (jm_r 7 0), some (jm_r 8 0), some (jm_r 58 0), some (jm_i i), none, none], [], h) x' := by
  refine jm_P_n 2 (x1 := (13, [some (jm_r 62 0), some (jm_r 7 0), some (jm_r 8 0), some (jm_r 58 0), some (jm_i (i + 6)), none, none], [], h)) rfl ?_
  exact jm_P_refl H
set_option maxRecDepth 100000 in
theorem wl_idle {L : Nat} {xs : Nat → Int32} {i v : Int32} {h : jm_H} {x' : jm_S} (H :
  jm_in (i + 1) L ∧
  ∃ (v3 : Int32) (h3 : jm_H), m_M_idle (xs ((i + 1).toNatClampNeg)) h v3 h3 ∧
  ∃ (v4 : Int32) (h4 : jm_H), m_M_thrown h3 v4 h4 ∧
  (v4 = v →
    (v = 0 →
      ((lg_cmp h4.2.2 v3.toInt64) = 0 →
        x' = (1178, [some (jm_r 62 0), some (jm_r 7 0), some (jm_r 8 0), some (jm_r 58 0), some (jm_i i), some (jm_i v), some (jm_i v3)], [], h4)) ∧
      (¬ ((lg_cmp h4.2.2 v3.toInt64) = 0) →
        False)) ∧
    (¬ (v = 0) →
      x' = (1178, [some (jm_r 62 0), some (jm_r 7 0), some (jm_r 8 0), some (jm_r 58 0), some (jm_i i), some (jm_i v), some (jm_i v3)], [], h4))) ∧
  (¬ (v4 = v) →
    False)) : jm_P (cod_law L xs) (1127, [some (jm_r 62 0), some (jm_r 7 0), some (jm_r 8 0), some (jm_r 58 0), some (jm_i i), none, none], [jm_i v], h) x' := by
  refine jm_P_n 6 (x1 := (1133, [some (jm_r 62 0), some (jm_r 7 0), some (jm_r 8 0), some (jm_r 58 0), some (jm_i i), some (jm_i v), none], [jm_i (i + 1), jm_r 62 0, jm_r 8 0], h)) rfl ?_
  refine jm_P_xld rfl H.1 ?_
  replace H := H.2
  refine jm_P_eq (x := (1134, [some (jm_r 62 0), some (jm_r 7 0), some (jm_r 8 0), some (jm_r 58 0), some (jm_i i), some (jm_i v), none], [jm_i (xs ((i + 1).toNatClampNeg)), jm_r 8 0], h)) rfl ?_
  obtain ⟨v3, h3, hR, H⟩ := H
  refine jm_P_call rfl (Nat.le_of_ble_eq_true rfl) (Nat.le_of_ble_eq_true rfl) rfl hR trivial ?_
  refine jm_P_eq (x := (1135, [some (jm_r 62 0), some (jm_r 7 0), some (jm_r 8 0), some (jm_r 58 0), some (jm_i i), some (jm_i v), none], [jm_i v3], h3)) rfl ?_
  refine jm_P_n 2 (x1 := (1137, [some (jm_r 62 0), some (jm_r 7 0), some (jm_r 8 0), some (jm_r 58 0), some (jm_i i), some (jm_i v), some (jm_i v3)], [jm_r 8 0], h3)) rfl ?_
  obtain ⟨v4, h4, hR, H⟩ := H
  refine jm_P_call rfl (Nat.le_of_ble_eq_true rfl) (Nat.le_of_ble_eq_true rfl) rfl hR trivial ?_
  refine jm_P_eq (x := (1138, [some (jm_r 62 0), some (jm_r 7 0), some (jm_r 8 0), some (jm_r 58 0), some (jm_i i), some (jm_i v), some (jm_i v3)], [jm_i v4], h4)) rfl ?_
  refine jm_P_n 2 (x1 := (if v4 = v then 1142 else 1140, [some (jm_r 62 0), some (jm_r 7 0), some (jm_r 8 0), some (jm_r 58 0), some (jm_i i), some (jm_i v), some (jm_i v3)], [], h4)) rfl ?_
  refine jm_P_ite (fun hc => ?_) (fun hc => ?_)
  · replace H := H.1 hc
    refine jm_P_n 2 (x1 := (if v = 0 then 1144 else 1153, [some (jm_r 62 0), some (jm_r 7 0), some (jm_r 8 0), some (jm_r 58 0), some (jm_i i), some (jm_i v), some (jm_i v3)], [], h4)) rfl ?_
    refine jm_P_ite (fun hc => ?_) (fun hc => ?_)
    · replace H := H.1 hc
      refine jm_P_n 2 (x1 := (1146, [some (jm_r 62 0), some (jm_r 7 0), some (jm_r 8 0), some (jm_r 58 0), some (jm_i i), some (jm_i v), some (jm_i v3)], [jm_i 0, jm_r 58 0], h4)) rfl ?_
      refine jm_P_lald rfl rfl (by decide) ?_
      refine jm_P_eq (x := (1147, [some (jm_r 62 0), some (jm_r 7 0), some (jm_r 8 0), some (jm_r 58 0), some (jm_i i), some (jm_i v), some (jm_i v3)], [.inl (.long h4.2.2)], h4)) rfl ?_
      refine jm_P_n 4 (x1 := (if (lg_cmp h4.2.2 v3.toInt64) = 0 then 1153 else 1151, [some (jm_r 62 0), some (jm_r 7 0), some (jm_r 8 0), some (jm_r 58 0), some (jm_i i), some (jm_i v), some (jm_i v3)], [], h4)) rfl ?_
      refine jm_P_ite (fun hc => ?_) (fun hc => ?_)
      · replace H := H.1 hc
        refine jm_P_n 1 (x1 := (1178, [some (jm_r 62 0), some (jm_r 7 0), some (jm_r 8 0), some (jm_r 58 0), some (jm_i i), some (jm_i v), some (jm_i v3)], [], h4)) rfl ?_
        exact jm_P_refl H
      · replace H := H.2 hc
        exact H.elim
    · replace H := H.2 hc
      refine jm_P_n 1 (x1 := (1178, [some (jm_r 62 0), some (jm_r 7 0), some (jm_r 8 0), some (jm_r 58 0), some (jm_i i), some (jm_i v), some (jm_i v3)], [], h4)) rfl ?_
      exact jm_P_refl H
  · replace H := H.2 hc
    exact H.elim
def jl_cases : List Nat := [25, 82, 99, 106, 113, 140, 177, 214, 232, 259, 286, 313, 340, 367, 384, 411, 438, 455, 482, 499, 516, 533, 550, 587, 624, 651, 678, 705, 722, 749, 776, 803, 830, 847, 864, 871, 888, 905, 922, 939, 946, 953, 990, 1017, 1044, 1082, 1119, 1154, 1171]
set_option maxRecDepth 100000 in
theorem wl_head {L : Nat} {xs : Nat → Int32} {i : Int32} {h : jm_H} {x' : jm_S} (H1 : L.toInt32 - 6 < i → x' = (1180, [some (jm_r 62 0), some (jm_r 7 0), some (jm_r 8 0), some (jm_r 58 0), some (jm_i i), none, none], [], h))
    (H2 : ¬ L.toInt32 - 6 < i → jm_in i L ∧ ((xs i.toNatClampNeg &&& 63).toInt < 0 ∨ 49 ≤ (xs i.toNatClampNeg &&& 63).toInt → jm_P (cod_law L xs) (1178, [some (jm_r 62 0), some (jm_r 7 0), some (jm_r 8 0), some (jm_r 58 0), some (jm_i i), none, none], [], h) x') ∧ ∀ c : Nat, c < 49 → xs i.toNatClampNeg &&& 63 = nI c → jm_P (cod_law L xs) (jl_cases.getD c 0, [some (jm_r 62 0), some (jm_r 7 0), some (jm_r 8 0), some (jm_r 58 0), some (jm_i i), none, none], [], h) x') : jm_P (cod_law L xs) (13, [some (jm_r 62 0), some (jm_r 7 0), some (jm_r 8 0), some (jm_r 58 0), some (jm_i i), none, none], [], h) x' := by
  refine jm_P_n 6 (x1 := (if L.toInt32 - 6 < i then 1180 else 19, [some (jm_r 62 0), some (jm_r 7 0), some (jm_r 8 0), some (jm_r 58 0), some (jm_i i), none, none], [], h)) rfl ?_
  refine jm_P_ite (fun hc => jm_P_refl (H1 hc)) (fun hc => ?_)
  obtain ⟨h1, h2, h3⟩ := H2 hc
  refine jm_P_n 2 (x1 := (21, [some (jm_r 62 0), some (jm_r 7 0), some (jm_r 8 0), some (jm_r 58 0), some (jm_i i), none, none], [jm_i i, jm_r 62 0], h)) rfl ?_
  refine jm_P_xld rfl h1 ?_
  refine jm_P_n 3 (x1 := (if (xs i.toNatClampNeg &&& 63).toInt < 0 ∨ 0 + (jl_cases.length : Nat) ≤ (xs i.toNatClampNeg &&& 63).toInt then 1178 else jl_cases.getD ((xs i.toNatClampNeg &&& 63).toInt - 0).toNat 0, [some (jm_r 62 0), some (jm_r 7 0), some (jm_r 8 0), some (jm_r 58 0), some (jm_i i), none, none], [], h)) rfl ?_
  exact jm_P_tsw49 h2 rfl h3
