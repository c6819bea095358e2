set_option maxRecDepth 100000 in
theorem wp_M_findsJobs_7 {x1 : Int32} {x2 : Int32} {h : jm_H} {r : jm_Rs} (H :
  jm_in x1 6 ∧
  ((h.1 37 0 x1.toNatClampNeg) ≤ x2 →
    r = (none, h)) ∧
  (¬ ((h.1 37 0 x1.toNatClampNeg) ≤ x2) →
    l_M_findsJobs_15 x1 x2 0 h r)) : l_M_findsJobs_7 x1 x2 h r := by
  refine jm_E_n 4 (x' := (11, [some (jm_r 8 0), some (jm_i x1), some (jm_i x2), none, none], [jm_i x1, jm_r 37 0, jm_i x2], h)) rfl ?_
  refine jm_E_iald rfl rfl H.1 ?_
  replace H := H.2
  refine jm_E_eq (x := (12, [some (jm_r 8 0), some (jm_i x1), some (jm_i x2), none, none], [jm_i (h.1 37 0 x1.toNatClampNeg), jm_i x2], h)) rfl ?_
  refine jm_E_n 1 (x' := (if (h.1 37 0 x1.toNatClampNeg) ≤ x2 then 81 else 13, [some (jm_r 8 0), some (jm_i x1), some (jm_i x2), none, none], [], h)) rfl ?_
  refine jm_E_ite (fun hc => ?_) (fun hc => ?_)
  · replace H := H.1 hc
    exact jm_E_ret rfl (by rw [H]; rfl)
  · replace H := H.2 hc
    refine jm_E_n 2 (x' := (15, [some (jm_r 8 0), some (jm_i x1), some (jm_i x2), some (jm_i 0), none], [], h)) rfl ?_
    exact H
set_option maxRecDepth 100000 in
theorem wp_M_findsJobs_15 {x1 : Int32} {x2 : Int32} {x3 : Int32} {h : jm_H} {r : jm_Rs} (H :
  jm_in x1 6 ∧
  ((h.1 36 0 x1.toNatClampNeg) ≤ x3 →
    l_M_findsJobs_7 x1 (x2 + 1) h r) ∧
  (¬ ((h.1 36 0 x1.toNatClampNeg) ≤ x3) →
    jm_in ((6 * x1) + x3) 36 ∧
    (x2 < (h.1 38 0 (((6 * x1) + x3).toNatClampNeg)) →
      l_M_findsJobs_15 x1 x2 (x3 + 1) h r) ∧
    (¬ (x2 < (h.1 38 0 (((6 * x1) + x3).toNatClampNeg))) →
      jm_in ((6 * x1) + x3) 36 ∧
      jm_in ((6 * x1) + x3) 36 ∧
      ¬ (h.1 39 0 (((6 * x1) + x3).toNatClampNeg)) = 0 ∧
      (((x2 - (h.1 38 0 (((6 * x1) + x3).toNatClampNeg))) - (x2 - (h.1 38 0 (((6 * x1) + x3).toNatClampNeg))) / (h.1 39 0 (((6 * x1) + x3).toNatClampNeg)) * (h.1 39 0 (((6 * x1) + x3).toNatClampNeg))) = 0 →
        jm_in x1 3 ∧
        jm_in ((24 * x1) + (h.1 42 0 x1.toNatClampNeg)) 72 ∧
        jm_in x1 3 ∧
        jm_in ((24 * x1) + (h.1 42 0 x1.toNatClampNeg)) 72 ∧
        jm_in x1 3 ∧
        jm_in x1 3 ∧
        l_M_findsJobs_15 x1 x2 (x3 + 1) (jm_sI (jm_sI (jm_sI h 43 0 (((24 * x1) + (h.1 42 0 x1.toNatClampNeg)).toNatClampNeg) x3) 44 0 (((24 * x1) + (h.1 42 0 x1.toNatClampNeg)).toNatClampNeg) x2) 42 0 x1.toNatClampNeg ((h.1 42 0 x1.toNatClampNeg) + 1)) r) ∧
      (¬ (((x2 - (h.1 38 0 (((6 * x1) + x3).toNatClampNeg))) - (x2 - (h.1 38 0 (((6 * x1) + x3).toNatClampNeg))) / (h.1 39 0 (((6 * x1) + x3).toNatClampNeg)) * (h.1 39 0 (((6 * x1) + x3).toNatClampNeg))) = 0) →
        l_M_findsJobs_15 x1 x2 (x3 + 1) h r)))) : l_M_findsJobs_15 x1 x2 x3 h r := by
  refine jm_E_n 4 (x' := (19, [some (jm_r 8 0), some (jm_i x1), some (jm_i x2), some (jm_i x3), none], [jm_i x1, jm_r 36 0, jm_i x3], h)) rfl ?_
  refine jm_E_iald rfl rfl H.1 ?_
  replace H := H.2
  refine jm_E_eq (x := (20, [some (jm_r 8 0), some (jm_i x1), some (jm_i x2), some (jm_i x3), none], [jm_i (h.1 36 0 x1.toNatClampNeg), jm_i x3], h)) rfl ?_
  refine jm_E_n 1 (x' := (if (h.1 36 0 x1.toNatClampNeg) ≤ x3 then 79 else 21, [some (jm_r 8 0), some (jm_i x1), some (jm_i x2), some (jm_i x3), none], [], h)) rfl ?_
  refine jm_E_ite (fun hc => ?_) (fun hc => ?_)
  · replace H := H.1 hc
    refine jm_E_n 2 (x' := (7, [some (jm_r 8 0), some (jm_i x1), some (jm_i (x2 + 1)), some (jm_i x3), none], [], h)) rfl ?_
    exact jm_E_weak (jm_le_s (jm_le_s (jm_le_s (jm_le_n (jm_le_n jm_le_nil))))) H
  · replace H := H.2 hc
    refine jm_E_n 10 (x' := (31, [some (jm_r 8 0), some (jm_i x1), some (jm_i x2), some (jm_i x3), some (jm_i ((6 * x1) + x3))], [jm_i ((6 * x1) + x3), jm_r 38 0, jm_i x2], h)) rfl ?_
    refine jm_E_iald rfl rfl H.1 ?_
    replace H := H.2
    refine jm_E_eq (x := (32, [some (jm_r 8 0), some (jm_i x1), some (jm_i x2), some (jm_i x3), some (jm_i ((6 * x1) + x3))], [jm_i (h.1 38 0 (((6 * x1) + x3).toNatClampNeg)), jm_i x2], h)) rfl ?_
    refine jm_E_n 1 (x' := (if x2 < (h.1 38 0 (((6 * x1) + x3).toNatClampNeg)) then 77 else 33, [some (jm_r 8 0), some (jm_i x1), some (jm_i x2), some (jm_i x3), some (jm_i ((6 * x1) + x3))], [], h)) rfl ?_
    refine jm_E_ite (fun hc => ?_) (fun hc => ?_)
    · replace H := H.1 hc
      refine jm_E_n 2 (x' := (15, [some (jm_r 8 0), some (jm_i x1), some (jm_i x2), some (jm_i (x3 + 1)), some (jm_i ((6 * x1) + x3))], [], h)) rfl ?_
      exact jm_E_weak (jm_le_s (jm_le_s (jm_le_s (jm_le_s (jm_le_n jm_le_nil))))) H
    · replace H := H.2 hc
      refine jm_E_n 4 (x' := (37, [some (jm_r 8 0), some (jm_i x1), some (jm_i x2), some (jm_i x3), some (jm_i ((6 * x1) + x3))], [jm_i ((6 * x1) + x3), jm_r 38 0, jm_i x2], h)) rfl ?_
      refine jm_E_iald rfl rfl H.1 ?_
      replace H := H.2
      refine jm_E_eq (x := (38, [some (jm_r 8 0), some (jm_i x1), some (jm_i x2), some (jm_i x3), some (jm_i ((6 * x1) + x3))], [jm_i (h.1 38 0 (((6 * x1) + x3).toNatClampNeg)), jm_i x2], h)) rfl ?_
      refine jm_E_n 4 (x' := (42, [some (jm_r 8 0), some (jm_i x1), some (jm_i x2), some (jm_i x3), some (jm_i ((6 * x1) + x3))], [jm_i ((6 * x1) + x3), jm_r 39 0, jm_i (x2 - (h.1 38 0 (((6 * x1) + x3).toNatClampNeg)))], h)) rfl ?_
      refine jm_E_iald rfl rfl H.1 ?_
      replace H := H.2
      refine jm_E_eq (x := (43, [some (jm_r 8 0), some (jm_i x1), some (jm_i x2), some (jm_i x3), some (jm_i ((6 * x1) + x3))], [jm_i (h.1 39 0 (((6 * x1) + x3).toNatClampNeg)), jm_i (x2 - (h.1 38 0 (((6 * x1) + x3).toNatClampNeg)))], h)) rfl ?_
      refine jm_E_irem rfl H.1 ?_
      replace H := H.2
      refine jm_E_eq (x := (44, [some (jm_r 8 0), some (jm_i x1), some (jm_i x2), some (jm_i x3), some (jm_i ((6 * x1) + x3))], [jm_i ((x2 - (h.1 38 0 (((6 * x1) + x3).toNatClampNeg))) - (x2 - (h.1 38 0 (((6 * x1) + x3).toNatClampNeg))) / (h.1 39 0 (((6 * x1) + x3).toNatClampNeg)) * (h.1 39 0 (((6 * x1) + x3).toNatClampNeg)))], h)) rfl ?_
      refine jm_E_n 1 (x' := (if ((x2 - (h.1 38 0 (((6 * x1) + x3).toNatClampNeg))) - (x2 - (h.1 38 0 (((6 * x1) + x3).toNatClampNeg))) / (h.1 39 0 (((6 * x1) + x3).toNatClampNeg)) * (h.1 39 0 (((6 * x1) + x3).toNatClampNeg))) = 0 then 45 else 77, [some (jm_r 8 0), some (jm_i x1), some (jm_i x2), some (jm_i x3), some (jm_i ((6 * x1) + x3))], [], h)) rfl ?_
      refine jm_E_ite (fun hc => ?_) (fun hc => ?_)
      · replace H := H.1 hc
        refine jm_E_n 8 (x' := (53, [some (jm_r 8 0), some (jm_i x1), some (jm_i x2), some (jm_i x3), some (jm_i ((6 * x1) + x3))], [jm_i x1, jm_r 42 0, jm_i (24 * x1), jm_r 43 0], h)) rfl ?_
        refine jm_E_iald rfl rfl H.1 ?_
        replace H := H.2
        refine jm_E_eq (x := (54, [some (jm_r 8 0), some (jm_i x1), some (jm_i x2), some (jm_i x3), some (jm_i ((6 * x1) + x3))], [jm_i (h.1 42 0 x1.toNatClampNeg), jm_i (24 * x1), jm_r 43 0], h)) rfl ?_
        refine jm_E_n 2 (x' := (56, [some (jm_r 8 0), some (jm_i x1), some (jm_i x2), some (jm_i x3), some (jm_i ((6 * x1) + x3))], [jm_i x3, jm_i ((24 * x1) + (h.1 42 0 x1.toNatClampNeg)), jm_r 43 0], h)) rfl ?_
        refine jm_E_iast rfl rfl H.1 ?_
        replace H := H.2
        refine jm_E_eq (x := (57, [some (jm_r 8 0), some (jm_i x1), some (jm_i x2), some (jm_i x3), some (jm_i ((6 * x1) + x3))], [], (jm_sI h 43 0 (((24 * x1) + (h.1 42 0 x1.toNatClampNeg)).toNatClampNeg) x3))) rfl ?_
        refine jm_E_n 8 (x' := (65, [some (jm_r 8 0), some (jm_i x1), some (jm_i x2), some (jm_i x3), some (jm_i ((6 * x1) + x3))], [jm_i x1, jm_r 42 0, jm_i (24 * x1), jm_r 44 0], (jm_sI h 43 0 (((24 * x1) + (h.1 42 0 x1.toNatClampNeg)).toNatClampNeg) x3))) rfl ?_
        refine jm_E_iald rfl rfl H.1 ?_
        replace H := H.2
        refine jm_E_eq (x := (66, [some (jm_r 8 0), some (jm_i x1), some (jm_i x2), some (jm_i x3), some (jm_i ((6 * x1) + x3))], [jm_i (h.1 42 0 x1.toNatClampNeg), jm_i (24 * x1), jm_r 44 0], (jm_sI h 43 0 (((24 * x1) + (h.1 42 0 x1.toNatClampNeg)).toNatClampNeg) x3))) rfl ?_
        refine jm_E_n 2 (x' := (68, [some (jm_r 8 0), some (jm_i x1), some (jm_i x2), some (jm_i x3), some (jm_i ((6 * x1) + x3))], [jm_i x2, jm_i ((24 * x1) + (h.1 42 0 x1.toNatClampNeg)), jm_r 44 0], (jm_sI h 43 0 (((24 * x1) + (h.1 42 0 x1.toNatClampNeg)).toNatClampNeg) x3))) rfl ?_
        refine jm_E_iast rfl rfl H.1 ?_
        replace H := H.2
        refine jm_E_eq (x := (69, [some (jm_r 8 0), some (jm_i x1), some (jm_i x2), some (jm_i x3), some (jm_i ((6 * x1) + x3))], [], (jm_sI (jm_sI h 43 0 (((24 * x1) + (h.1 42 0 x1.toNatClampNeg)).toNatClampNeg) x3) 44 0 (((24 * x1) + (h.1 42 0 x1.toNatClampNeg)).toNatClampNeg) x2))) rfl ?_
        refine jm_E_n 4 (x' := (73, [some (jm_r 8 0), some (jm_i x1), some (jm_i x2), some (jm_i x3), some (jm_i ((6 * x1) + x3))], [jm_i x1, jm_r 42 0, jm_i x1, jm_r 42 0], (jm_sI (jm_sI h 43 0 (((24 * x1) + (h.1 42 0 x1.toNatClampNeg)).toNatClampNeg) x3) 44 0 (((24 * x1) + (h.1 42 0 x1.toNatClampNeg)).toNatClampNeg) x2))) rfl ?_
        refine jm_E_iald rfl rfl H.1 ?_
        replace H := H.2
        refine jm_E_eq (x := (74, [some (jm_r 8 0), some (jm_i x1), some (jm_i x2), some (jm_i x3), some (jm_i ((6 * x1) + x3))], [jm_i (h.1 42 0 x1.toNatClampNeg), jm_i x1, jm_r 42 0], (jm_sI (jm_sI h 43 0 (((24 * x1) + (h.1 42 0 x1.toNatClampNeg)).toNatClampNeg) x3) 44 0 (((24 * x1) + (h.1 42 0 x1.toNatClampNeg)).toNatClampNeg) x2))) rfl ?_
        refine jm_E_n 2 (x' := (76, [some (jm_r 8 0), some (jm_i x1), some (jm_i x2), some (jm_i x3), some (jm_i ((6 * x1) + x3))], [jm_i ((h.1 42 0 x1.toNatClampNeg) + 1), jm_i x1, jm_r 42 0], (jm_sI (jm_sI h 43 0 (((24 * x1) + (h.1 42 0 x1.toNatClampNeg)).toNatClampNeg) x3) 44 0 (((24 * x1) + (h.1 42 0 x1.toNatClampNeg)).toNatClampNeg) x2))) rfl ?_
        refine jm_E_iast rfl rfl H.1 ?_
        replace H := H.2
        refine jm_E_eq (x := (77, [some (jm_r 8 0), some (jm_i x1), some (jm_i x2), some (jm_i x3), some (jm_i ((6 * x1) + x3))], [], (jm_sI (jm_sI (jm_sI h 43 0 (((24 * x1) + (h.1 42 0 x1.toNatClampNeg)).toNatClampNeg) x3) 44 0 (((24 * x1) + (h.1 42 0 x1.toNatClampNeg)).toNatClampNeg) x2) 42 0 x1.toNatClampNeg ((h.1 42 0 x1.toNatClampNeg) + 1)))) rfl ?_
        refine jm_E_n 2 (x' := (15, [some (jm_r 8 0), some (jm_i x1), some (jm_i x2), some (jm_i (x3 + 1)), some (jm_i ((6 * x1) + x3))], [], (jm_sI (jm_sI (jm_sI h 43 0 (((24 * x1) + (h.1 42 0 x1.toNatClampNeg)).toNatClampNeg) x3) 44 0 (((24 * x1) + (h.1 42 0 x1.toNatClampNeg)).toNatClampNeg) x2) 42 0 x1.toNatClampNeg ((h.1 42 0 x1.toNatClampNeg) + 1)))) rfl ?_
        exact jm_E_weak (jm_le_s (jm_le_s (jm_le_s (jm_le_s (jm_le_n jm_le_nil))))) H
      · replace H := H.2 hc
        refine jm_E_n 2 (x' := (15, [some (jm_r 8 0), some (jm_i x1), some (jm_i x2), some (jm_i (x3 + 1)), some (jm_i ((6 * x1) + x3))], [], h)) rfl ?_
        exact jm_E_weak (jm_le_s (jm_le_s (jm_le_s (jm_le_s (jm_le_n jm_le_nil))))) H
set_option maxRecDepth 100000 in
theorem wp_M_findsJobs {a0 : Int32} {h : jm_H} {r : jm_Rs} (H :
  jm_in a0 3 ∧
  l_M_findsJobs_7 a0 0 (jm_sI h 42 0 a0.toNatClampNeg 0) r) : jm_R 105 [jm_r 8 0, jm_i a0] h r := by
  refine jm_R_of hz_105 (Nat.le_of_ble_eq_true rfl) ?_
  show jm_E cod_105 (0, [some (jm_r 8 0), some (jm_i a0), none, none, none], [], h) r
  refine jm_E_n 4 (x' := (4, [some (jm_r 8 0), some (jm_i a0), none, none, none], [jm_i 0, jm_i a0, jm_r 42 0], h)) rfl ?_
  refine jm_E_iast rfl rfl H.1 ?_
  replace H := H.2
  refine jm_E_eq (x := (5, [some (jm_r 8 0), some (jm_i a0), none, none, none], [], (jm_sI h 42 0 a0.toNatClampNeg 0))) rfl ?_
  refine jm_E_n 2 (x' := (7, [some (jm_r 8 0), some (jm_i a0), some (jm_i 0), none, none], [], (jm_sI h 42 0 a0.toNatClampNeg 0))) rfl ?_
  exact H
set_option maxRecDepth 100000 in
theorem wp_M_startsClock_2 {x1 : Int32} {h : jm_H} {r : jm_Rs} (H :
  (28 ≤ x1 →
    l_M_startsClock_32 0 (jm_sI (jm_sI (jm_sI (jm_sI h 56 0 7 (-2)) 56 0 8 (-2)) 56 0 9 (-2)) 8 0 43 0) r) ∧
  (¬ (28 ≤ x1) →
    jm_in x1 28 ∧
    l_M_startsClock_2 (x1 + 1) (jm_sI h 56 0 x1.toNatClampNeg 0) r)) : l_M_startsClock_2 x1 h r := by
  refine jm_E_n 3 (x' := (if 28 ≤ x1 then 12 else 5, [some (jm_r 8 0), some (jm_i x1)], [], h)) rfl ?_
  refine jm_E_ite (fun hc => ?_) (fun hc => ?_)
  · replace H := H.1 hc
    refine jm_E_n 4 (x' := (16, [some (jm_r 8 0), some (jm_i x1)], [jm_i (-2), jm_i 7, jm_r 56 0], h)) rfl ?_
    refine jm_E_iast rfl rfl (by decide) ?_
    refine jm_E_eq (x := (17, [some (jm_r 8 0), some (jm_i x1)], [], (jm_sI h 56 0 7 (-2)))) rfl ?_
    refine jm_E_n 4 (x' := (21, [some (jm_r 8 0), some (jm_i x1)], [jm_i (-2), jm_i 8, jm_r 56 0], (jm_sI h 56 0 7 (-2)))) rfl ?_
    refine jm_E_iast rfl rfl (by decide) ?_
    refine jm_E_eq (x := (22, [some (jm_r 8 0), some (jm_i x1)], [], (jm_sI (jm_sI h 56 0 7 (-2)) 56 0 8 (-2)))) rfl ?_
    refine jm_E_n 4 (x' := (26, [some (jm_r 8 0), some (jm_i x1)], [jm_i (-2), jm_i 9, jm_r 56 0], (jm_sI (jm_sI h 56 0 7 (-2)) 56 0 8 (-2)))) rfl ?_
    refine jm_E_iast rfl rfl (by decide) ?_
    refine jm_E_eq (x := (27, [some (jm_r 8 0), some (jm_i x1)], [], (jm_sI (jm_sI (jm_sI h 56 0 7 (-2)) 56 0 8 (-2)) 56 0 9 (-2)))) rfl ?_
    refine jm_E_n 5 (x' := (32, [some (jm_r 8 0), some (jm_i 0)], [], (jm_sI (jm_sI (jm_sI (jm_sI h 56 0 7 (-2)) 56 0 8 (-2)) 56 0 9 (-2)) 8 0 43 0))) rfl ?_
    exact H
  · replace H := H.2 hc
    refine jm_E_n 4 (x' := (9, [some (jm_r 8 0), some (jm_i x1)], [jm_i 0, jm_i x1, jm_r 56 0], h)) rfl ?_
    refine jm_E_iast rfl rfl H.1 ?_
    replace H := H.2
    refine jm_E_eq (x := (10, [some (jm_r 8 0), some (jm_i x1)], [], (jm_sI h 56 0 x1.toNatClampNeg 0))) rfl ?_
    refine jm_E_n 2 (x' := (2, [some (jm_r 8 0), some (jm_i (x1 + 1))], [], (jm_sI h 56 0 x1.toNatClampNeg 0))) rfl ?_
    exact H
set_option maxRecDepth 100000 in
theorem wp_M_startsClock_32 {x1 : Int32} {h : jm_H} {r : jm_Rs} (H :
  (3 ≤ x1 →
    r = (none, h)) ∧
  (¬ (3 ≤ x1) →
    jm_in x1 3 ∧
    l_M_startsClock_32 (x1 + 1) (jm_sI h 52 0 x1.toNatClampNeg 0) r)) : l_M_startsClock_32 x1 h r := by
  refine jm_E_n 3 (x' := (if 3 ≤ x1 then 42 else 35, [some (jm_r 8 0), some (jm_i x1)], [], h)) rfl ?_
  refine jm_E_ite (fun hc => ?_) (fun hc => ?_)
  · replace H := H.1 hc
    exact jm_E_ret rfl (by rw [H]; rfl)
  · replace H := H.2 hc
    refine jm_E_n 4 (x' := (39, [some (jm_r 8 0), some (jm_i x1)], [jm_i 0, jm_i x1, jm_r 52 0], h)) rfl ?_
    refine jm_E_iast rfl rfl H.1 ?_
    replace H := H.2
    refine jm_E_eq (x := (40, [some (jm_r 8 0), some (jm_i x1)], [], (jm_sI h 52 0 x1.toNatClampNeg 0))) rfl ?_
    refine jm_E_n 2 (x' := (32, [some (jm_r 8 0), some (jm_i (x1 + 1))], [], (jm_sI h 52 0 x1.toNatClampNeg 0))) rfl ?_
    exact H
set_option maxRecDepth 100000 in
theorem wp_M_startsClock  {h : jm_H} {r : jm_Rs} (H :
  l_M_startsClock_2 0 h r) : jm_R 160 [jm_r 8 0] h r := by
  refine jm_R_of hz_160 (Nat.le_of_ble_eq_true rfl) ?_
  show jm_E cod_160 (0, [some (jm_r 8 0), none], [], h) r
  refine jm_E_n 2 (x' := (2, [some (jm_r 8 0), some (jm_i 0)], [], h)) rfl ?_
  exact H
set_option maxRecDepth 100000 in
theorem wp_M_plan_41 {x2 : Int32} {h : jm_H} {r : jm_Rs} (H :
  ((h.1 8 0 6) ≤ x2 →
    ∃ h6 : jm_H, m_M_startsClock h h6 ∧
    r = (some (jm_i (h6.1 8 0 6)), h6)) ∧
  (¬ ((h.1 8 0 6) ≤ x2) →
    jm_in (3 + x2) 6 ∧
    jm_in x2 6 ∧
    jm_in (3 + x2) 6 ∧
    jm_in x2 6 ∧
    jm_in (3 + x2) 6 ∧
    jm_in x2 6 ∧
    jm_in (3 + x2) 6 ∧
    jm_in x2 6 ∧
    l_M_plan_87 x2 0 (jm_sI (jm_sI (jm_sI (jm_sI h 34 0 x2.toNatClampNeg (h.1 34 0 ((3 + x2).toNatClampNeg))) 35 0 x2.toNatClampNeg (h.1 35 0 ((3 + x2).toNatClampNeg))) 36 0 x2.toNatClampNeg (h.1 36 0 ((3 + x2).toNatClampNeg))) 37 0 x2.toNatClampNeg (h.1 37 0 ((3 + x2).toNatClampNeg))) r)) : l_M_plan_41 x2 h r := by
  refine jm_E_n 4 (x' := (if (h.1 8 0 6) ≤ x2 then 143 else 45, [some (jm_r 8 0), none, some (jm_i x2), none, none], [], h)) rfl ?_
  refine jm_E_ite (fun hc => ?_) (fun hc => ?_)
  · replace H := H.1 hc
    refine jm_E_n 1 (x' := (144, [some (jm_r 8 0), none, some (jm_i x2), none, none], [jm_r 8 0], h)) rfl ?_
    obtain ⟨h6, hR, H⟩ := H
    refine jm_E_call rfl (Nat.le_of_ble_eq_true rfl) (Nat.le_of_ble_eq_true rfl) rfl hR trivial ?_
    refine jm_E_eq (x := (145, [some (jm_r 8 0), none, some (jm_i x2), none, none], [], h6)) rfl ?_
    refine jm_E_n 2 (x' := (147, [some (jm_r 8 0), none, some (jm_i x2), none, none], [jm_i (h6.1 8 0 6)], h6)) rfl ?_
    exact jm_E_ret rfl (by rw [H]; rfl)
  · replace H := H.2 hc
    refine jm_E_n 8 (x' := (53, [some (jm_r 8 0), none, some (jm_i x2), none, none], [jm_i (3 + x2), jm_r 34 0, jm_i x2, jm_r 34 0], h)) rfl ?_
    refine jm_E_iald rfl rfl H.1 ?_
    replace H := H.2
    refine jm_E_eq (x := (54, [some (jm_r 8 0), none, some (jm_i x2), none, none], [jm_i (h.1 34 0 ((3 + x2).toNatClampNeg)), jm_i x2, jm_r 34 0], h)) rfl ?_
    refine jm_E_iast rfl rfl H.1 ?_
    replace H := H.2
    refine jm_E_eq (x := (55, [some (jm_r 8 0), none, some (jm_i x2), none, none], [], (jm_sI h 34 0 x2.toNatClampNeg (h.1 34 0 ((3 + x2).toNatClampNeg))))) rfl ?_
    refine jm_E_n 8 (x' := (63, [some (jm_r 8 0), none, some (jm_i x2), none, none], [jm_i (3 + x2), jm_r 35 0, jm_i x2, jm_r 35 0], (jm_sI h 34 0 x2.toNatClampNeg (h.1 34 0 ((3 + x2).toNatClampNeg))))) rfl ?_
    refine jm_E_iald rfl rfl H.1 ?_
    replace H := H.2
    refine jm_E_eq (x := (64, [some (jm_r 8 0), none, some (jm_i x2), none, none], [jm_i (h.1 35 0 ((3 + x2).toNatClampNeg)), jm_i x2, jm_r 35 0], (jm_sI h 34 0 x2.toNatClampNeg (h.1 34 0 ((3 + x2).toNatClampNeg))))) rfl ?_
    refine jm_E_iast rfl rfl H.1 ?_
    replace H := H.2
    refine jm_E_eq (x := (65, [some (jm_r 8 0), none, some (jm_i x2), none, none], [], (jm_sI (jm_sI h 34 0 x2.toNatClampNeg (h.1 34 0 ((3 + x2).toNatClampNeg))) 35 0 x2.toNatClampNeg (h.1 35 0 ((3 + x2).toNatClampNeg))))) rfl ?_
    refine jm_E_n 8 (x' := (73, [some (jm_r 8 0), none, some (jm_i x2), none, none], [jm_i (3 + x2), jm_r 36 0, jm_i x2, jm_r 36 0], (jm_sI (jm_sI h 34 0 x2.toNatClampNeg (h.1 34 0 ((3 + x2).toNatClampNeg))) 35 0 x2.toNatClampNeg (h.1 35 0 ((3 + x2).toNatClampNeg))))) rfl ?_
    refine jm_E_iald rfl rfl H.1 ?_
    replace H := H.2
    refine jm_E_eq (x := (74, [some (jm_r 8 0), none, some (jm_i x2), none, none], [jm_i (h.1 36 0 ((3 + x2).toNatClampNeg)), jm_i x2, jm_r 36 0], (jm_sI (jm_sI h 34 0 x2.toNatClampNeg (h.1 34 0 ((3 + x2).toNatClampNeg))) 35 0 x2.toNatClampNeg (h.1 35 0 ((3 + x2).toNatClampNeg))))) rfl ?_
    refine jm_E_iast rfl rfl H.1 ?_
    replace H := H.2
    refine jm_E_eq (x := (75, [some (jm_r 8 0), none, some (jm_i x2), none, none], [], (jm_sI (jm_sI (jm_sI h 34 0 x2.toNatClampNeg (h.1 34 0 ((3 + x2).toNatClampNeg))) 35 0 x2.toNatClampNeg (h.1 35 0 ((3 + x2).toNatClampNeg))) 36 0 x2.toNatClampNeg (h.1 36 0 ((3 + x2).toNatClampNeg))))) rfl ?_
    refine jm_E_n 8 (x' := (83, [some (jm_r 8 0), none, some (jm_i x2), none, none], [jm_i (3 + x2), jm_r 37 0, jm_i x2, jm_r 37 0], (jm_sI (jm_sI (jm_sI h 34 0 x2.toNatClampNeg (h.1 34 0 ((3 + x2).toNatClampNeg))) 35 0 x2.toNatClampNeg (h.1 35 0 ((3 + x2).toNatClampNeg))) 36 0 x2.toNatClampNeg (h.1 36 0 ((3 + x2).toNatClampNeg))))) rfl ?_
    refine jm_E_iald rfl rfl H.1 ?_
    replace H := H.2
    refine jm_E_eq (x := (84, [some (jm_r 8 0), none, some (jm_i x2), none, none], [jm_i (h.1 37 0 ((3 + x2).toNatClampNeg)), jm_i x2, jm_r 37 0], (jm_sI (jm_sI (jm_sI h 34 0 x2.toNatClampNeg (h.1 34 0 ((3 + x2).toNatClampNeg))) 35 0 x2.toNatClampNeg (h.1 35 0 ((3 + x2).toNatClampNeg))) 36 0 x2.toNatClampNeg (h.1 36 0 ((3 + x2).toNatClampNeg))))) rfl ?_
    refine jm_E_iast rfl rfl H.1 ?_
    replace H := H.2
    refine jm_E_eq (x := (85, [some (jm_r 8 0), none, some (jm_i x2), none, none], [], (jm_sI (jm_sI (jm_sI (jm_sI h 34 0 x2.toNatClampNeg (h.1 34 0 ((3 + x2).toNatClampNeg))) 35 0 x2.toNatClampNeg (h.1 35 0 ((3 + x2).toNatClampNeg))) 36 0 x2.toNatClampNeg (h.1 36 0 ((3 + x2).toNatClampNeg))) 37 0 x2.toNatClampNeg (h.1 37 0 ((3 + x2).toNatClampNeg))))) rfl ?_
    refine jm_E_n 2 (x' := (87, [some (jm_r 8 0), none, some (jm_i x2), some (jm_i 0), none], [], (jm_sI (jm_sI (jm_sI (jm_sI h 34 0 x2.toNatClampNeg (h.1 34 0 ((3 + x2).toNatClampNeg))) 35 0 x2.toNatClampNeg (h.1 35 0 ((3 + x2).toNatClampNeg))) 36 0 x2.toNatClampNeg (h.1 36 0 ((3 + x2).toNatClampNeg))) 37 0 x2.toNatClampNeg (h.1 37 0 ((3 + x2).toNatClampNeg))))) rfl ?_
    exact H
set_option maxRecDepth 100000 in
theorem wp_M_plan_87 {x2 : Int32} {x3 : Int32} {h : jm_H} {r : jm_Rs} (H :
  (6 ≤ x3 →
    ∃ h7 : jm_H, m_M_findsJobs x2 h h7 ∧
    l_M_plan_41 (x2 + 1) h7 r) ∧
  (¬ (6 ≤ x3) →
    jm_in (18 + ((6 * x2) + x3)) 36 ∧
    jm_in ((6 * x2) + x3) 36 ∧
    jm_in (18 + ((6 * x2) + x3)) 36 ∧
    jm_in ((6 * x2) + x3) 36 ∧
    jm_in (18 + ((6 * x2) + x3)) 36 ∧
    jm_in ((6 * x2) + x3) 36 ∧
    jm_in (18 + ((6 * x2) + x3)) 36 ∧
    jm_in ((6 * x2) + x3) 36 ∧
    l_M_plan_87 x2 (x3 + 1) (jm_sI (jm_sI (jm_sI (jm_sI h 38 0 (((6 * x2) + x3).toNatClampNeg) (h.1 38 0 ((18 + ((6 * x2) + x3)).toNatClampNeg))) 39 0 (((6 * x2) + x3).toNatClampNeg) (h.1 39 0 ((18 + ((6 * x2) + x3)).toNatClampNeg))) 40 0 (((6 * x2) + x3).toNatClampNeg) (h.1 40 0 ((18 + ((6 * x2) + x3)).toNatClampNeg))) 41 0 (((6 * x2) + x3).toNatClampNeg) (h.1 41 0 ((18 + ((6 * x2) + x3)).toNatClampNeg))) r)) : l_M_plan_87 x2 x3 h r := by
  refine jm_E_n 3 (x' := (if 6 ≤ x3 then 138 else 90, [some (jm_r 8 0), none, some (jm_i x2), some (jm_i x3), none], [], h)) rfl ?_
  refine jm_E_ite (fun hc => ?_) (fun hc => ?_)
  · replace H := H.1 hc
    refine jm_E_n 2 (x' := (140, [some (jm_r 8 0), none, some (jm_i x2), some (jm_i x3), none], [jm_i x2, jm_r 8 0], h)) rfl ?_
    obtain ⟨h7, hR, H⟩ := H
    refine jm_E_call rfl (Nat.le_of_ble_eq_true rfl) (Nat.le_of_ble_eq_true rfl) rfl hR trivial ?_
    refine jm_E_eq (x := (141, [some (jm_r 8 0), none, some (jm_i x2), some (jm_i x3), none], [], h7)) rfl ?_
    refine jm_E_n 2 (x' := (41, [some (jm_r 8 0), none, some (jm_i (x2 + 1)), some (jm_i x3), none], [], h7)) rfl ?_
    exact jm_E_weak (jm_le_s (jm_le_n (jm_le_s (jm_le_n (jm_le_n jm_le_nil))))) H
  · replace H := H.2 hc
    refine jm_E_n 14 (x' := (104, [some (jm_r 8 0), none, some (jm_i x2), some (jm_i x3), some (jm_i ((6 * x2) + x3))], [jm_i (18 + ((6 * x2) + x3)), jm_r 38 0, jm_i ((6 * x2) + x3), jm_r 38 0], h)) rfl ?_
    refine jm_E_iald rfl rfl H.1 ?_
    replace H := H.2
    refine jm_E_eq (x := (105, [some (jm_r 8 0), none, some (jm_i x2), some (jm_i x3), some (jm_i ((6 * x2) + x3))], [jm_i (h.1 38 0 ((18 + ((6 * x2) + x3)).toNatClampNeg)), jm_i ((6 * x2) + x3), jm_r 38 0], h)) rfl ?_
    refine jm_E_iast rfl rfl H.1 ?_
    replace H := H.2
    refine jm_E_eq (x := (106, [some (jm_r 8 0), none, some (jm_i x2), some (jm_i x3), some (jm_i ((6 * x2) + x3))], [], (jm_sI h 38 0 (((6 * x2) + x3).toNatClampNeg) (h.1 38 0 ((18 + ((6 * x2) + x3)).toNatClampNeg))))) rfl ?_
    refine jm_E_n 8 (x' := (114, [some (jm_r 8 0), none, some (jm_i x2), some (jm_i x3), some (jm_i ((6 * x2) + x3))], [jm_i (18 + ((6 * x2) + x3)), jm_r 39 0, jm_i ((6 * x2) + x3), jm_r 39 0], (jm_sI h 38 0 (((6 * x2) + x3).toNatClampNeg) (h.1 38 0 ((18 + ((6 * x2) + x3)).toNatClampNeg))))) rfl ?_
    refine jm_E_iald rfl rfl H.1 ?_
    replace H := H.2
    refine jm_E_eq (x := (115, [some (jm_r 8 0), none, some (jm_i x2), some (jm_i x3), some (jm_i ((6 * x2) + x3))], [jm_i (h.1 39 0 ((18 + ((6 * x2) + x3)).toNatClampNeg)), jm_i ((6 * x2) + x3), jm_r 39 0], (jm_sI h 38 0 (((6 * x2) + x3).toNatClampNeg) (h.1 38 0 ((18 + ((6 * x2) + x3)).toNatClampNeg))))) rfl ?_
    refine jm_E_iast rfl rfl H.1 ?_
    replace H := H.2
    refine jm_E_eq (x := (116, [some (jm_r 8 0), none, some (jm_i x2), some (jm_i x3), some (jm_i ((6 * x2) + x3))], [], (jm_sI (jm_sI h 38 0 (((6 * x2) + x3).toNatClampNeg) (h.1 38 0 ((18 + ((6 * x2) + x3)).toNatClampNeg))) 39 0 (((6 * x2) + x3).toNatClampNeg) (h.1 39 0 ((18 + ((6 * x2) + x3)).toNatClampNeg))))) rfl ?_
    refine jm_E_n 8 (x' := (124, [some (jm_r 8 0), none, some (jm_i x2), some (jm_i x3), some (jm_i ((6 * x2) + x3))], [jm_i (18 + ((6 * x2) + x3)), jm_r 40 0, jm_i ((6 * x2) + x3), jm_r 40 0], (jm_sI (jm_sI h 38 0 (((6 * x2) + x3).toNatClampNeg) (h.1 38 0 ((18 + ((6 * x2) + x3)).toNatClampNeg))) 39 0 (((6 * x2) + x3).toNatClampNeg) (h.1 39 0 ((18 + ((6 * x2) + x3)).toNatClampNeg))))) rfl ?_
    refine jm_E_iald rfl rfl H.1 ?_
    replace H := H.2
    refine jm_E_eq (x := (125, [some (jm_r 8 0), none, some (jm_i x2), some (jm_i x3), some (jm_i ((6 * x2) + x3))], [jm_i (h.1 40 0 ((18 + ((6 * x2) + x3)).toNatClampNeg)), jm_i ((6 * x2) + x3), jm_r 40 0], (jm_sI (jm_sI h 38 0 (((6 * x2) + x3).toNatClampNeg) (h.1 38 0 ((18 + ((6 * x2) + x3)).toNatClampNeg))) 39 0 (((6 * x2) + x3).toNatClampNeg) (h.1 39 0 ((18 + ((6 * x2) + x3)).toNatClampNeg))))) rfl ?_
    refine jm_E_iast rfl rfl H.1 ?_
    replace H := H.2
    refine jm_E_eq (x := (126, [some (jm_r 8 0), none, some (jm_i x2), some (jm_i x3), some (jm_i ((6 * x2) + x3))], [], (jm_sI (jm_sI (jm_sI h 38 0 (((6 * x2) + x3).toNatClampNeg) (h.1 38 0 ((18 + ((6 * x2) + x3)).toNatClampNeg))) 39 0 (((6 * x2) + x3).toNatClampNeg) (h.1 39 0 ((18 + ((6 * x2) + x3)).toNatClampNeg))) 40 0 (((6 * x2) + x3).toNatClampNeg) (h.1 40 0 ((18 + ((6 * x2) + x3)).toNatClampNeg))))) rfl ?_
    refine jm_E_n 8 (x' := (134, [some (jm_r 8 0), none, some (jm_i x2), some (jm_i x3), some (jm_i ((6 * x2) + x3))], [jm_i (18 + ((6 * x2) + x3)), jm_r 41 0, jm_i ((6 * x2) + x3), jm_r 41 0], (jm_sI (jm_sI (jm_sI h 38 0 (((6 * x2) + x3).toNatClampNeg) (h.1 38 0 ((18 + ((6 * x2) + x3)).toNatClampNeg))) 39 0 (((6 * x2) + x3).toNatClampNeg) (h.1 39 0 ((18 + ((6 * x2) + x3)).toNatClampNeg))) 40 0 (((6 * x2) + x3).toNatClampNeg) (h.1 40 0 ((18 + ((6 * x2) + x3)).toNatClampNeg))))) rfl ?_
    refine jm_E_iald rfl rfl H.1 ?_
    replace H := H.2
    refine jm_E_eq (x := (135, [some (jm_r 8 0), none, some (jm_i x2), some (jm_i x3), some (jm_i ((6 * x2) + x3))], [jm_i (h.1 41 0 ((18 + ((6 * x2) + x3)).toNatClampNeg)), jm_i ((6 * x2) + x3), jm_r 41 0], (jm_sI (jm_sI (jm_sI h 38 0 (((6 * x2) + x3).toNatClampNeg) (h.1 38 0 ((18 + ((6 * x2) + x3)).toNatClampNeg))) 39 0 (((6 * x2) + x3).toNatClampNeg) (h.1 39 0 ((18 + ((6 * x2) + x3)).toNatClampNeg))) 40 0 (((6 * x2) + x3).toNatClampNeg) (h.1 40 0 ((18 + ((6 * x2) + x3)).toNatClampNeg))))) rfl ?_
    refine jm_E_iast rfl rfl H.1 ?_
    replace H := H.2
    refine jm_E_eq (x := (136, [some (jm_r 8 0), none, some (jm_i x2), some (jm_i x3), some (jm_i ((6 * x2) + x3))], [], (jm_sI (jm_sI (jm_sI (jm_sI h 38 0 (((6 * x2) + x3).toNatClampNeg) (h.1 38 0 ((18 + ((6 * x2) + x3)).toNatClampNeg))) 39 0 (((6 * x2) + x3).toNatClampNeg) (h.1 39 0 ((18 + ((6 * x2) + x3)).toNatClampNeg))) 40 0 (((6 * x2) + x3).toNatClampNeg) (h.1 40 0 ((18 + ((6 * x2) + x3)).toNatClampNeg))) 41 0 (((6 * x2) + x3).toNatClampNeg) (h.1 41 0 ((18 + ((6 * x2) + x3)).toNatClampNeg))))) rfl ?_
    refine jm_E_n 2 (x' := (87, [some (jm_r 8 0), none, some (jm_i x2), some (jm_i (x3 + 1)), some (jm_i ((6 * x2) + x3))], [], (jm_sI (jm_sI (jm_sI (jm_sI h 38 0 (((6 * x2) + x3).toNatClampNeg) (h.1 38 0 ((18 + ((6 * x2) + x3)).toNatClampNeg))) 39 0 (((6 * x2) + x3).toNatClampNeg) (h.1 39 0 ((18 + ((6 * x2) + x3)).toNatClampNeg))) 40 0 (((6 * x2) + x3).toNatClampNeg) (h.1 40 0 ((18 + ((6 * x2) + x3)).toNatClampNeg))) 41 0 (((6 * x2) + x3).toNatClampNeg) (h.1 41 0 ((18 + ((6 * x2) + x3)).toNatClampNeg))))) rfl ?_
    exact jm_E_weak (jm_le_s (jm_le_n (jm_le_s (jm_le_s (jm_le_n jm_le_nil))))) H
set_option maxRecDepth 100000 in
theorem wp_M_plan {a0 : Int32} {h : jm_H} {r : jm_Rs} (H :
  ∃ h1 : jm_H, m_M_anew h h1 ∧
  ∃ (v2 : Int32) (h2 : jm_H), m_M_in a0 0 (h1.1 8 0 5) h1 v2 h2 ∧
  (v2 = 0 →
    ∃ (v3 : Int32) (h3 : jm_H), m_M_no 2 h2 v3 h3 ∧
    r = (some (jm_i v3), h3)) ∧
  (¬ (v2 = 0) →
    ∃ (v4 : Int32) (h4 : jm_H), m_M_readPlan a0 (jm_sI (jm_sI h2 8 0 5 0) 8 0 2 0) v4 h4 ∧
    (v4 = (-1) →
      ∃ (v5 : Int32) (h5 : jm_H), m_M_no 4 (jm_sI (jm_sI h4 8 0 2 (h4.1 8 0 21)) 8 0 3 (h4.1 8 0 22)) v5 h5 ∧
      r = (some (jm_i v5), h5)) ∧
    (¬ (v4 = (-1)) →
      l_M_plan_41 0 (jm_sI h4 8 0 6 (h4.1 8 0 7)) r))) : jm_R 102 [jm_r 8 0, jm_i a0] h r := by
  refine jm_R_of hz_102 (Nat.le_of_ble_eq_true rfl) ?_
  show jm_E cod_102 (0, [some (jm_r 8 0), some (jm_i a0), none, none, none], [], h) r
  refine jm_E_n 1 (x' := (1, [some (jm_r 8 0), some (jm_i a0), none, none, none], [jm_r 8 0], h)) rfl ?_
  obtain ⟨h1, hR, H⟩ := H
  refine jm_E_call rfl (Nat.le_of_ble_eq_true rfl) (Nat.le_of_ble_eq_true rfl) rfl hR trivial ?_
  refine jm_E_eq (x := (2, [some (jm_r 8 0), some (jm_i a0), none, none, none], [], h1)) rfl ?_
  refine jm_E_n 4 (x' := (6, [some (jm_r 8 0), some (jm_i a0), none, none, none], [jm_i (h1.1 8 0 5), jm_i 0, jm_i a0], h1)) rfl ?_
  obtain ⟨v2, h2, hR, H⟩ := H
  refine jm_E_call rfl (Nat.le_of_ble_eq_true rfl) (Nat.le_of_ble_eq_true rfl) trivial hR trivial ?_
  refine jm_E_eq (x := (7, [some (jm_r 8 0), some (jm_i a0), none, none, none], [jm_i v2], h2)) rfl ?_
  refine jm_E_n 1 (x' := (if v2 = 0 then 8 else 12, [some (jm_r 8 0), some (jm_i a0), none, none, none], [], h2)) rfl ?_
  refine jm_E_ite (fun hc => ?_) (fun hc => ?_)
  · replace H := H.1 hc
    refine jm_E_n 2 (x' := (10, [some (jm_r 8 0), some (jm_i a0), none, none, none], [jm_i 2, jm_r 8 0], h2)) rfl ?_
    obtain ⟨v3, h3, hR, H⟩ := H
    refine jm_E_call rfl (Nat.le_of_ble_eq_true rfl) (Nat.le_of_ble_eq_true rfl) rfl hR trivial ?_
    refine jm_E_eq (x := (11, [some (jm_r 8 0), some (jm_i a0), none, none, none], [jm_i v3], h3)) rfl ?_
    exact jm_E_ret rfl (by rw [H]; rfl)
  · replace H := H.2 hc
    refine jm_E_n 8 (x' := (20, [some (jm_r 8 0), some (jm_i a0), none, none, none], [jm_i a0, jm_r 8 0], (jm_sI (jm_sI h2 8 0 5 0) 8 0 2 0))) rfl ?_
    obtain ⟨v4, h4, hR, H⟩ := H
    refine jm_E_call rfl (Nat.le_of_ble_eq_true rfl) (Nat.le_of_ble_eq_true rfl) rfl hR trivial ?_
    refine jm_E_eq (x := (21, [some (jm_r 8 0), some (jm_i a0), none, none, none], [jm_i v4], h4)) rfl ?_
    refine jm_E_n 2 (x' := (if v4 = (-1) then 23 else 35, [some (jm_r 8 0), some (jm_i a0), none, none, none], [], h4)) rfl ?_
    refine jm_E_ite (fun hc => ?_) (fun hc => ?_)
    · replace H := H.1 hc
      refine jm_E_n 10 (x' := (33, [some (jm_r 8 0), some (jm_i a0), none, none, none], [jm_i 4, jm_r 8 0], (jm_sI (jm_sI h4 8 0 2 (h4.1 8 0 21)) 8 0 3 (h4.1 8 0 22)))) rfl ?_
      obtain ⟨v5, h5, hR, H⟩ := H
      refine jm_E_call rfl (Nat.le_of_ble_eq_true rfl) (Nat.le_of_ble_eq_true rfl) rfl hR trivial ?_
      refine jm_E_eq (x := (34, [some (jm_r 8 0), some (jm_i a0), none, none, none], [jm_i v5], h5)) rfl ?_
      exact jm_E_ret rfl (by rw [H]; rfl)
    · replace H := H.2 hc
      refine jm_E_n 6 (x' := (41, [some (jm_r 8 0), some (jm_i a0), some (jm_i 0), none, none], [], (jm_sI h4 8 0 6 (h4.1 8 0 7)))) rfl ?_
      exact jm_E_weak (jm_le_s (jm_le_n (jm_le_s (jm_le_n (jm_le_n jm_le_nil))))) H
set_option maxRecDepth 100000 in
theorem wp_M_fault  {h : jm_H} {r : jm_Rs} (H :
  r = (some (jm_i (h.1 8 0 2)), (jm_sI h 8 0 0 0))) : jm_R 103 [jm_r 8 0] h r := by
  refine jm_R_of hz_103 (Nat.le_of_ble_eq_true rfl) ?_
  show jm_E cod_103 (0, [some (jm_r 8 0)], [], h) r
  refine jm_E_n 5 (x' := (5, [some (jm_r 8 0)], [jm_i (h.1 8 0 2)], (jm_sI h 8 0 0 0))) rfl ?_
  exact jm_E_ret rfl (by rw [H]; rfl)
set_option maxRecDepth 100000 in
theorem wp_M_where  {h : jm_H} {r : jm_Rs} (H :
  ((h.1 8 0 1) = 4 →
    r = (some (jm_i (h.1 8 0 3)), (jm_sI h 8 0 0 0))) ∧
  (¬ ((h.1 8 0 1) = 4) →
    r = (some (jm_i (-1)), (jm_sI h 8 0 0 0)))) : jm_R 104 [jm_r 8 0] h r := by
  refine jm_R_of hz_104 (Nat.le_of_ble_eq_true rfl) ?_
  show jm_E cod_104 (0, [some (jm_r 8 0)], [], h) r
  refine jm_E_n 7 (x' := (if (h.1 8 0 1) = 4 then 7 else 10, [some (jm_r 8 0)], [], (jm_sI h 8 0 0 0))) rfl ?_
  refine jm_E_ite (fun hc => ?_) (fun hc => ?_)
  · replace H := H.1 hc
    refine jm_E_n 3 (x' := (11, [some (jm_r 8 0)], [jm_i (h.1 8 0 3)], (jm_sI h 8 0 0 0))) rfl ?_
    exact jm_E_ret rfl (by rw [H]; rfl)
  · replace H := H.2 hc
    refine jm_E_n 1 (x' := (11, [some (jm_r 8 0)], [jm_i (-1)], (jm_sI h 8 0 0 0))) rfl ?_
    exact jm_E_ret rfl (by rw [H]; rfl)
set_option maxRecDepth 100000 in
theorem wp_M_taskOf {a0 : Int32} {a1 : Int32} {h : jm_H} {r : jm_Rs} (H :
  jm_in ((24 * a0) + a1) 72 ∧
  r = (some (jm_i ((6 * a0) + (h.1 43 0 (((24 * a0) + a1).toNatClampNeg)))), h)) : jm_R 106 [jm_r 8 0, jm_i a0, jm_i a1] h r := by
  refine jm_R_of hz_106 (Nat.le_of_ble_eq_true rfl) ?_
  show jm_E cod_106 (0, [some (jm_r 8 0), some (jm_i a0), some (jm_i a1)], [], h) r
  refine jm_E_n 10 (x' := (10, [some (jm_r 8 0), some (jm_i a0), some (jm_i a1)], [jm_i ((24 * a0) + a1), jm_r 43 0, jm_i (6 * a0)], h)) rfl ?_
  refine jm_E_iald rfl rfl H.1 ?_
  replace H := H.2
  refine jm_E_eq (x := (11, [some (jm_r 8 0), some (jm_i a0), some (jm_i a1)], [jm_i (h.1 43 0 (((24 * a0) + a1).toNatClampNeg)), jm_i (6 * a0)], h)) rfl ?_
  refine jm_E_n 1 (x' := (12, [some (jm_r 8 0), some (jm_i a0), some (jm_i a1)], [jm_i ((6 * a0) + (h.1 43 0 (((24 * a0) + a1).toNatClampNeg)))], h)) rfl ?_
  exact jm_E_ret rfl (by rw [H]; rfl)
set_option maxRecDepth 100000 in
theorem wp_M_dueOf {a0 : Int32} {a1 : Int32} {h : jm_H} {r : jm_Rs} (H :
  jm_in ((24 * a0) + a1) 72 ∧
  ∃ (v1 : Int32) (h1 : jm_H), m_M_taskOf a0 a1 h v1 h1 ∧
  jm_in v1 36 ∧
  r = (some (jm_i ((h.1 44 0 (((24 * a0) + a1).toNatClampNeg)) + (h1.1 41 0 v1.toNatClampNeg))), h1)) : jm_R 107 [jm_r 8 0, jm_i a0, jm_i a1] h r := by
  refine jm_R_of hz_107 (Nat.le_of_ble_eq_true rfl) ?_
  show jm_E cod_107 (0, [some (jm_r 8 0), some (jm_i a0), some (jm_i a1)], [], h) r
  refine jm_E_n 7 (x' := (7, [some (jm_r 8 0), some (jm_i a0), some (jm_i a1)], [jm_i ((24 * a0) + a1), jm_r 44 0], h)) rfl ?_
  refine jm_E_iald rfl rfl H.1 ?_
  replace H := H.2
  refine jm_E_eq (x := (8, [some (jm_r 8 0), some (jm_i a0), some (jm_i a1)], [jm_i (h.1 44 0 (((24 * a0) + a1).toNatClampNeg))], h)) rfl ?_
  refine jm_E_n 5 (x' := (13, [some (jm_r 8 0), some (jm_i a0), some (jm_i a1)], [jm_i a1, jm_i a0, jm_r 8 0, jm_r 41 0, jm_i (h.1 44 0 (((24 * a0) + a1).toNatClampNeg))], h)) rfl ?_
  obtain ⟨v1, h1, hR, H⟩ := H
  refine jm_E_call rfl (Nat.le_of_ble_eq_true rfl) (Nat.le_of_ble_eq_true rfl) rfl hR trivial ?_
  refine jm_E_eq (x := (14, [some (jm_r 8 0), some (jm_i a0), some (jm_i a1)], [jm_i v1, jm_r 41 0, jm_i (h.1 44 0 (((24 * a0) + a1).toNatClampNeg))], h1)) rfl ?_
  refine jm_E_iald rfl rfl H.1 ?_
  replace H := H.2
  refine jm_E_eq (x := (15, [some (jm_r 8 0), some (jm_i a0), some (jm_i a1)], [jm_i (h1.1 41 0 v1.toNatClampNeg), jm_i (h.1 44 0 (((24 * a0) + a1).toNatClampNeg))], h1)) rfl ?_
  refine jm_E_n 1 (x' := (16, [some (jm_r 8 0), some (jm_i a0), some (jm_i a1)], [jm_i ((h.1 44 0 (((24 * a0) + a1).toNatClampNeg)) + (h1.1 41 0 v1.toNatClampNeg))], h1)) rfl ?_
  exact jm_E_ret rfl (by rw [H]; rfl)
set_option maxRecDepth 100000 in
theorem wp_M_costsOf_4 {x1 : Int32} {x2 : Int32} {x3 : Int32} {h : jm_H} {r : jm_Rs} (H :
  jm_in x1 3 ∧
  ((h.1 42 0 x1.toNatClampNeg) ≤ x3 →
    r = (some (jm_i x2), h)) ∧
  (¬ ((h.1 42 0 x1.toNatClampNeg) ≤ x3) →
    ∃ (v1 : Int32) (h1 : jm_H), m_M_taskOf x1 x3 h v1 h1 ∧
    jm_in v1 36 ∧
    l_M_costsOf_4 x1 (x2 + (h1.1 40 0 v1.toNatClampNeg)) (x3 + 1) h1 r)) : l_M_costsOf_4 x1 x2 x3 h r := by
  refine jm_E_n 4 (x' := (8, [some (jm_r 8 0), some (jm_i x1), some (jm_i x2), some (jm_i x3)], [jm_i x1, jm_r 42 0, jm_i x3], h)) rfl ?_
  refine jm_E_iald rfl rfl H.1 ?_
  replace H := H.2
  refine jm_E_eq (x := (9, [some (jm_r 8 0), some (jm_i x1), some (jm_i x2), some (jm_i x3)], [jm_i (h.1 42 0 x1.toNatClampNeg), jm_i x3], h)) rfl ?_
  refine jm_E_n 1 (x' := (if (h.1 42 0 x1.toNatClampNeg) ≤ x3 then 22 else 10, [some (jm_r 8 0), some (jm_i x1), some (jm_i x2), some (jm_i x3)], [], h)) rfl ?_
  refine jm_E_ite (fun hc => ?_) (fun hc => ?_)
  · replace H := H.1 hc
    refine jm_E_n 1 (x' := (23, [some (jm_r 8 0), some (jm_i x1), some (jm_i x2), some (jm_i x3)], [jm_i x2], h)) rfl ?_
    exact jm_E_ret rfl (by rw [H]; rfl)
  · replace H := H.2 hc
    refine jm_E_n 6 (x' := (16, [some (jm_r 8 0), some (jm_i x1), some (jm_i x2), some (jm_i x3)], [jm_i x3, jm_i x1, jm_r 8 0, jm_r 40 0, jm_i x2], h)) rfl ?_
    obtain ⟨v1, h1, hR, H⟩ := H
    refine jm_E_call rfl (Nat.le_of_ble_eq_true rfl) (Nat.le_of_ble_eq_true rfl) rfl hR trivial ?_
    refine jm_E_eq (x := (17, [some (jm_r 8 0), some (jm_i x1), some (jm_i x2), some (jm_i x3)], [jm_i v1, jm_r 40 0, jm_i x2], h1)) rfl ?_
    refine jm_E_iald rfl rfl H.1 ?_
    replace H := H.2
    refine jm_E_eq (x := (18, [some (jm_r 8 0), some (jm_i x1), some (jm_i x2), some (jm_i x3)], [jm_i (h1.1 40 0 v1.toNatClampNeg), jm_i x2], h1)) rfl ?_
    refine jm_E_n 4 (x' := (4, [some (jm_r 8 0), some (jm_i x1), some (jm_i (x2 + (h1.1 40 0 v1.toNatClampNeg))), some (jm_i (x3 + 1))], [], h1)) rfl ?_
    exact H
set_option maxRecDepth 100000 in
theorem wp_M_costsOf {a0 : Int32} {h : jm_H} {r : jm_Rs} (H :
  l_M_costsOf_4 a0 0 0 h r) : jm_R 108 [jm_r 8 0, jm_i a0] h r := by
  refine jm_R_of hz_108 (Nat.le_of_ble_eq_true rfl) ?_
  show jm_E cod_108 (0, [some (jm_r 8 0), some (jm_i a0), none, none], [], h) r
  refine jm_E_n 4 (x' := (4, [some (jm_r 8 0), some (jm_i a0), some (jm_i 0), some (jm_i 0)], [], h)) rfl ?_
  exact H
set_option maxRecDepth 100000 in
theorem wp_M_firstOf {a0 : Int32} {a1 : Int32} {a2 : Int32} {h : jm_H} {r : jm_Rs} (H :
  jm_in ((24 * a0) + a1) 72 ∧
  ¬ a2 = 0 ∧
  r = (some (jm_i ((((h.1 44 0 (((24 * a0) + a1).toNatClampNeg)) + a2) - 1) / a2)), h)) : jm_R 109 [jm_r 8 0, jm_i a0, jm_i a1, jm_i a2] h r := by
  refine jm_R_of hz_109 (Nat.le_of_ble_eq_true rfl) ?_
  show jm_E cod_109 (0, [some (jm_r 8 0), some (jm_i a0), some (jm_i a1), some (jm_i a2)], [], h) r
  refine jm_E_n 7 (x' := (7, [some (jm_r 8 0), some (jm_i a0), some (jm_i a1), some (jm_i a2)], [jm_i ((24 * a0) + a1), jm_r 44 0], h)) rfl ?_
  refine jm_E_iald rfl rfl H.1 ?_
  replace H := H.2
  refine jm_E_eq (x := (8, [some (jm_r 8 0), some (jm_i a0), some (jm_i a1), some (jm_i a2)], [jm_i (h.1 44 0 (((24 * a0) + a1).toNatClampNeg))], h)) rfl ?_
  refine jm_E_n 5 (x' := (13, [some (jm_r 8 0), some (jm_i a0), some (jm_i a1), some (jm_i a2)], [jm_i a2, jm_i (((h.1 44 0 (((24 * a0) + a1).toNatClampNeg)) + a2) - 1)], h)) rfl ?_
  refine jm_E_idiv rfl H.1 ?_
  replace H := H.2
  refine jm_E_eq (x := (14, [some (jm_r 8 0), some (jm_i a0), some (jm_i a1), some (jm_i a2)], [jm_i ((((h.1 44 0 (((24 * a0) + a1).toNatClampNeg)) + a2) - 1) / a2)], h)) rfl ?_
  exact jm_E_ret rfl (by rw [H]; rfl)
set_option maxRecDepth 100000 in
theorem wp_M_lastOf {a0 : Int32} {a1 : Int32} {a2 : Int32} {h : jm_H} {r : jm_Rs} (H :
  ∃ (v1 : Int32) (h1 : jm_H), m_M_dueOf a0 a1 h v1 h1 ∧
  ¬ a2 = 0 ∧
  r = (some (jm_i ((v1 / a2) - 1)), h1)) : jm_R 110 [jm_r 8 0, jm_i a0, jm_i a1, jm_i a2] h r := by
  refine jm_R_of hz_110 (Nat.le_of_ble_eq_true rfl) ?_
  show jm_E cod_110 (0, [some (jm_r 8 0), some (jm_i a0), some (jm_i a1), some (jm_i a2)], [], h) r
  refine jm_E_n 3 (x' := (3, [some (jm_r 8 0), some (jm_i a0), some (jm_i a1), some (jm_i a2)], [jm_i a1, jm_i a0, jm_r 8 0], h)) rfl ?_
  obtain ⟨v1, h1, hR, H⟩ := H
  refine jm_E_call rfl (Nat.le_of_ble_eq_true rfl) (Nat.le_of_ble_eq_true rfl) rfl hR trivial ?_
  refine jm_E_eq (x := (4, [some (jm_r 8 0), some (jm_i a0), some (jm_i a1), some (jm_i a2)], [jm_i v1], h1)) rfl ?_
  refine jm_E_n 1 (x' := (5, [some (jm_r 8 0), some (jm_i a0), some (jm_i a1), some (jm_i a2)], [jm_i a2, jm_i v1], h1)) rfl ?_
  refine jm_E_idiv rfl H.1 ?_
  replace H := H.2
  refine jm_E_eq (x := (6, [some (jm_r 8 0), some (jm_i a0), some (jm_i a1), some (jm_i a2)], [jm_i (v1 / a2)], h1)) rfl ?_
  refine jm_E_n 2 (x' := (8, [some (jm_r 8 0), some (jm_i a0), some (jm_i a1), some (jm_i a2)], [jm_i ((v1 / a2) - 1)], h1)) rfl ?_
  exact jm_E_ret rfl (by rw [H]; rfl)
set_option maxRecDepth 100000 in
theorem wp_M_isEmpty {a0 : Int32} {a1 : Int32} {a2 : Int32} {h : jm_H} {r : jm_Rs} (H :
  ∃ (v1 : Int32) (h1 : jm_H), m_M_firstOf a0 a1 a2 h v1 h1 ∧
  ∃ (v2 : Int32) (h2 : jm_H), m_M_lastOf a0 a1 a2 h1 v2 h2 ∧
  (v1 ≤ v2 →
    r = (some (jm_i 0), h2)) ∧
  (¬ (v1 ≤ v2) →
    r = (some (jm_i 1), h2))) : jm_R 111 [jm_r 8 0, jm_i a0, jm_i a1, jm_i a2] h r := by
  refine jm_R_of hz_111 (Nat.le_of_ble_eq_true rfl) ?_
  show jm_E cod_111 (0, [some (jm_r 8 0), some (jm_i a0), some (jm_i a1), some (jm_i a2)], [], h) r
  refine jm_E_n 4 (x' := (4, [some (jm_r 8 0), some (jm_i a0), some (jm_i a1), some (jm_i a2)], [jm_i a2, jm_i a1, jm_i a0, jm_r 8 0], h)) rfl ?_
  obtain ⟨v1, h1, hR, H⟩ := H
  refine jm_E_call rfl (Nat.le_of_ble_eq_true rfl) (Nat.le_of_ble_eq_true rfl) rfl hR trivial ?_
  refine jm_E_eq (x := (5, [some (jm_r 8 0), some (jm_i a0), some (jm_i a1), some (jm_i a2)], [jm_i v1], h1)) rfl ?_
  refine jm_E_n 4 (x' := (9, [some (jm_r 8 0), some (jm_i a0), some (jm_i a1), some (jm_i a2)], [jm_i a2, jm_i a1, jm_i a0, jm_r 8 0, jm_i v1], h1)) rfl ?_
  obtain ⟨v2, h2, hR, H⟩ := H
  refine jm_E_call rfl (Nat.le_of_ble_eq_true rfl) (Nat.le_of_ble_eq_true rfl) rfl hR trivial ?_
  refine jm_E_eq (x := (10, [some (jm_r 8 0), some (jm_i a0), some (jm_i a1), some (jm_i a2)], [jm_i v2, jm_i v1], h2)) rfl ?_
  refine jm_E_n 1 (x' := (if v1 ≤ v2 then 13 else 11, [some (jm_r 8 0), some (jm_i a0), some (jm_i a1), some (jm_i a2)], [], h2)) rfl ?_
  refine jm_E_ite (fun hc => ?_) (fun hc => ?_)
  · replace H := H.1 hc
    refine jm_E_n 1 (x' := (14, [some (jm_r 8 0), some (jm_i a0), some (jm_i a1), some (jm_i a2)], [jm_i 0], h2)) rfl ?_
    exact jm_E_ret rfl (by rw [H]; rfl)
  · replace H := H.2 hc
    refine jm_E_n 2 (x' := (14, [some (jm_r 8 0), some (jm_i a0), some (jm_i a1), some (jm_i a2)], [jm_i 1], h2)) rfl ?_
    exact jm_E_ret rfl (by rw [H]; rfl)
set_option maxRecDepth 100000 in
theorem wp_M_reach {a0 : Int32} {a1 : Int32} {a2 : Int32} {h : jm_H} {r : jm_Rs} (H :
  jm_in ((6 * a0) + a1) 36 ∧
  ∃ (v1 : Int32) (h1 : jm_H), m_M_common a2 (h.1 39 0 (((6 * a0) + a1).toNatClampNeg)) h v1 h1 ∧
  jm_in ((6 * a0) + a1) 36 ∧
  ¬ v1 = 0 ∧
  (((h1.1 38 0 (((6 * a0) + a1).toNatClampNeg)) - (h1.1 38 0 (((6 * a0) + a1).toNatClampNeg)) / v1 * v1) = 0 →
    r = (some (jm_i ((2 * a2) - v1)), h1)) ∧
  (¬ (((h1.1 38 0 (((6 * a0) + a1).toNatClampNeg)) - (h1.1 38 0 (((6 * a0) + a1).toNatClampNeg)) / v1 * v1) = 0) →
    r = (some (jm_i ((2 * a2) - ((h1.1 38 0 (((6 * a0) + a1).toNatClampNeg)) - (h1.1 38 0 (((6 * a0) + a1).toNatClampNeg)) / v1 * v1))), h1))) : jm_R 112 [jm_r 8 0, jm_i a0, jm_i a1, jm_i a2] h r := by
  refine jm_R_of hz_112 (Nat.le_of_ble_eq_true rfl) ?_
  show jm_E cod_112 (0, [some (jm_r 8 0), some (jm_i a0), some (jm_i a1), some (jm_i a2), none, none, none], [], h) r
  refine jm_E_n 10 (x' := (10, [some (jm_r 8 0), some (jm_i a0), some (jm_i a1), some (jm_i a2), some (jm_i ((6 * a0) + a1)), none, none], [jm_i ((6 * a0) + a1), jm_r 39 0, jm_i a2], h)) rfl ?_
  refine jm_E_iald rfl rfl H.1 ?_
  replace H := H.2
  refine jm_E_eq (x := (11, [some (jm_r 8 0), some (jm_i a0), some (jm_i a1), some (jm_i a2), some (jm_i ((6 * a0) + a1)), none, none], [jm_i (h.1 39 0 (((6 * a0) + a1).toNatClampNeg)), jm_i a2], h)) rfl ?_
  obtain ⟨v1, h1, hR, H⟩ := H
  refine jm_E_call rfl (Nat.le_of_ble_eq_true rfl) (Nat.le_of_ble_eq_true rfl) trivial hR trivial ?_
  refine jm_E_eq (x := (12, [some (jm_r 8 0), some (jm_i a0), some (jm_i a1), some (jm_i a2), some (jm_i ((6 * a0) + a1)), none, none], [jm_i v1], h1)) rfl ?_
  refine jm_E_n 4 (x' := (16, [some (jm_r 8 0), some (jm_i a0), some (jm_i a1), some (jm_i a2), some (jm_i ((6 * a0) + a1)), some (jm_i v1), none], [jm_i ((6 * a0) + a1), jm_r 38 0], h1)) rfl ?_
  refine jm_E_iald rfl rfl H.1 ?_
  replace H := H.2
  refine jm_E_eq (x := (17, [some (jm_r 8 0), some (jm_i a0), some (jm_i a1), some (jm_i a2), some (jm_i ((6 * a0) + a1)), some (jm_i v1), none], [jm_i (h1.1 38 0 (((6 * a0) + a1).toNatClampNeg))], h1)) rfl ?_
  refine jm_E_n 1 (x' := (18, [some (jm_r 8 0), some (jm_i a0), some (jm_i a1), some (jm_i a2), some (jm_i ((6 * a0) + a1)), some (jm_i v1), none], [jm_i v1, jm_i (h1.1 38 0 (((6 * a0) + a1).toNatClampNeg))], h1)) rfl ?_
  refine jm_E_irem rfl H.1 ?_
  replace H := H.2
  refine jm_E_eq (x := (19, [some (jm_r 8 0), some (jm_i a0), some (jm_i a1), some (jm_i a2), some (jm_i ((6 * a0) + a1)), some (jm_i v1), none], [jm_i ((h1.1 38 0 (((6 * a0) + a1).toNatClampNeg)) - (h1.1 38 0 (((6 * a0) + a1).toNatClampNeg)) / v1 * v1)], h1)) rfl ?_
  refine jm_E_n 6 (x' := (if ((h1.1 38 0 (((6 * a0) + a1).toNatClampNeg)) - (h1.1 38 0 (((6 * a0) + a1).toNatClampNeg)) / v1 * v1) = 0 then 25 else 27, [some (jm_r 8 0), some (jm_i a0), some (jm_i a1), some (jm_i a2), some (jm_i ((6 * a0) + a1)), some (jm_i v1), some (jm_i ((h1.1 38 0 (((6 * a0) + a1).toNatClampNeg)) - (h1.1 38 0 (((6 * a0) + a1).toNatClampNeg)) / v1 * v1))], [jm_i (2 * a2)], h1)) rfl ?_
  refine jm_E_ite (fun hc => ?_) (fun hc => ?_)
  · replace H := H.1 hc
    refine jm_E_n 3 (x' := (29, [some (jm_r 8 0), some (jm_i a0), some (jm_i a1), some (jm_i a2), some (jm_i ((6 * a0) + a1)), some (jm_i v1), some (jm_i ((h1.1 38 0 (((6 * a0) + a1).toNatClampNeg)) - (h1.1 38 0 (((6 * a0) + a1).toNatClampNeg)) / v1 * v1))], [jm_i ((2 * a2) - v1)], h1)) rfl ?_
    exact jm_E_ret rfl (by rw [H]; rfl)
  · replace H := H.2 hc
    refine jm_E_n 2 (x' := (29, [some (jm_r 8 0), some (jm_i a0), some (jm_i a1), some (jm_i a2), some (jm_i ((6 * a0) + a1)), some (jm_i v1), some (jm_i ((h1.1 38 0 (((6 * a0) + a1).toNatClampNeg)) - (h1.1 38 0 (((6 * a0) + a1).toNatClampNeg)) / v1 * v1))], [jm_i ((2 * a2) - ((h1.1 38 0 (((6 * a0) + a1).toNatClampNeg)) - (h1.1 38 0 (((6 * a0) + a1).toNatClampNeg)) / v1 * v1))], h1)) rfl ?_
    exact jm_E_ret rfl (by rw [H]; rfl)
set_option maxRecDepth 100000 in
theorem wp_M_isMode {a0 : Int32} {h : jm_H} {r : jm_Rs} (H :
  ∃ (v1 : Int32) (h1 : jm_H), m_M_in a0 0 ((h.1 8 0 6) - 1) h v1 h1 ∧
  narrow .boolean (.int v1) = .int v1 ∧ r = (some (jm_i v1), h1)) : jm_R 113 [jm_r 8 0, jm_i a0] h r := by
  refine jm_R_of hz_113 (Nat.le_of_ble_eq_true rfl) ?_
  show jm_E cod_113 (0, [some (jm_r 8 0), some (jm_i a0)], [], h) r
  refine jm_E_n 6 (x' := (6, [some (jm_r 8 0), some (jm_i a0)], [jm_i ((h.1 8 0 6) - 1), jm_i 0, jm_i a0], h)) rfl ?_
  obtain ⟨v1, h1, hR, H⟩ := H
  refine jm_E_call rfl (Nat.le_of_ble_eq_true rfl) (Nat.le_of_ble_eq_true rfl) trivial hR trivial ?_
  refine jm_E_eq (x := (7, [some (jm_r 8 0), some (jm_i a0)], [jm_i v1], h1)) rfl ?_
  exact jm_E_ret rfl (by rw [H.2]; exact if_pos H.1)
set_option maxRecDepth 100000 in
theorem wp_M_mode {a0 : Int32} {a1 : Int32} {h : jm_H} {r : jm_Rs} (H :
  ∃ h1 : jm_H, m_M_anew h h1 ∧
  ∃ (v2 : Int32) (h2 : jm_H), m_M_isMode a0 h1 v2 h2 ∧
  (v2 = 0 →
    ∃ (v3 : Int32) (h3 : jm_H), m_M_no 1 h2 v3 h3 ∧
    r = (some (jm_i v3), h3)) ∧
  (¬ (v2 = 0) →
    (a1 = 0 →
      jm_in a0 6 ∧
      r = (some (jm_i (h2.1 34 0 a0.toNatClampNeg)), h2)) ∧
    (a1 = 1 →
      jm_in a0 6 ∧
      r = (some (jm_i (h2.1 35 0 a0.toNatClampNeg)), h2)) ∧
    (a1 = 2 →
      jm_in a0 6 ∧
      r = (some (jm_i (h2.1 36 0 a0.toNatClampNeg)), h2)) ∧
    (a1 = 3 →
      jm_in a0 6 ∧
      r = (some (jm_i (h2.1 37 0 a0.toNatClampNeg)), h2)) ∧
    (a1 = 4 →
      jm_in a0 3 ∧
      r = (some (jm_i (h2.1 42 0 a0.toNatClampNeg)), h2)) ∧
    (a1 = 5 →
      jm_in a0 6 ∧
      jm_in a0 6 ∧
      ¬ (h2.1 34 0 a0.toNatClampNeg) = 0 ∧
      r = (some (jm_i ((h2.1 37 0 a0.toNatClampNeg) / (h2.1 34 0 a0.toNatClampNeg))), h2)) ∧
    (a1 = 6 →
      ∃ (v4 : Int32) (h4 : jm_H), m_M_costsOf a0 h2 v4 h4 ∧
      r = (some (jm_i v4), h4)) ∧
    (a1.toInt < 0 ∨ 7 ≤ a1.toInt →
      ∃ (v5 : Int32) (h5 : jm_H), m_M_no 1 h2 v5 h5 ∧
      r = (some (jm_i v5), h5)))) : jm_R 114 [jm_r 8 0, jm_i a0, jm_i a1] h r := by
  refine jm_R_of hz_114 (Nat.le_of_ble_eq_true rfl) ?_
  show jm_E cod_114 (0, [some (jm_r 8 0), some (jm_i a0), some (jm_i a1)], [], h) r
  refine jm_E_n 1 (x' := (1, [some (jm_r 8 0), some (jm_i a0), some (jm_i a1)], [jm_r 8 0], h)) rfl ?_
  obtain ⟨h1, hR, H⟩ := H
  refine jm_E_call rfl (Nat.le_of_ble_eq_true rfl) (Nat.le_of_ble_eq_true rfl) rfl hR trivial ?_
  refine jm_E_eq (x := (2, [some (jm_r 8 0), some (jm_i a0), some (jm_i a1)], [], h1)) rfl ?_
  refine jm_E_n 2 (x' := (4, [some (jm_r 8 0), some (jm_i a0), some (jm_i a1)], [jm_i a0, jm_r 8 0], h1)) rfl ?_
  obtain ⟨v2, h2, hR, H⟩ := H
  refine jm_E_call rfl (Nat.le_of_ble_eq_true rfl) (Nat.le_of_ble_eq_true rfl) rfl hR trivial ?_
  refine jm_E_eq (x := (5, [some (jm_r 8 0), some (jm_i a0), some (jm_i a1)], [jm_i v2], h2)) rfl ?_
  refine jm_E_n 1 (x' := (if v2 = 0 then 6 else 10, [some (jm_r 8 0), some (jm_i a0), some (jm_i a1)], [], h2)) rfl ?_
  refine jm_E_ite (fun hc => ?_) (fun hc => ?_)
  · replace H := H.1 hc
    refine jm_E_n 2 (x' := (8, [some (jm_r 8 0), some (jm_i a0), some (jm_i a1)], [jm_i 1, jm_r 8 0], h2)) rfl ?_
    obtain ⟨v3, h3, hR, H⟩ := H
    refine jm_E_call rfl (Nat.le_of_ble_eq_true rfl) (Nat.le_of_ble_eq_true rfl) rfl hR trivial ?_
    refine jm_E_eq (x := (9, [some (jm_r 8 0), some (jm_i a0), some (jm_i a1)], [jm_i v3], h3)) rfl ?_
    exact jm_E_ret rfl (by rw [H]; rfl)
  · replace H := H.2 hc
    refine jm_E_n 2 (x' := (if a1.toInt < 0 ∨ 0 + (7 : Nat) ≤ a1.toInt then 51 else ([12, 17, 22, 27, 32, 37, 47] : List Nat).getD (a1.toInt - 0).toNat 0, [some (jm_r 8 0), some (jm_i a0), some (jm_i a1)], [], h2)) rfl ?_
    obtain ⟨H0, H1, H2, H3, H4, H5, H6, HD⟩ := H
    refine jm_E_tsw7 (fun hc => ?_) (fun hc => ?_) (fun hc => ?_) (fun hc => ?_) (fun hc => ?_) (fun hc => ?_) (fun hc => ?_) (fun hc => ?_)
    · replace H := HD hc
      refine jm_E_n 2 (x' := (53, [some (jm_r 8 0), some (jm_i a0), some (jm_i a1)], [jm_i 1, jm_r 8 0], h2)) rfl ?_
      obtain ⟨v5, h5, hR, H⟩ := H
      refine jm_E_call rfl (Nat.le_of_ble_eq_true rfl) (Nat.le_of_ble_eq_true rfl) rfl hR trivial ?_
      refine jm_E_eq (x := (54, [some (jm_r 8 0), some (jm_i a0), some (jm_i a1)], [jm_i v5], h5)) rfl ?_
      exact jm_E_ret rfl (by rw [H]; rfl)
    · replace H := H0 hc
      refine jm_E_n 3 (x' := (15, [some (jm_r 8 0), some (jm_i a0), some (jm_i a1)], [jm_i a0, jm_r 34 0], h2)) rfl ?_
      refine jm_E_iald rfl rfl H.1 ?_
      replace H := H.2
      refine jm_E_eq (x := (16, [some (jm_r 8 0), some (jm_i a0), some (jm_i a1)], [jm_i (h2.1 34 0 a0.toNatClampNeg)], h2)) rfl ?_
      exact jm_E_ret rfl (by rw [H]; rfl)
    · replace H := H1 hc
      refine jm_E_n 3 (x' := (20, [some (jm_r 8 0), some (jm_i a0), some (jm_i a1)], [jm_i a0, jm_r 35 0], h2)) rfl ?_
      refine jm_E_iald rfl rfl H.1 ?_
      replace H := H.2
      refine jm_E_eq (x := (21, [some (jm_r 8 0), some (jm_i a0), some (jm_i a1)], [jm_i (h2.1 35 0 a0.toNatClampNeg)], h2)) rfl ?_
      exact jm_E_ret rfl (by rw [H]; rfl)
    · replace H := H2 hc
      refine jm_E_n 3 (x' := (25, [some (jm_r 8 0), some (jm_i a0), some (jm_i a1)], [jm_i a0, jm_r 36 0], h2)) rfl ?_
      refine jm_E_iald rfl rfl H.1 ?_
      replace H := H.2
      refine jm_E_eq (x := (26, [some (jm_r 8 0), some (jm_i a0), some (jm_i a1)], [jm_i (h2.1 36 0 a0.toNatClampNeg)], h2)) rfl ?_
      exact jm_E_ret rfl (by rw [H]; rfl)
    · replace H := H3 hc
      refine jm_E_n 3 (x' := (30, [some (jm_r 8 0), some (jm_i a0), some (jm_i a1)], [jm_i a0, jm_r 37 0], h2)) rfl ?_
      refine jm_E_iald rfl rfl H.1 ?_
      replace H := H.2
      refine jm_E_eq (x := (31, [some (jm_r 8 0), some (jm_i a0), some (jm_i a1)], [jm_i (h2.1 37 0 a0.toNatClampNeg)], h2)) rfl ?_
      exact jm_E_ret rfl (by rw [H]; rfl)
    · replace H := H4 hc
      refine jm_E_n 3 (x' := (35, [some (jm_r 8 0), some (jm_i a0), some (jm_i a1)], [jm_i a0, jm_r 42 0], h2)) rfl ?_
      refine jm_E_iald rfl rfl H.1 ?_
      replace H := H.2
      refine jm_E_eq (x := (36, [some (jm_r 8 0), some (jm_i a0), some (jm_i a1)], [jm_i (h2.1 42 0 a0.toNatClampNeg)], h2)) rfl ?_
      exact jm_E_ret rfl (by rw [H]; rfl)
    · replace H := H5 hc
      refine jm_E_n 3 (x' := (40, [some (jm_r 8 0), some (jm_i a0), some (jm_i a1)], [jm_i a0, jm_r 37 0], h2)) rfl ?_
      refine jm_E_iald rfl rfl H.1 ?_
      replace H := H.2
      refine jm_E_eq (x := (41, [some (jm_r 8 0), some (jm_i a0), some (jm_i a1)], [jm_i (h2.1 37 0 a0.toNatClampNeg)], h2)) rfl ?_
      refine jm_E_n 3 (x' := (44, [some (jm_r 8 0), some (jm_i a0), some (jm_i a1)], [jm_i a0, jm_r 34 0, jm_i (h2.1 37 0 a0.toNatClampNeg)], h2)) rfl ?_
      refine jm_E_iald rfl rfl H.1 ?_
      replace H := H.2
      refine jm_E_eq (x := (45, [some (jm_r 8 0), some (jm_i a0), some (jm_i a1)], [jm_i (h2.1 34 0 a0.toNatClampNeg), jm_i (h2.1 37 0 a0.toNatClampNeg)], h2)) rfl ?_
      refine jm_E_idiv rfl H.1 ?_
      replace H := H.2
      refine jm_E_eq (x := (46, [some (jm_r 8 0), some (jm_i a0), some (jm_i a1)], [jm_i ((h2.1 37 0 a0.toNatClampNeg) / (h2.1 34 0 a0.toNatClampNeg))], h2)) rfl ?_
      exact jm_E_ret rfl (by rw [H]; rfl)
    · replace H := H6 hc
      refine jm_E_n 2 (x' := (49, [some (jm_r 8 0), some (jm_i a0), some (jm_i a1)], [jm_i a0, jm_r 8 0], h2)) rfl ?_
      obtain ⟨v4, h4, hR, H⟩ := H
      refine jm_E_call rfl (Nat.le_of_ble_eq_true rfl) (Nat.le_of_ble_eq_true rfl) rfl hR trivial ?_
      refine jm_E_eq (x := (50, [some (jm_r 8 0), some (jm_i a0), some (jm_i a1)], [jm_i v4], h4)) rfl ?_
      exact jm_E_ret rfl (by rw [H]; rfl)
set_option maxRecDepth 100000 in
theorem wp_M_task {a0 : Int32} {a1 : Int32} {a2 : Int32} {h : jm_H} {r : jm_Rs} (H :
  ∃ h1 : jm_H, m_M_anew h h1 ∧
  ∃ (v2 : Int32) (h2 : jm_H), m_M_isMode a0 h1 v2 h2 ∧
  (v2 = 0 →
    ∃ (v3 : Int32) (h3 : jm_H), m_M_no 1 h2 v3 h3 ∧
    r = (some (jm_i v3), h3)) ∧
  (¬ (v2 = 0) →
    jm_in a0 6 ∧
    ∃ (v4 : Int32) (h4 : jm_H), m_M_in a1 0 ((h2.1 36 0 a0.toNatClampNeg) - 1) h2 v4 h4 ∧
    (v4 = 0 →
      ∃ (v5 : Int32) (h5 : jm_H), m_M_no 1 h4 v5 h5 ∧
      r = (some (jm_i v5), h5)) ∧
    (¬ (v4 = 0) →
      (a2 = 0 →
        jm_in ((6 * a0) + a1) 36 ∧
        r = (some (jm_i (h4.1 38 0 (((6 * a0) + a1).toNatClampNeg))), h4)) ∧
      (a2 = 1 →
        jm_in ((6 * a0) + a1) 36 ∧
        r = (some (jm_i (h4.1 39 0 (((6 * a0) + a1).toNatClampNeg))), h4)) ∧
      (a2 = 2 →
        jm_in ((6 * a0) + a1) 36 ∧
        r = (some (jm_i (h4.1 40 0 (((6 * a0) + a1).toNatClampNeg))), h4)) ∧
      (a2 = 3 →
        jm_in ((6 * a0) + a1) 36 ∧
        r = (some (jm_i (h4.1 41 0 (((6 * a0) + a1).toNatClampNeg))), h4)) ∧
      (a2 = 4 →
        jm_in a0 6 ∧
        jm_in ((6 * a0) + a1) 36 ∧
        ¬ (h4.1 39 0 (((6 * a0) + a1).toNatClampNeg)) = 0 ∧
        r = (some (jm_i ((h4.1 37 0 a0.toNatClampNeg) / (h4.1 39 0 (((6 * a0) + a1).toNatClampNeg)))), h4)) ∧
      (a2 = 5 →
        jm_in a0 6 ∧
        ∃ (v6 : Int32) (h6 : jm_H), m_M_reach a0 a1 (h4.1 34 0 a0.toNatClampNeg) h4 v6 h6 ∧
        r = (some (jm_i v6), h6)) ∧
      (a2.toInt < 0 ∨ 6 ≤ a2.toInt →
        ∃ (v7 : Int32) (h7 : jm_H), m_M_no 1 h4 v7 h7 ∧
        r = (some (jm_i v7), h7))))) : jm_R 115 [jm_r 8 0, jm_i a0, jm_i a1, jm_i a2] h r := by
  refine jm_R_of hz_115 (Nat.le_of_ble_eq_true rfl) ?_
  show jm_E cod_115 (0, [some (jm_r 8 0), some (jm_i a0), some (jm_i a1), some (jm_i a2), none], [], h) r
  refine jm_E_n 1 (x' := (1, [some (jm_r 8 0), some (jm_i a0), some (jm_i a1), some (jm_i a2), none], [jm_r 8 0], h)) rfl ?_
  obtain ⟨h1, hR, H⟩ := H
  refine jm_E_call rfl (Nat.le_of_ble_eq_true rfl) (Nat.le_of_ble_eq_true rfl) rfl hR trivial ?_
  refine jm_E_eq (x := (2, [some (jm_r 8 0), some (jm_i a0), some (jm_i a1), some (jm_i a2), none], [], h1)) rfl ?_
  refine jm_E_n 2 (x' := (4, [some (jm_r 8 0), some (jm_i a0), some (jm_i a1), some (jm_i a2), none], [jm_i a0, jm_r 8 0], h1)) rfl ?_
  obtain ⟨v2, h2, hR, H⟩ := H
  refine jm_E_call rfl (Nat.le_of_ble_eq_true rfl) (Nat.le_of_ble_eq_true rfl) rfl hR trivial ?_
  refine jm_E_eq (x := (5, [some (jm_r 8 0), some (jm_i a0), some (jm_i a1), some (jm_i a2), none], [jm_i v2], h2)) rfl ?_
  refine jm_E_n 1 (x' := (if v2 = 0 then 16 else 6, [some (jm_r 8 0), some (jm_i a0), some (jm_i a1), some (jm_i a2), none], [], h2)) rfl ?_
  refine jm_E_ite (fun hc => ?_) (fun hc => ?_)
  · replace H := H.1 hc
    refine jm_E_n 2 (x' := (18, [some (jm_r 8 0), some (jm_i a0), some (jm_i a1), some (jm_i a2), none], [jm_i 1, jm_r 8 0], h2)) rfl ?_
    obtain ⟨v3, h3, hR, H⟩ := H
    refine jm_E_call rfl (Nat.le_of_ble_eq_true rfl) (Nat.le_of_ble_eq_true rfl) rfl hR trivial ?_
    refine jm_E_eq (x := (19, [some (jm_r 8 0), some (jm_i a0), some (jm_i a1), some (jm_i a2), none], [jm_i v3], h3)) rfl ?_
    exact jm_E_ret rfl (by rw [H]; rfl)
  · replace H := H.2 hc
    refine jm_E_n 5 (x' := (11, [some (jm_r 8 0), some (jm_i a0), some (jm_i a1), some (jm_i a2), none], [jm_i a0, jm_r 36 0, jm_i 0, jm_i a1], h2)) rfl ?_
    refine jm_E_iald rfl rfl H.1 ?_
    replace H := H.2
    refine jm_E_eq (x := (12, [some (jm_r 8 0), some (jm_i a0), some (jm_i a1), some (jm_i a2), none], [jm_i (h2.1 36 0 a0.toNatClampNeg), jm_i 0, jm_i a1], h2)) rfl ?_
    refine jm_E_n 2 (x' := (14, [some (jm_r 8 0), some (jm_i a0), some (jm_i a1), some (jm_i a2), none], [jm_i ((h2.1 36 0 a0.toNatClampNeg) - 1), jm_i 0, jm_i a1], h2)) rfl ?_
    obtain ⟨v4, h4, hR, H⟩ := H
    refine jm_E_call rfl (Nat.le_of_ble_eq_true rfl) (Nat.le_of_ble_eq_true rfl) trivial hR trivial ?_
    refine jm_E_eq (x := (15, [some (jm_r 8 0), some (jm_i a0), some (jm_i a1), some (jm_i a2), none], [jm_i v4], h4)) rfl ?_
    refine jm_E_n 1 (x' := (if v4 = 0 then 16 else 20, [some (jm_r 8 0), some (jm_i a0), some (jm_i a1), some (jm_i a2), none], [], h4)) rfl ?_
    refine jm_E_ite (fun hc => ?_) (fun hc => ?_)
    · replace H := H.1 hc
      refine jm_E_n 2 (x' := (18, [some (jm_r 8 0), some (jm_i a0), some (jm_i a1), some (jm_i a2), none], [jm_i 1, jm_r 8 0], h4)) rfl ?_
      obtain ⟨v5, h5, hR, H⟩ := H
      refine jm_E_call rfl (Nat.le_of_ble_eq_true rfl) (Nat.le_of_ble_eq_true rfl) rfl hR trivial ?_
      refine jm_E_eq (x := (19, [some (jm_r 8 0), some (jm_i a0), some (jm_i a1), some (jm_i a2), none], [jm_i v5], h5)) rfl ?_
      exact jm_E_ret rfl (by rw [H]; rfl)
    · replace H := H.2 hc
      refine jm_E_n 8 (x' := (if a2.toInt < 0 ∨ 0 + (6 : Nat) ≤ a2.toInt then 67 else ([28, 33, 38, 43, 48, 58] : List Nat).getD (a2.toInt - 0).toNat 0, [some (jm_r 8 0), some (jm_i a0), some (jm_i a1), some (jm_i a2), some (jm_i ((6 * a0) + a1))], [], h4)) rfl ?_
      obtain ⟨H0, H1, H2, H3, H4, H5, HD⟩ := H
      refine jm_E_tsw6 (fun hc => ?_) (fun hc => ?_) (fun hc => ?_) (fun hc => ?_) (fun hc => ?_) (fun hc => ?_) (fun hc => ?_)
      · replace H := HD hc
        refine jm_E_n 2 (x' := (69, [some (jm_r 8 0), some (jm_i a0), some (jm_i a1), some (jm_i a2), some (jm_i ((6 * a0) + a1))], [jm_i 1, jm_r 8 0], h4)) rfl ?_
        obtain ⟨v7, h7, hR, H⟩ := H
        refine jm_E_call rfl (Nat.le_of_ble_eq_true rfl) (Nat.le_of_ble_eq_true rfl) rfl hR trivial ?_
        refine jm_E_eq (x := (70, [some (jm_r 8 0), some (jm_i a0), some (jm_i a1), some (jm_i a2), some (jm_i ((6 * a0) + a1))], [jm_i v7], h7)) rfl ?_
        exact jm_E_ret rfl (by rw [H]; rfl)
      · replace H := H0 hc
        refine jm_E_n 3 (x' := (31, [some (jm_r 8 0), some (jm_i a0), some (jm_i a1), some (jm_i a2), some (jm_i ((6 * a0) + a1))], [jm_i ((6 * a0) + a1), jm_r 38 0], h4)) rfl ?_
        refine jm_E_iald rfl rfl H.1 ?_
        replace H := H.2
        refine jm_E_eq (x := (32, [some (jm_r 8 0), some (jm_i a0), some (jm_i a1), some (jm_i a2), some (jm_i ((6 * a0) + a1))], [jm_i (h4.1 38 0 (((6 * a0) + a1).toNatClampNeg))], h4)) rfl ?_
        exact jm_E_ret rfl (by rw [H]; rfl)
      · replace H := H1 hc
        refine jm_E_n 3 (x' := (36, [some (jm_r 8 0), some (jm_i a0), some (jm_i a1), some (jm_i a2), some (jm_i ((6 * a0) + a1))], [jm_i ((6 * a0) + a1), jm_r 39 0], h4)) rfl ?_
        refine jm_E_iald rfl rfl H.1 ?_
        replace H := H.2
        refine jm_E_eq (x := (37, [some (jm_r 8 0), some (jm_i a0), some (jm_i a1), some (jm_i a2), some (jm_i ((6 * a0) + a1))], [jm_i (h4.1 39 0 (((6 * a0) + a1).toNatClampNeg))], h4)) rfl ?_
        exact jm_E_ret rfl (by rw [H]; rfl)
      · replace H := H2 hc
        refine jm_E_n 3 (x' := (41, [some (jm_r 8 0), some (jm_i a0), some (jm_i a1), some (jm_i a2), some (jm_i ((6 * a0) + a1))], [jm_i ((6 * a0) + a1), jm_r 40 0], h4)) rfl ?_
        refine jm_E_iald rfl rfl H.1 ?_
        replace H := H.2
        refine jm_E_eq (x := (42, [some (jm_r 8 0), some (jm_i a0), some (jm_i a1), some (jm_i a2), some (jm_i ((6 * a0) + a1))], [jm_i (h4.1 40 0 (((6 * a0) + a1).toNatClampNeg))], h4)) rfl ?_
        exact jm_E_ret rfl (by rw [H]; rfl)
      · replace H := H3 hc
        refine jm_E_n 3 (x' := (46, [some (jm_r 8 0), some (jm_i a0), some (jm_i a1), some (jm_i a2), some (jm_i ((6 * a0) + a1))], [jm_i ((6 * a0) + a1), jm_r 41 0], h4)) rfl ?_
        refine jm_E_iald rfl rfl H.1 ?_
        replace H := H.2
        refine jm_E_eq (x := (47, [some (jm_r 8 0), some (jm_i a0), some (jm_i a1), some (jm_i a2), some (jm_i ((6 * a0) + a1))], [jm_i (h4.1 41 0 (((6 * a0) + a1).toNatClampNeg))], h4)) rfl ?_
        exact jm_E_ret rfl (by rw [H]; rfl)
      · replace H := H4 hc
        refine jm_E_n 3 (x' := (51, [some (jm_r 8 0), some (jm_i a0), some (jm_i a1), some (jm_i a2), some (jm_i ((6 * a0) + a1))], [jm_i a0, jm_r 37 0], h4)) rfl ?_
        refine jm_E_iald rfl rfl H.1 ?_
        replace H := H.2
        refine jm_E_eq (x := (52, [some (jm_r 8 0), some (jm_i a0), some (jm_i a1), some (jm_i a2), some (jm_i ((6 * a0) + a1))], [jm_i (h4.1 37 0 a0.toNatClampNeg)], h4)) rfl ?_
        refine jm_E_n 3 (x' := (55, [some (jm_r 8 0), some (jm_i a0), some (jm_i a1), some (jm_i a2), some (jm_i ((6 * a0) + a1))], [jm_i ((6 * a0) + a1), jm_r 39 0, jm_i (h4.1 37 0 a0.toNatClampNeg)], h4)) rfl ?_
        refine jm_E_iald rfl rfl H.1 ?_
        replace H := H.2
        refine jm_E_eq (x := (56, [some (jm_r 8 0), some (jm_i a0), some (jm_i a1), some (jm_i a2), some (jm_i ((6 * a0) + a1))], [jm_i (h4.1 39 0 (((6 * a0) + a1).toNatClampNeg)), jm_i (h4.1 37 0 a0.toNatClampNeg)], h4)) rfl ?_
        refine jm_E_idiv rfl H.1 ?_
        replace H := H.2
        refine jm_E_eq (x := (57, [some (jm_r 8 0), some (jm_i a0), some (jm_i a1), some (jm_i a2), some (jm_i ((6 * a0) + a1))], [jm_i ((h4.1 37 0 a0.toNatClampNeg) / (h4.1 39 0 (((6 * a0) + a1).toNatClampNeg)))], h4)) rfl ?_
        exact jm_E_ret rfl (by rw [H]; rfl)
      · replace H := H5 hc
        refine jm_E_n 6 (x' := (64, [some (jm_r 8 0), some (jm_i a0), some (jm_i a1), some (jm_i a2), some (jm_i ((6 * a0) + a1))], [jm_i a0, jm_r 34 0, jm_i a1, jm_i a0, jm_r 8 0], h4)) rfl ?_
        refine jm_E_iald rfl rfl H.1 ?_
        replace H := H.2
        refine jm_E_eq (x := (65, [some (jm_r 8 0), some (jm_i a0), some (jm_i a1), some (jm_i a2), some (jm_i ((6 * a0) + a1))], [jm_i (h4.1 34 0 a0.toNatClampNeg), jm_i a1, jm_i a0, jm_r 8 0], h4)) rfl ?_
        obtain ⟨v6, h6, hR, H⟩ := H
        refine jm_E_call rfl (Nat.le_of_ble_eq_true rfl) (Nat.le_of_ble_eq_true rfl) rfl hR trivial ?_
        refine jm_E_eq (x := (66, [some (jm_r 8 0), some (jm_i a0), some (jm_i a1), some (jm_i a2), some (jm_i ((6 * a0) + a1))], [jm_i v6], h6)) rfl ?_
        exact jm_E_ret rfl (by rw [H]; rfl)
set_option maxRecDepth 100000 in
theorem wp_M_job {a0 : Int32} {a1 : Int32} {a2 : Int32} {h : jm_H} {r : jm_Rs} (H :
  ∃ h1 : jm_H, m_M_anew h h1 ∧
  ∃ (v2 : Int32) (h2 : jm_H), m_M_isMode a0 h1 v2 h2 ∧
  (v2 = 0 →
    ∃ (v3 : Int32) (h3 : jm_H), m_M_no 1 h2 v3 h3 ∧
    r = (some (jm_i v3), h3)) ∧
  (¬ (v2 = 0) →
    jm_in a0 3 ∧
    ∃ (v4 : Int32) (h4 : jm_H), m_M_in a1 0 ((h2.1 42 0 a0.toNatClampNeg) - 1) h2 v4 h4 ∧
    (v4 = 0 →
      ∃ (v5 : Int32) (h5 : jm_H), m_M_no 1 h4 v5 h5 ∧
      r = (some (jm_i v5), h5)) ∧
    (¬ (v4 = 0) →
      jm_in a0 6 ∧
      ∃ (v6 : Int32) (h6 : jm_H), m_M_isEmpty a0 a1 (h4.1 34 0 a0.toNatClampNeg) h4 v6 h6 ∧
      (v6 = 0 →
        (a2 = 0 →
          jm_in ((24 * a0) + a1) 72 ∧
          r = (some (jm_i (h6.1 43 0 (((24 * a0) + a1).toNatClampNeg))), h6)) ∧
        (a2 = 1 →
          jm_in ((24 * a0) + a1) 72 ∧
          r = (some (jm_i (h6.1 44 0 (((24 * a0) + a1).toNatClampNeg))), h6)) ∧
        (a2 = 2 →
          ∃ (v7 : Int32) (h7 : jm_H), m_M_dueOf a0 a1 h6 v7 h7 ∧
          r = (some (jm_i v7), h7)) ∧
        (a2 = 3 →
          ∃ (v8 : Int32) (h8 : jm_H), m_M_taskOf a0 a1 h6 v8 h8 ∧
          jm_in v8 36 ∧
          r = (some (jm_i (h8.1 40 0 v8.toNatClampNeg)), h8)) ∧
        (a2 = 4 →
          jm_in a0 6 ∧
          ∃ (v9 : Int32) (h9 : jm_H), m_M_firstOf a0 a1 (h6.1 34 0 a0.toNatClampNeg) h6 v9 h9 ∧
          r = (some (jm_i v9), h9)) ∧
        (a2 = 5 →
          jm_in a0 6 ∧
          ∃ (v10 : Int32) (h10 : jm_H), m_M_lastOf a0 a1 (h6.1 34 0 a0.toNatClampNeg) h6 v10 h10 ∧
          r = (some (jm_i v10), h10)) ∧
        (a2.toInt < 0 ∨ 6 ≤ a2.toInt →
          ∃ (v11 : Int32) (h11 : jm_H), m_M_no 1 h6 v11 h11 ∧
          r = (some (jm_i v11), h11))) ∧
      (¬ (v6 = 0) →
        (a2 = 0 →
          jm_in ((24 * a0) + a1) 72 ∧
          r = (some (jm_i (h6.1 43 0 (((24 * a0) + a1).toNatClampNeg))), h6)) ∧
        (a2 = 1 →
          jm_in ((24 * a0) + a1) 72 ∧
          r = (some (jm_i (h6.1 44 0 (((24 * a0) + a1).toNatClampNeg))), h6)) ∧
        (a2 = 2 →
          ∃ (v12 : Int32) (h12 : jm_H), m_M_dueOf a0 a1 h6 v12 h12 ∧
          r = (some (jm_i v12), h12)) ∧
        (a2 = 3 →
          ∃ (v13 : Int32) (h13 : jm_H), m_M_taskOf a0 a1 h6 v13 h13 ∧
          jm_in v13 36 ∧
          r = (some (jm_i (h13.1 40 0 v13.toNatClampNeg)), h13)) ∧
        (a2 = 4 →
          r = (some (jm_i (-2)), h6)) ∧
        (a2 = 5 →
          r = (some (jm_i (-2)), h6)) ∧
        (a2.toInt < 0 ∨ 6 ≤ a2.toInt →
          ∃ (v14 : Int32) (h14 : jm_H), m_M_no 1 h6 v14 h14 ∧
          r = (some (jm_i v14), h14)))))) : jm_R 116 [jm_r 8 0, jm_i a0, jm_i a1, jm_i a2] h r := by
  refine jm_R_of hz_116 (Nat.le_of_ble_eq_true rfl) ?_
  show jm_E cod_116 (0, [some (jm_r 8 0), some (jm_i a0), some (jm_i a1), some (jm_i a2), none], [], h) r
  refine jm_E_n 1 (x' := (1, [some (jm_r 8 0), some (jm_i a0), some (jm_i a1), some (jm_i a2), none], [jm_r 8 0], h)) rfl ?_
  obtain ⟨h1, hR, H⟩ := H
  refine jm_E_call rfl (Nat.le_of_ble_eq_true rfl) (Nat.le_of_ble_eq_true rfl) rfl hR trivial ?_
  refine jm_E_eq (x := (2, [some (jm_r 8 0), some (jm_i a0), some (jm_i a1), some (jm_i a2), none], [], h1)) rfl ?_
  refine jm_E_n 2 (x' := (4, [some (jm_r 8 0), some (jm_i a0), some (jm_i a1), some (jm_i a2), none], [jm_i a0, jm_r 8 0], h1)) rfl ?_
  obtain ⟨v2, h2, hR, H⟩ := H
  refine jm_E_call rfl (Nat.le_of_ble_eq_true rfl) (Nat.le_of_ble_eq_true rfl) rfl hR trivial ?_
  refine jm_E_eq (x := (5, [some (jm_r 8 0), some (jm_i a0), some (jm_i a1), some (jm_i a2), none], [jm_i v2], h2)) rfl ?_
  refine jm_E_n 1 (x' := (if v2 = 0 then 16 else 6, [some (jm_r 8 0), some (jm_i a0), some (jm_i a1), some (jm_i a2), none], [], h2)) rfl ?_
  refine jm_E_ite (fun hc => ?_) (fun hc => ?_)
  · replace H := H.1 hc
    refine jm_E_n 2 (x' := (18, [some (jm_r 8 0), some (jm_i a0), some (jm_i a1), some (jm_i a2), none], [jm_i 1, jm_r 8 0], h2)) rfl ?_
    obtain ⟨v3, h3, hR, H⟩ := H
    refine jm_E_call rfl (Nat.le_of_ble_eq_true rfl) (Nat.le_of_ble_eq_true rfl) rfl hR trivial ?_
    refine jm_E_eq (x := (19, [some (jm_r 8 0), some (jm_i a0), some (jm_i a1), some (jm_i a2), none], [jm_i v3], h3)) rfl ?_
    exact jm_E_ret rfl (by rw [H]; rfl)
  · replace H := H.2 hc
    refine jm_E_n 5 (x' := (11, [some (jm_r 8 0), some (jm_i a0), some (jm_i a1), some (jm_i a2), none], [jm_i a0, jm_r 42 0, jm_i 0, jm_i a1], h2)) rfl ?_
    refine jm_E_iald rfl rfl H.1 ?_
    replace H := H.2
    refine jm_E_eq (x := (12, [some (jm_r 8 0), some (jm_i a0), some (jm_i a1), some (jm_i a2), none], [jm_i (h2.1 42 0 a0.toNatClampNeg), jm_i 0, jm_i a1], h2)) rfl ?_
    refine jm_E_n 2 (x' := (14, [some (jm_r 8 0), some (jm_i a0), some (jm_i a1), some (jm_i a2), none], [jm_i ((h2.1 42 0 a0.toNatClampNeg) - 1), jm_i 0, jm_i a1], h2)) rfl ?_
    obtain ⟨v4, h4, hR, H⟩ := H
    refine jm_E_call rfl (Nat.le_of_ble_eq_true rfl) (Nat.le_of_ble_eq_true rfl) trivial hR trivial ?_
    refine jm_E_eq (x := (15, [some (jm_r 8 0), some (jm_i a0), some (jm_i a1), some (jm_i a2), none], [jm_i v4], h4)) rfl ?_
    refine jm_E_n 1 (x' := (if v4 = 0 then 16 else 20, [some (jm_r 8 0), some (jm_i a0), some (jm_i a1), some (jm_i a2), none], [], h4)) rfl ?_
    refine jm_E_ite (fun hc => ?_) (fun hc => ?_)
    · replace H := H.1 hc
      refine jm_E_n 2 (x' := (18, [some (jm_r 8 0), some (jm_i a0), some (jm_i a1), some (jm_i a2), none], [jm_i 1, jm_r 8 0], h4)) rfl ?_
      obtain ⟨v5, h5, hR, H⟩ := H
      refine jm_E_call rfl (Nat.le_of_ble_eq_true rfl) (Nat.le_of_ble_eq_true rfl) rfl hR trivial ?_
      refine jm_E_eq (x := (19, [some (jm_r 8 0), some (jm_i a0), some (jm_i a1), some (jm_i a2), none], [jm_i v5], h5)) rfl ?_
      exact jm_E_ret rfl (by rw [H]; rfl)
    · replace H := H.2 hc
      refine jm_E_n 6 (x' := (26, [some (jm_r 8 0), some (jm_i a0), some (jm_i a1), some (jm_i a2), none], [jm_i a0, jm_r 34 0, jm_i a1, jm_i a0, jm_r 8 0], h4)) rfl ?_
      refine jm_E_iald rfl rfl H.1 ?_
      replace H := H.2
      refine jm_E_eq (x := (27, [some (jm_r 8 0), some (jm_i a0), some (jm_i a1), some (jm_i a2), none], [jm_i (h4.1 34 0 a0.toNatClampNeg), jm_i a1, jm_i a0, jm_r 8 0], h4)) rfl ?_
      obtain ⟨v6, h6, hR, H⟩ := H
      refine jm_E_call rfl (Nat.le_of_ble_eq_true rfl) (Nat.le_of_ble_eq_true rfl) rfl hR trivial ?_
      refine jm_E_eq (x := (28, [some (jm_r 8 0), some (jm_i a0), some (jm_i a1), some (jm_i a2), none], [jm_i v6], h6)) rfl ?_
      refine jm_E_n 1 (x' := (if v6 = 0 then 29 else 31, [some (jm_r 8 0), some (jm_i a0), some (jm_i a1), some (jm_i a2), none], [], h6)) rfl ?_
      refine jm_E_ite (fun hc => ?_) (fun hc => ?_)
      · replace H := H.1 hc
        refine jm_E_n 5 (x' := (if a2.toInt < 0 ∨ 0 + (6 : Nat) ≤ a2.toInt then 92 else ([35, 44, 53, 58, 66, 79] : List Nat).getD (a2.toInt - 0).toNat 0, [some (jm_r 8 0), some (jm_i a0), some (jm_i a1), some (jm_i a2), some (jm_i 1)], [], h6)) rfl ?_
        obtain ⟨H0, H1, H2, H3, H4, H5, HD⟩ := H
        refine jm_E_tsw6 (fun hc => ?_) (fun hc => ?_) (fun hc => ?_) (fun hc => ?_) (fun hc => ?_) (fun hc => ?_) (fun hc => ?_)
        · replace H := HD hc
          refine jm_E_n 2 (x' := (94, [some (jm_r 8 0), some (jm_i a0), some (jm_i a1), some (jm_i a2), some (jm_i 1)], [jm_i 1, jm_r 8 0], h6)) rfl ?_
          obtain ⟨v11, h11, hR, H⟩ := H
          refine jm_E_call rfl (Nat.le_of_ble_eq_true rfl) (Nat.le_of_ble_eq_true rfl) rfl hR trivial ?_
          refine jm_E_eq (x := (95, [some (jm_r 8 0), some (jm_i a0), some (jm_i a1), some (jm_i a2), some (jm_i 1)], [jm_i v11], h11)) rfl ?_
          exact jm_E_ret rfl (by rw [H]; rfl)
        · replace H := H0 hc
          refine jm_E_n 7 (x' := (42, [some (jm_r 8 0), some (jm_i a0), some (jm_i a1), some (jm_i a2), some (jm_i 1)], [jm_i ((24 * a0) + a1), jm_r 43 0], h6)) rfl ?_
          refine jm_E_iald rfl rfl H.1 ?_
          replace H := H.2
          refine jm_E_eq (x := (43, [some (jm_r 8 0), some (jm_i a0), some (jm_i a1), some (jm_i a2), some (jm_i 1)], [jm_i (h6.1 43 0 (((24 * a0) + a1).toNatClampNeg))], h6)) rfl ?_
          exact jm_E_ret rfl (by rw [H]; rfl)
        · replace H := H1 hc
          refine jm_E_n 7 (x' := (51, [some (jm_r 8 0), some (jm_i a0), some (jm_i a1), some (jm_i a2), some (jm_i 1)], [jm_i ((24 * a0) + a1), jm_r 44 0], h6)) rfl ?_
          refine jm_E_iald rfl rfl H.1 ?_
          replace H := H.2
          refine jm_E_eq (x := (52, [some (jm_r 8 0), some (jm_i a0), some (jm_i a1), some (jm_i a2), some (jm_i 1)], [jm_i (h6.1 44 0 (((24 * a0) + a1).toNatClampNeg))], h6)) rfl ?_
          exact jm_E_ret rfl (by rw [H]; rfl)
        · replace H := H2 hc
          refine jm_E_n 3 (x' := (56, [some (jm_r 8 0), some (jm_i a0), some (jm_i a1), some (jm_i a2), some (jm_i 1)], [jm_i a1, jm_i a0, jm_r 8 0], h6)) rfl ?_
          obtain ⟨v7, h7, hR, H⟩ := H
          refine jm_E_call rfl (Nat.le_of_ble_eq_true rfl) (Nat.le_of_ble_eq_true rfl) rfl hR trivial ?_
          refine jm_E_eq (x := (57, [some (jm_r 8 0), some (jm_i a0), some (jm_i a1), some (jm_i a2), some (jm_i 1)], [jm_i v7], h7)) rfl ?_
          exact jm_E_ret rfl (by rw [H]; rfl)
        · replace H := H3 hc
          refine jm_E_n 5 (x' := (63, [some (jm_r 8 0), some (jm_i a0), some (jm_i a1), some (jm_i a2), some (jm_i 1)], [jm_i a1, jm_i a0, jm_r 8 0, jm_r 40 0], h6)) rfl ?_
          obtain ⟨v8, h8, hR, H⟩ := H
          refine jm_E_call rfl (Nat.le_of_ble_eq_true rfl) (Nat.le_of_ble_eq_true rfl) rfl hR trivial ?_
          refine jm_E_eq (x := (64, [some (jm_r 8 0), some (jm_i a0), some (jm_i a1), some (jm_i a2), some (jm_i 1)], [jm_i v8, jm_r 40 0], h8)) rfl ?_
          refine jm_E_iald rfl rfl H.1 ?_
          replace H := H.2
          refine jm_E_eq (x := (65, [some (jm_r 8 0), some (jm_i a0), some (jm_i a1), some (jm_i a2), some (jm_i 1)], [jm_i (h8.1 40 0 v8.toNatClampNeg)], h8)) rfl ?_
          exact jm_E_ret rfl (by rw [H]; rfl)
        · replace H := H4 hc
          refine jm_E_n 8 (x' := (74, [some (jm_r 8 0), some (jm_i a0), some (jm_i a1), some (jm_i a2), some (jm_i 1)], [jm_i a0, jm_r 34 0, jm_i a1, jm_i a0, jm_r 8 0], h6)) rfl ?_
          refine jm_E_iald rfl rfl H.1 ?_
          replace H := H.2
          refine jm_E_eq (x := (75, [some (jm_r 8 0), some (jm_i a0), some (jm_i a1), some (jm_i a2), some (jm_i 1)], [jm_i (h6.1 34 0 a0.toNatClampNeg), jm_i a1, jm_i a0, jm_r 8 0], h6)) rfl ?_
          obtain ⟨v9, h9, hR, H⟩ := H
          refine jm_E_call rfl (Nat.le_of_ble_eq_true rfl) (Nat.le_of_ble_eq_true rfl) rfl hR trivial ?_
          refine jm_E_eq (x := (76, [some (jm_r 8 0), some (jm_i a0), some (jm_i a1), some (jm_i a2), some (jm_i 1)], [jm_i v9], h9)) rfl ?_
          refine jm_E_n 1 (x' := (78, [some (jm_r 8 0), some (jm_i a0), some (jm_i a1), some (jm_i a2), some (jm_i 1)], [jm_i v9], h9)) rfl ?_
          exact jm_E_ret rfl (by rw [H]; rfl)
        · replace H := H5 hc
          refine jm_E_n 8 (x' := (87, [some (jm_r 8 0), some (jm_i a0), some (jm_i a1), some (jm_i a2), some (jm_i 1)], [jm_i a0, jm_r 34 0, jm_i a1, jm_i a0, jm_r 8 0], h6)) rfl ?_
          refine jm_E_iald rfl rfl H.1 ?_
          replace H := H.2
          refine jm_E_eq (x := (88, [some (jm_r 8 0), some (jm_i a0), some (jm_i a1), some (jm_i a2), some (jm_i 1)], [jm_i (h6.1 34 0 a0.toNatClampNeg), jm_i a1, jm_i a0, jm_r 8 0], h6)) rfl ?_
          obtain ⟨v10, h10, hR, H⟩ := H
          refine jm_E_call rfl (Nat.le_of_ble_eq_true rfl) (Nat.le_of_ble_eq_true rfl) rfl hR trivial ?_
          refine jm_E_eq (x := (89, [some (jm_r 8 0), some (jm_i a0), some (jm_i a1), some (jm_i a2), some (jm_i 1)], [jm_i v10], h10)) rfl ?_
          refine jm_E_n 1 (x' := (91, [some (jm_r 8 0), some (jm_i a0), some (jm_i a1), some (jm_i a2), some (jm_i 1)], [jm_i v10], h10)) rfl ?_
          exact jm_E_ret rfl (by rw [H]; rfl)
      · replace H := H.2 hc
        refine jm_E_n 4 (x' := (if a2.toInt < 0 ∨ 0 + (6 : Nat) ≤ a2.toInt then 92 else ([35, 44, 53, 58, 66, 79] : List Nat).getD (a2.toInt - 0).toNat 0, [some (jm_r 8 0), some (jm_i a0), some (jm_i a1), some (jm_i a2), some (jm_i 0)], [], h6)) rfl ?_
        obtain ⟨H0, H1, H2, H3, H4, H5, HD⟩ := H
        refine jm_E_tsw6 (fun hc => ?_) (fun hc => ?_) (fun hc => ?_) (fun hc => ?_) (fun hc => ?_) (fun hc => ?_) (fun hc => ?_)
        · replace H := HD hc
          refine jm_E_n 2 (x' := (94, [some (jm_r 8 0), some (jm_i a0), some (jm_i a1), some (jm_i a2), some (jm_i 0)], [jm_i 1, jm_r 8 0], h6)) rfl ?_
          obtain ⟨v14, h14, hR, H⟩ := H
          refine jm_E_call rfl (Nat.le_of_ble_eq_true rfl) (Nat.le_of_ble_eq_true rfl) rfl hR trivial ?_
          refine jm_E_eq (x := (95, [some (jm_r 8 0), some (jm_i a0), some (jm_i a1), some (jm_i a2), some (jm_i 0)], [jm_i v14], h14)) rfl ?_
          exact jm_E_ret rfl (by rw [H]; rfl)
        · replace H := H0 hc
          refine jm_E_n 7 (x' := (42, [some (jm_r 8 0), some (jm_i a0), some (jm_i a1), some (jm_i a2), some (jm_i 0)], [jm_i ((24 * a0) + a1), jm_r 43 0], h6)) rfl ?_
          refine jm_E_iald rfl rfl H.1 ?_
          replace H := H.2
          refine jm_E_eq (x := (43, [some (jm_r 8 0), some (jm_i a0), some (jm_i a1), some (jm_i a2), some (jm_i 0)], [jm_i (h6.1 43 0 (((24 * a0) + a1).toNatClampNeg))], h6)) rfl ?_
          exact jm_E_ret rfl (by rw [H]; rfl)
        · replace H := H1 hc
          refine jm_E_n 7 (x' := (51, [some (jm_r 8 0), some (jm_i a0), some (jm_i a1), some (jm_i a2), some (jm_i 0)], [jm_i ((24 * a0) + a1), jm_r 44 0], h6)) rfl ?_
          refine jm_E_iald rfl rfl H.1 ?_
          replace H := H.2
          refine jm_E_eq (x := (52, [some (jm_r 8 0), some (jm_i a0), some (jm_i a1), some (jm_i a2), some (jm_i 0)], [jm_i (h6.1 44 0 (((24 * a0) + a1).toNatClampNeg))], h6)) rfl ?_
          exact jm_E_ret rfl (by rw [H]; rfl)
        · replace H := H2 hc
          refine jm_E_n 3 (x' := (56, [some (jm_r 8 0), some (jm_i a0), some (jm_i a1), some (jm_i a2), some (jm_i 0)], [jm_i a1, jm_i a0, jm_r 8 0], h6)) rfl ?_
          obtain ⟨v12, h12, hR, H⟩ := H
          refine jm_E_call rfl (Nat.le_of_ble_eq_true rfl) (Nat.le_of_ble_eq_true rfl) rfl hR trivial ?_
          refine jm_E_eq (x := (57, [some (jm_r 8 0), some (jm_i a0), some (jm_i a1), some (jm_i a2), some (jm_i 0)], [jm_i v12], h12)) rfl ?_
          exact jm_E_ret rfl (by rw [H]; rfl)
        · replace H := H3 hc
          refine jm_E_n 5 (x' := (63, [some (jm_r 8 0), some (jm_i a0), some (jm_i a1), some (jm_i a2), some (jm_i 0)], [jm_i a1, jm_i a0, jm_r 8 0, jm_r 40 0], h6)) rfl ?_
          obtain ⟨v13, h13, hR, H⟩ := H
          refine jm_E_call rfl (Nat.le_of_ble_eq_true rfl) (Nat.le_of_ble_eq_true rfl) rfl hR trivial ?_
          refine jm_E_eq (x := (64, [some (jm_r 8 0), some (jm_i a0), some (jm_i a1), some (jm_i a2), some (jm_i 0)], [jm_i v13, jm_r 40 0], h13)) rfl ?_
          refine jm_E_iald rfl rfl H.1 ?_
          replace H := H.2
          refine jm_E_eq (x := (65, [some (jm_r 8 0), some (jm_i a0), some (jm_i a1), some (jm_i a2), some (jm_i 0)], [jm_i (h13.1 40 0 v13.toNatClampNeg)], h13)) rfl ?_
          exact jm_E_ret rfl (by rw [H]; rfl)
        · replace H := H4 hc
          refine jm_E_n 3 (x' := (78, [some (jm_r 8 0), some (jm_i a0), some (jm_i a1), some (jm_i a2), some (jm_i 0)], [jm_i (-2)], h6)) rfl ?_
          exact jm_E_ret rfl (by rw [H]; rfl)
        · replace H := H5 hc
          refine jm_E_n 3 (x' := (91, [some (jm_r 8 0), some (jm_i a0), some (jm_i a1), some (jm_i a2), some (jm_i 0)], [jm_i (-2)], h6)) rfl ?_
          exact jm_E_ret rfl (by rw [H]; rfl)
set_option maxRecDepth 100000 in
theorem wp_M_load_15 {x1 : Int32} {x2 : UInt64} {x4 : Int32} {h : jm_H} {r : jm_Rs} (H :
  jm_in x1 6 ∧
  ((h.1 36 0 x1.toNatClampNeg) ≤ x4 →
    ∃ (v4 : Int64) (h4 : jm_H), m_JDouble_doubleToLongBits x2 h v4 h4 ∧
    r = (some (.inl (.long v4)), h4)) ∧
  (¬ ((h.1 36 0 x1.toNatClampNeg) ≤ x4) →
    jm_in ((6 * x1) + x4) 36 ∧
    jm_in ((6 * x1) + x4) 36 ∧
    (FP.ddiv (FP.i2d (h.1 40 0 (((6 * x1) + x4).toNatClampNeg))) (FP.i2d (h.1 39 0 (((6 * x1) + x4).toNatClampNeg))) &&& 0x7fffffffffffffff ≤ 0x7ff0000000000000) ∧
    (FP.dadd x2 (FP.ddiv (FP.i2d (h.1 40 0 (((6 * x1) + x4).toNatClampNeg))) (FP.i2d (h.1 39 0 (((6 * x1) + x4).toNatClampNeg)))) &&& 0x7fffffffffffffff ≤ 0x7ff0000000000000) ∧
    l_M_load_15 x1 (FP.dadd x2 (FP.ddiv (FP.i2d (h.1 40 0 (((6 * x1) + x4).toNatClampNeg))) (FP.i2d (h.1 39 0 (((6 * x1) + x4).toNatClampNeg))))) (x4 + 1) h r)) : l_M_load_15 x1 x2 x4 h r := by
  refine jm_E_n 4 (x' := (19, [some (jm_r 8 0), some (jm_i x1), some (.inl (.double x2)), none, some (jm_i x4)], [jm_i x1, jm_r 36 0, jm_i x4], h)) rfl ?_
  refine jm_E_iald rfl rfl H.1 ?_
  replace H := H.2
  refine jm_E_eq (x := (20, [some (jm_r 8 0), some (jm_i x1), some (.inl (.double x2)), none, some (jm_i x4)], [jm_i (h.1 36 0 x1.toNatClampNeg), jm_i x4], h)) rfl ?_
  refine jm_E_n 1 (x' := (if (h.1 36 0 x1.toNatClampNeg) ≤ x4 then 45 else 21, [some (jm_r 8 0), some (jm_i x1), some (.inl (.double x2)), none, some (jm_i x4)], [], h)) rfl ?_
  refine jm_E_ite (fun hc => ?_) (fun hc => ?_)
  · replace H := H.1 hc
    refine jm_E_n 1 (x' := (46, [some (jm_r 8 0), some (jm_i x1), some (.inl (.double x2)), none, some (jm_i x4)], [.inl (.double x2)], h)) rfl ?_
    obtain ⟨v4, h4, hR, H⟩ := H
    refine jm_E_call rfl (Nat.le_of_ble_eq_true rfl) (Nat.le_of_ble_eq_true rfl) trivial hR trivial ?_
    refine jm_E_eq (x := (47, [some (jm_r 8 0), some (jm_i x1), some (.inl (.double x2)), none, some (jm_i x4)], [.inl (.long v4)], h4)) rfl ?_
    exact jm_E_ret rfl (by rw [H]; rfl)
  · replace H := H.2 hc
    refine jm_E_n 8 (x' := (29, [some (jm_r 8 0), some (jm_i x1), some (.inl (.double x2)), none, some (jm_i x4)], [jm_i ((6 * x1) + x4), jm_r 40 0, .inl (.double x2)], h)) rfl ?_
    refine jm_E_iald rfl rfl H.1 ?_
    replace H := H.2
    refine jm_E_eq (x := (30, [some (jm_r 8 0), some (jm_i x1), some (.inl (.double x2)), none, some (jm_i x4)], [jm_i (h.1 40 0 (((6 * x1) + x4).toNatClampNeg)), .inl (.double x2)], h)) rfl ?_
    refine jm_E_n 8 (x' := (38, [some (jm_r 8 0), some (jm_i x1), some (.inl (.double x2)), none, some (jm_i x4)], [jm_i ((6 * x1) + x4), jm_r 39 0, .inl (.double (FP.i2d (h.1 40 0 (((6 * x1) + x4).toNatClampNeg)))), .inl (.double x2)], h)) rfl ?_
    refine jm_E_iald rfl rfl H.1 ?_
    replace H := H.2
    refine jm_E_eq (x := (39, [some (jm_r 8 0), some (jm_i x1), some (.inl (.double x2)), none, some (jm_i x4)], [jm_i (h.1 39 0 (((6 * x1) + x4).toNatClampNeg)), .inl (.double (FP.i2d (h.1 40 0 (((6 * x1) + x4).toNatClampNeg)))), .inl (.double x2)], h)) rfl ?_
    refine jm_E_n 1 (x' := (40, [some (jm_r 8 0), some (jm_i x1), some (.inl (.double x2)), none, some (jm_i x4)], [.inl (.double (FP.i2d (h.1 39 0 (((6 * x1) + x4).toNatClampNeg)))), .inl (.double (FP.i2d (h.1 40 0 (((6 * x1) + x4).toNatClampNeg)))), .inl (.double x2)], h)) rfl ?_
    refine jm_E_dbin rfl H.1 ?_
    replace H := H.2
    refine jm_E_eq (x := (41, [some (jm_r 8 0), some (jm_i x1), some (.inl (.double x2)), none, some (jm_i x4)], [.inl (.double (FP.ddiv (FP.i2d (h.1 40 0 (((6 * x1) + x4).toNatClampNeg))) (FP.i2d (h.1 39 0 (((6 * x1) + x4).toNatClampNeg))))), .inl (.double x2)], h)) rfl ?_
    refine jm_E_dbin rfl H.1 ?_
    replace H := H.2
    refine jm_E_eq (x := (42, [some (jm_r 8 0), some (jm_i x1), some (.inl (.double x2)), none, some (jm_i x4)], [.inl (.double (FP.dadd x2 (FP.ddiv (FP.i2d (h.1 40 0 (((6 * x1) + x4).toNatClampNeg))) (FP.i2d (h.1 39 0 (((6 * x1) + x4).toNatClampNeg))))))], h)) rfl ?_
    refine jm_E_n 3 (x' := (15, [some (jm_r 8 0), some (jm_i x1), some (.inl (.double (FP.dadd x2 (FP.ddiv (FP.i2d (h.1 40 0 (((6 * x1) + x4).toNatClampNeg))) (FP.i2d (h.1 39 0 (((6 * x1) + x4).toNatClampNeg))))))), none, some (jm_i (x4 + 1))], [], h)) rfl ?_
    exact H
set_option maxRecDepth 100000 in
theorem wp_M_load {a0 : Int32} {h : jm_H} {r : jm_Rs} (H :
  ∃ h1 : jm_H, m_M_anew h h1 ∧
  ∃ (v2 : Int32) (h2 : jm_H), m_M_isMode a0 h1 v2 h2 ∧
  (v2 = 0 →
    ∃ (v3 : Int32) (h3 : jm_H), m_M_no 1 h2 v3 h3 ∧
    r = (some (.inl (.long v3.toInt64)), h3)) ∧
  (¬ (v2 = 0) →
    l_M_load_15 a0 FP.dconst0 0 h2 r)) : jm_R 117 [jm_r 8 0, jm_i a0] h r := by
  refine jm_R_of hz_117 (Nat.le_of_ble_eq_true rfl) ?_
  show jm_E cod_117 (0, [some (jm_r 8 0), some (jm_i a0), none, none, none], [], h) r
  refine jm_E_n 1 (x' := (1, [some (jm_r 8 0), some (jm_i a0), none, none, none], [jm_r 8 0], h)) rfl ?_
  obtain ⟨h1, hR, H⟩ := H
  refine jm_E_call rfl (Nat.le_of_ble_eq_true rfl) (Nat.le_of_ble_eq_true rfl) rfl hR trivial ?_
  refine jm_E_eq (x := (2, [some (jm_r 8 0), some (jm_i a0), none, none, none], [], h1)) rfl ?_
  refine jm_E_n 2 (x' := (4, [some (jm_r 8 0), some (jm_i a0), none, none, none], [jm_i a0, jm_r 8 0], h1)) rfl ?_
  obtain ⟨v2, h2, hR, H⟩ := H
  refine jm_E_call rfl (Nat.le_of_ble_eq_true rfl) (Nat.le_of_ble_eq_true rfl) rfl hR trivial ?_
  refine jm_E_eq (x := (5, [some (jm_r 8 0), some (jm_i a0), none, none, none], [jm_i v2], h2)) rfl ?_
  refine jm_E_n 1 (x' := (if v2 = 0 then 6 else 11, [some (jm_r 8 0), some (jm_i a0), none, none, none], [], h2)) rfl ?_
  refine jm_E_ite (fun hc => ?_) (fun hc => ?_)
  · replace H := H.1 hc
    refine jm_E_n 2 (x' := (8, [some (jm_r 8 0), some (jm_i a0), none, none, none], [jm_i 1, jm_r 8 0], h2)) rfl ?_
    obtain ⟨v3, h3, hR, H⟩ := H
    refine jm_E_call rfl (Nat.le_of_ble_eq_true rfl) (Nat.le_of_ble_eq_true rfl) rfl hR trivial ?_
    refine jm_E_eq (x := (9, [some (jm_r 8 0), some (jm_i a0), none, none, none], [jm_i v3], h3)) rfl ?_
    refine jm_E_n 1 (x' := (10, [some (jm_r 8 0), some (jm_i a0), none, none, none], [.inl (.long v3.toInt64)], h3)) rfl ?_
    exact jm_E_ret rfl (by rw [H]; rfl)
  · replace H := H.2 hc
    refine jm_E_n 4 (x' := (15, [some (jm_r 8 0), some (jm_i a0), some (.inl (.double FP.dconst0)), none, some (jm_i 0)], [], h2)) rfl ?_
    exact H
set_option maxRecDepth 100000 in
theorem wp_M_setsUp_32 {x1 : Int32} {x2 : Int32} {x3 : Int32} {h : jm_H} {r : jm_Rs} (H :
  ((h.1 8 0 28) ≤ x3 →
    r = (none, h)) ∧
  (¬ ((h.1 8 0 28) ≤ x3) →
    ∃ (v1 : Int32) (h1 : jm_H), m_M_firstOf x1 x3 x2 h v1 h1 ∧
    jm_in x3 24 ∧
    ∃ (v2 : Int32) (h2 : jm_H), m_M_lastOf x1 x3 x2 (jm_sI h1 45 0 x3.toNatClampNeg v1) v2 h2 ∧
    jm_in x3 24 ∧
    ∃ (v3 : Int32) (h3 : jm_H), m_M_taskOf x1 x3 (jm_sI h2 46 0 x3.toNatClampNeg v2) v3 h3 ∧
    jm_in v3 36 ∧
    jm_in x3 24 ∧
    l_M_setsUp_32 x1 x2 (x3 + 1) (jm_sI h3 47 0 x3.toNatClampNeg (h3.1 40 0 v3.toNatClampNeg)) r)) : l_M_setsUp_32 x1 x2 x3 h r := by
  refine jm_E_n 4 (x' := (if (h.1 8 0 28) ≤ x3 then 67 else 36, [some (jm_r 8 0), some (jm_i x1), some (jm_i x2), some (jm_i x3)], [], h)) rfl ?_
  refine jm_E_ite (fun hc => ?_) (fun hc => ?_)
  · replace H := H.1 hc
    exact jm_E_ret rfl (by rw [H]; rfl)
  · replace H := H.2 hc
    refine jm_E_n 7 (x' := (43, [some (jm_r 8 0), some (jm_i x1), some (jm_i x2), some (jm_i x3)], [jm_i x2, jm_i x3, jm_i x1, jm_r 8 0, jm_i x3, jm_r 45 0], h)) rfl ?_
    obtain ⟨v1, h1, hR, H⟩ := H
    refine jm_E_call rfl (Nat.le_of_ble_eq_true rfl) (Nat.le_of_ble_eq_true rfl) rfl hR trivial ?_
    refine jm_E_eq (x := (44, [some (jm_r 8 0), some (jm_i x1), some (jm_i x2), some (jm_i x3)], [jm_i v1, jm_i x3, jm_r 45 0], h1)) rfl ?_
    refine jm_E_iast rfl rfl H.1 ?_
    replace H := H.2
    refine jm_E_eq (x := (45, [some (jm_r 8 0), some (jm_i x1), some (jm_i x2), some (jm_i x3)], [], (jm_sI h1 45 0 x3.toNatClampNeg v1))) rfl ?_
    refine jm_E_n 7 (x' := (52, [some (jm_r 8 0), some (jm_i x1), some (jm_i x2), some (jm_i x3)], [jm_i x2, jm_i x3, jm_i x1, jm_r 8 0, jm_i x3, jm_r 46 0], (jm_sI h1 45 0 x3.toNatClampNeg v1))) rfl ?_
    obtain ⟨v2, h2, hR, H⟩ := H
    refine jm_E_call rfl (Nat.le_of_ble_eq_true rfl) (Nat.le_of_ble_eq_true rfl) rfl hR trivial ?_
    refine jm_E_eq (x := (53, [some (jm_r 8 0), some (jm_i x1), some (jm_i x2), some (jm_i x3)], [jm_i v2, jm_i x3, jm_r 46 0], h2)) rfl ?_
    refine jm_E_iast rfl rfl H.1 ?_
    replace H := H.2
    refine jm_E_eq (x := (54, [some (jm_r 8 0), some (jm_i x1), some (jm_i x2), some (jm_i x3)], [], (jm_sI h2 46 0 x3.toNatClampNeg v2))) rfl ?_
    refine jm_E_n 8 (x' := (62, [some (jm_r 8 0), some (jm_i x1), some (jm_i x2), some (jm_i x3)], [jm_i x3, jm_i x1, jm_r 8 0, jm_r 40 0, jm_i x3, jm_r 47 0], (jm_sI h2 46 0 x3.toNatClampNeg v2))) rfl ?_
    obtain ⟨v3, h3, hR, H⟩ := H
    refine jm_E_call rfl (Nat.le_of_ble_eq_true rfl) (Nat.le_of_ble_eq_true rfl) rfl hR trivial ?_
    refine jm_E_eq (x := (63, [some (jm_r 8 0), some (jm_i x1), some (jm_i x2), some (jm_i x3)], [jm_i v3, jm_r 40 0, jm_i x3, jm_r 47 0], h3)) rfl ?_
    refine jm_E_iald rfl rfl H.1 ?_
    replace H := H.2
    refine jm_E_eq (x := (64, [some (jm_r 8 0), some (jm_i x1), some (jm_i x2), some (jm_i x3)], [jm_i (h3.1 40 0 v3.toNatClampNeg), jm_i x3, jm_r 47 0], h3)) rfl ?_
    refine jm_E_iast rfl rfl H.1 ?_
    replace H := H.2
    refine jm_E_eq (x := (65, [some (jm_r 8 0), some (jm_i x1), some (jm_i x2), some (jm_i x3)], [], (jm_sI h3 47 0 x3.toNatClampNeg (h3.1 40 0 v3.toNatClampNeg)))) rfl ?_
    refine jm_E_n 2 (x' := (32, [some (jm_r 8 0), some (jm_i x1), some (jm_i x2), some (jm_i (x3 + 1))], [], (jm_sI h3 47 0 x3.toNatClampNeg (h3.1 40 0 v3.toNatClampNeg)))) rfl ?_
    exact H
set_option maxRecDepth 100000 in
theorem wp_M_setsUp {a0 : Int32} {a1 : Int32} {h : jm_H} {r : jm_Rs} (H :
  jm_in a0 6 ∧
  ¬ a1 = 0 ∧
  jm_in a0 6 ∧
  (a1 ≤ (h.1 35 0 a0.toNatClampNeg) →
    jm_in a0 3 ∧
    l_M_setsUp_32 a0 a1 0 (jm_sI (jm_sI (jm_sI h 8 0 26 ((h.1 37 0 a0.toNatClampNeg) / a1)) 8 0 27 0) 8 0 28 (h.1 42 0 a0.toNatClampNeg)) r) ∧
  (¬ (a1 ≤ (h.1 35 0 a0.toNatClampNeg)) →
    jm_in a0 6 ∧
    jm_in a0 3 ∧
    l_M_setsUp_32 a0 a1 0 (jm_sI (jm_sI (jm_sI h 8 0 26 ((h.1 37 0 a0.toNatClampNeg) / a1)) 8 0 27 (a1 - (h.1 35 0 a0.toNatClampNeg))) 8 0 28 (h.1 42 0 a0.toNatClampNeg)) r)) : jm_R 118 [jm_r 8 0, jm_i a0, jm_i a1] h r := by
  refine jm_R_of hz_118 (Nat.le_of_ble_eq_true rfl) ?_
  show jm_E cod_118 (0, [some (jm_r 8 0), some (jm_i a0), some (jm_i a1), none], [], h) r
  refine jm_E_n 4 (x' := (4, [some (jm_r 8 0), some (jm_i a0), some (jm_i a1), none], [jm_i a0, jm_r 37 0, jm_r 8 0], h)) rfl ?_
  refine jm_E_iald rfl rfl H.1 ?_
  replace H := H.2
  refine jm_E_eq (x := (5, [some (jm_r 8 0), some (jm_i a0), some (jm_i a1), none], [jm_i (h.1 37 0 a0.toNatClampNeg), jm_r 8 0], h)) rfl ?_
  refine jm_E_n 1 (x' := (6, [some (jm_r 8 0), some (jm_i a0), some (jm_i a1), none], [jm_i a1, jm_i (h.1 37 0 a0.toNatClampNeg), jm_r 8 0], h)) rfl ?_
  refine jm_E_idiv rfl H.1 ?_
  replace H := H.2
  refine jm_E_eq (x := (7, [some (jm_r 8 0), some (jm_i a0), some (jm_i a1), none], [jm_i ((h.1 37 0 a0.toNatClampNeg) / a1), jm_r 8 0], h)) rfl ?_
  refine jm_E_n 6 (x' := (13, [some (jm_r 8 0), some (jm_i a0), some (jm_i a1), none], [jm_i a0, jm_r 35 0, jm_i a1, jm_r 8 0], (jm_sI h 8 0 26 ((h.1 37 0 a0.toNatClampNeg) / a1)))) rfl ?_
  refine jm_E_iald rfl rfl H.1 ?_
  replace H := H.2
  refine jm_E_eq (x := (14, [some (jm_r 8 0), some (jm_i a0), some (jm_i a1), none], [jm_i (h.1 35 0 a0.toNatClampNeg), jm_i a1, jm_r 8 0], (jm_sI h 8 0 26 ((h.1 37 0 a0.toNatClampNeg) / a1)))) rfl ?_
  refine jm_E_n 1 (x' := (if a1 ≤ (h.1 35 0 a0.toNatClampNeg) then 22 else 15, [some (jm_r 8 0), some (jm_i a0), some (jm_i a1), none], [jm_r 8 0], (jm_sI h 8 0 26 ((h.1 37 0 a0.toNatClampNeg) / a1)))) rfl ?_
  refine jm_E_ite (fun hc => ?_) (fun hc => ?_)
  · replace H := H.1 hc
    refine jm_E_n 6 (x' := (28, [some (jm_r 8 0), some (jm_i a0), some (jm_i a1), none], [jm_i a0, jm_r 42 0, jm_r 8 0], (jm_sI (jm_sI h 8 0 26 ((h.1 37 0 a0.toNatClampNeg) / a1)) 8 0 27 0))) rfl ?_
    refine jm_E_iald rfl rfl H.1 ?_
    replace H := H.2
    refine jm_E_eq (x := (29, [some (jm_r 8 0), some (jm_i a0), some (jm_i a1), none], [jm_i (h.1 42 0 a0.toNatClampNeg), jm_r 8 0], (jm_sI (jm_sI h 8 0 26 ((h.1 37 0 a0.toNatClampNeg) / a1)) 8 0 27 0))) rfl ?_
    refine jm_E_n 3 (x' := (32, [some (jm_r 8 0), some (jm_i a0), some (jm_i a1), some (jm_i 0)], [], (jm_sI (jm_sI (jm_sI h 8 0 26 ((h.1 37 0 a0.toNatClampNeg) / a1)) 8 0 27 0) 8 0 28 (h.1 42 0 a0.toNatClampNeg)))) rfl ?_
    exact H
  · replace H := H.2 hc
    refine jm_E_n 4 (x' := (19, [some (jm_r 8 0), some (jm_i a0), some (jm_i a1), none], [jm_i a0, jm_r 35 0, jm_i a1, jm_r 8 0], (jm_sI h 8 0 26 ((h.1 37 0 a0.toNatClampNeg) / a1)))) rfl ?_
    refine jm_E_iald rfl rfl H.1 ?_
    replace H := H.2
    refine jm_E_eq (x := (20, [some (jm_r 8 0), some (jm_i a0), some (jm_i a1), none], [jm_i (h.1 35 0 a0.toNatClampNeg), jm_i a1, jm_r 8 0], (jm_sI h 8 0 26 ((h.1 37 0 a0.toNatClampNeg) / a1)))) rfl ?_
    refine jm_E_n 7 (x' := (28, [some (jm_r 8 0), some (jm_i a0), some (jm_i a1), none], [jm_i a0, jm_r 42 0, jm_r 8 0], (jm_sI (jm_sI h 8 0 26 ((h.1 37 0 a0.toNatClampNeg) / a1)) 8 0 27 (a1 - (h.1 35 0 a0.toNatClampNeg))))) rfl ?_
    refine jm_E_iald rfl rfl H.1 ?_
    replace H := H.2
    refine jm_E_eq (x := (29, [some (jm_r 8 0), some (jm_i a0), some (jm_i a1), none], [jm_i (h.1 42 0 a0.toNatClampNeg), jm_r 8 0], (jm_sI (jm_sI h 8 0 26 ((h.1 37 0 a0.toNatClampNeg) / a1)) 8 0 27 (a1 - (h.1 35 0 a0.toNatClampNeg))))) rfl ?_
    refine jm_E_n 3 (x' := (32, [some (jm_r 8 0), some (jm_i a0), some (jm_i a1), some (jm_i 0)], [], (jm_sI (jm_sI (jm_sI h 8 0 26 ((h.1 37 0 a0.toNatClampNeg) / a1)) 8 0 27 (a1 - (h.1 35 0 a0.toNatClampNeg))) 8 0 28 (h.1 42 0 a0.toNatClampNeg)))) rfl ?_
    exact H
set_option maxRecDepth 100000 in
theorem wp_M_asksIn_4 {x1 : Int32} {x2 : Int32} {x3 : Int32} {x4 : Int32} {h : jm_H} {r : jm_Rs} (H :
  ((h.1 8 0 28) ≤ x4 →
    r = (some (jm_i x3), h)) ∧
  (¬ ((h.1 8 0 28) ≤ x4) →
    jm_in x4 24 ∧
    jm_in x4 24 ∧
    ((h.1 46 0 x4.toNatClampNeg) < (h.1 45 0 x4.toNatClampNeg) →
      l_M_asksIn_4 x1 x2 (x3 + 0) (x4 + 1) h r) ∧
    (¬ ((h.1 46 0 x4.toNatClampNeg) < (h.1 45 0 x4.toNatClampNeg)) →
      jm_in x4 24 ∧
      ((h.1 45 0 x4.toNatClampNeg) < x1 →
        l_M_asksIn_4 x1 x2 (x3 + 0) (x4 + 1) h r) ∧
      (¬ ((h.1 45 0 x4.toNatClampNeg) < x1) →
        jm_in x4 24 ∧
        (x2 < (h.1 46 0 x4.toNatClampNeg) →
          l_M_asksIn_4 x1 x2 (x3 + 0) (x4 + 1) h r) ∧
        (¬ (x2 < (h.1 46 0 x4.toNatClampNeg)) →
          jm_in x4 24 ∧
          l_M_asksIn_4 x1 x2 (x3 + (h.1 47 0 x4.toNatClampNeg)) (x4 + 1) h r))))) : l_M_asksIn_4 x1 x2 x3 x4 h r := by
  refine jm_E_n 4 (x' := (if (h.1 8 0 28) ≤ x4 then 40 else 8, [some (jm_r 8 0), some (jm_i x1), some (jm_i x2), some (jm_i x3), some (jm_i x4)], [], h)) rfl ?_
  refine jm_E_ite (fun hc => ?_) (fun hc => ?_)
  · replace H := H.1 hc
    refine jm_E_n 1 (x' := (41, [some (jm_r 8 0), some (jm_i x1), some (jm_i x2), some (jm_i x3), some (jm_i x4)], [jm_i x3], h)) rfl ?_
    exact jm_E_ret rfl (by rw [H]; rfl)
  · replace H := H.2 hc
    refine jm_E_n 4 (x' := (12, [some (jm_r 8 0), some (jm_i x1), some (jm_i x2), some (jm_i x3), some (jm_i x4)], [jm_i x4, jm_r 45 0, jm_i x3], h)) rfl ?_
    refine jm_E_iald rfl rfl H.1 ?_
    replace H := H.2
    refine jm_E_eq (x := (13, [some (jm_r 8 0), some (jm_i x1), some (jm_i x2), some (jm_i x3), some (jm_i x4)], [jm_i (h.1 45 0 x4.toNatClampNeg), jm_i x3], h)) rfl ?_
    refine jm_E_n 3 (x' := (16, [some (jm_r 8 0), some (jm_i x1), some (jm_i x2), some (jm_i x3), some (jm_i x4)], [jm_i x4, jm_r 46 0, jm_i (h.1 45 0 x4.toNatClampNeg), jm_i x3], h)) rfl ?_
    refine jm_E_iald rfl rfl H.1 ?_
    replace H := H.2
    refine jm_E_eq (x := (17, [some (jm_r 8 0), some (jm_i x1), some (jm_i x2), some (jm_i x3), some (jm_i x4)], [jm_i (h.1 46 0 x4.toNatClampNeg), jm_i (h.1 45 0 x4.toNatClampNeg), jm_i x3], h)) rfl ?_
    refine jm_E_n 1 (x' := (if (h.1 46 0 x4.toNatClampNeg) < (h.1 45 0 x4.toNatClampNeg) then 35 else 18, [some (jm_r 8 0), some (jm_i x1), some (jm_i x2), some (jm_i x3), some (jm_i x4)], [jm_i x3], h)) rfl ?_
    refine jm_E_ite (fun hc => ?_) (fun hc => ?_)
    · replace H := H.1 hc
      refine jm_E_n 5 (x' := (4, [some (jm_r 8 0), some (jm_i x1), some (jm_i x2), some (jm_i (x3 + 0)), some (jm_i (x4 + 1))], [], h)) rfl ?_
      exact H
    · replace H := H.2 hc
      refine jm_E_n 3 (x' := (21, [some (jm_r 8 0), some (jm_i x1), some (jm_i x2), some (jm_i x3), some (jm_i x4)], [jm_i x4, jm_r 45 0, jm_i x3], h)) rfl ?_
      refine jm_E_iald rfl rfl H.1 ?_
      replace H := H.2
      refine jm_E_eq (x := (22, [some (jm_r 8 0), some (jm_i x1), some (jm_i x2), some (jm_i x3), some (jm_i x4)], [jm_i (h.1 45 0 x4.toNatClampNeg), jm_i x3], h)) rfl ?_
      refine jm_E_n 2 (x' := (if (h.1 45 0 x4.toNatClampNeg) < x1 then 35 else 24, [some (jm_r 8 0), some (jm_i x1), some (jm_i x2), some (jm_i x3), some (jm_i x4)], [jm_i x3], h)) rfl ?_
      refine jm_E_ite (fun hc => ?_) (fun hc => ?_)
      · replace H := H.1 hc
        refine jm_E_n 5 (x' := (4, [some (jm_r 8 0), some (jm_i x1), some (jm_i x2), some (jm_i (x3 + 0)), some (jm_i (x4 + 1))], [], h)) rfl ?_
        exact H
      · replace H := H.2 hc
        refine jm_E_n 3 (x' := (27, [some (jm_r 8 0), some (jm_i x1), some (jm_i x2), some (jm_i x3), some (jm_i x4)], [jm_i x4, jm_r 46 0, jm_i x3], h)) rfl ?_
        refine jm_E_iald rfl rfl H.1 ?_
        replace H := H.2
        refine jm_E_eq (x := (28, [some (jm_r 8 0), some (jm_i x1), some (jm_i x2), some (jm_i x3), some (jm_i x4)], [jm_i (h.1 46 0 x4.toNatClampNeg), jm_i x3], h)) rfl ?_
        refine jm_E_n 2 (x' := (if x2 < (h.1 46 0 x4.toNatClampNeg) then 35 else 30, [some (jm_r 8 0), some (jm_i x1), some (jm_i x2), some (jm_i x3), some (jm_i x4)], [jm_i x3], h)) rfl ?_
        refine jm_E_ite (fun hc => ?_) (fun hc => ?_)
        · replace H := H.1 hc
          refine jm_E_n 5 (x' := (4, [some (jm_r 8 0), some (jm_i x1), some (jm_i x2), some (jm_i (x3 + 0)), some (jm_i (x4 + 1))], [], h)) rfl ?_
          exact H
        · replace H := H.2 hc
          refine jm_E_n 3 (x' := (33, [some (jm_r 8 0), some (jm_i x1), some (jm_i x2), some (jm_i x3), some (jm_i x4)], [jm_i x4, jm_r 47 0, jm_i x3], h)) rfl ?_
          refine jm_E_iald rfl rfl H.1 ?_
          replace H := H.2
          refine jm_E_eq (x := (34, [some (jm_r 8 0), some (jm_i x1), some (jm_i x2), some (jm_i x3), some (jm_i x4)], [jm_i (h.1 47 0 x4.toNatClampNeg), jm_i x3], h)) rfl ?_
          refine jm_E_n 5 (x' := (4, [some (jm_r 8 0), some (jm_i x1), some (jm_i x2), some (jm_i (x3 + (h.1 47 0 x4.toNatClampNeg))), some (jm_i (x4 + 1))], [], h)) rfl ?_
          exact H
set_option maxRecDepth 100000 in
theorem wp_M_asksIn {a0 : Int32} {a1 : Int32} {h : jm_H} {r : jm_Rs} (H :
  l_M_asksIn_4 a0 a1 0 0 h r) : jm_R 119 [jm_r 8 0, jm_i a0, jm_i a1] h r := by
  refine jm_R_of hz_119 (Nat.le_of_ble_eq_true rfl) ?_
  show jm_E cod_119 (0, [some (jm_r 8 0), some (jm_i a0), some (jm_i a1), none, none], [], h) r
  refine jm_E_n 4 (x' := (4, [some (jm_r 8 0), some (jm_i a0), some (jm_i a1), some (jm_i 0), some (jm_i 0)], [], h)) rfl ?_
  exact H
set_option maxRecDepth 100000 in
theorem wp_M_asksNowhere_4 {x1 : Int32} {x2 : Int32} {h : jm_H} {r : jm_Rs} (H :
  ((h.1 8 0 28) ≤ x2 →
    r = (some (jm_i x1), h)) ∧
  (¬ ((h.1 8 0 28) ≤ x2) →
    jm_in x2 24 ∧
    jm_in x2 24 ∧
    ((h.1 45 0 x2.toNatClampNeg) ≤ (h.1 46 0 x2.toNatClampNeg) →
      l_M_asksNowhere_4 (x1 + 0) (x2 + 1) h r) ∧
    (¬ ((h.1 45 0 x2.toNatClampNeg) ≤ (h.1 46 0 x2.toNatClampNeg)) →
      jm_in x2 24 ∧
      l_M_asksNowhere_4 (x1 + (h.1 47 0 x2.toNatClampNeg)) (x2 + 1) h r))) : l_M_asksNowhere_4 x1 x2 h r := by
  refine jm_E_n 4 (x' := (if (h.1 8 0 28) ≤ x2 then 28 else 8, [some (jm_r 8 0), some (jm_i x1), some (jm_i x2)], [], h)) rfl ?_
  refine jm_E_ite (fun hc => ?_) (fun hc => ?_)
  · replace H := H.1 hc
    refine jm_E_n 1 (x' := (29, [some (jm_r 8 0), some (jm_i x1), some (jm_i x2)], [jm_i x1], h)) rfl ?_
    exact jm_E_ret rfl (by rw [H]; rfl)
  · replace H := H.2 hc
    refine jm_E_n 4 (x' := (12, [some (jm_r 8 0), some (jm_i x1), some (jm_i x2)], [jm_i x2, jm_r 45 0, jm_i x1], h)) rfl ?_
    refine jm_E_iald rfl rfl H.1 ?_
    replace H := H.2
    refine jm_E_eq (x := (13, [some (jm_r 8 0), some (jm_i x1), some (jm_i x2)], [jm_i (h.1 45 0 x2.toNatClampNeg), jm_i x1], h)) rfl ?_
    refine jm_E_n 3 (x' := (16, [some (jm_r 8 0), some (jm_i x1), some (jm_i x2)], [jm_i x2, jm_r 46 0, jm_i (h.1 45 0 x2.toNatClampNeg), jm_i x1], h)) rfl ?_
    refine jm_E_iald rfl rfl H.1 ?_
    replace H := H.2
    refine jm_E_eq (x := (17, [some (jm_r 8 0), some (jm_i x1), some (jm_i x2)], [jm_i (h.1 46 0 x2.toNatClampNeg), jm_i (h.1 45 0 x2.toNatClampNeg), jm_i x1], h)) rfl ?_
    refine jm_E_n 1 (x' := (if (h.1 45 0 x2.toNatClampNeg) ≤ (h.1 46 0 x2.toNatClampNeg) then 23 else 18, [some (jm_r 8 0), some (jm_i x1), some (jm_i x2)], [jm_i x1], h)) rfl ?_
    refine jm_E_ite (fun hc => ?_) (fun hc => ?_)
    · replace H := H.1 hc
      refine jm_E_n 5 (x' := (4, [some (jm_r 8 0), some (jm_i (x1 + 0)), some (jm_i (x2 + 1))], [], h)) rfl ?_
      exact H
    · replace H := H.2 hc
      refine jm_E_n 3 (x' := (21, [some (jm_r 8 0), some (jm_i x1), some (jm_i x2)], [jm_i x2, jm_r 47 0, jm_i x1], h)) rfl ?_
      refine jm_E_iald rfl rfl H.1 ?_
      replace H := H.2
      refine jm_E_eq (x := (22, [some (jm_r 8 0), some (jm_i x1), some (jm_i x2)], [jm_i (h.1 47 0 x2.toNatClampNeg), jm_i x1], h)) rfl ?_
      refine jm_E_n 5 (x' := (4, [some (jm_r 8 0), some (jm_i (x1 + (h.1 47 0 x2.toNatClampNeg))), some (jm_i (x2 + 1))], [], h)) rfl ?_
      exact H
set_option maxRecDepth 100000 in
theorem wp_M_asksNowhere  {h : jm_H} {r : jm_Rs} (H :
  l_M_asksNowhere_4 0 0 h r) : jm_R 120 [jm_r 8 0] h r := by
  refine jm_R_of hz_120 (Nat.le_of_ble_eq_true rfl) ?_
  show jm_E cod_120 (0, [some (jm_r 8 0), none, none], [], h) r
  refine jm_E_n 4 (x' := (4, [some (jm_r 8 0), some (jm_i 0), some (jm_i 0)], [], h)) rfl ?_
  exact H
set_option maxRecDepth 100000 in
theorem wp_M_overWithout_7 {x1 : Int32} {x2 : Int32} {h : jm_H} {r : jm_Rs} (H :
  ((h.1 8 0 26) ≤ x2 →
    jm_in (h.1 8 0 26) 25 ∧
    r = (some (jm_i (h.1 48 0 ((h.1 8 0 26).toNatClampNeg))), h)) ∧
  (¬ ((h.1 8 0 26) ≤ x2) →
    jm_in x2 25 ∧
    l_M_overWithout_18 x1 x2 (h.1 48 0 x2.toNatClampNeg) x2 h r)) : l_M_overWithout_7 x1 x2 h r := by
  refine jm_E_n 4 (x' := (if (h.1 8 0 26) ≤ x2 then 63 else 11, [some (jm_r 8 0), some (jm_i x1), some (jm_i x2), none, none, none], [], h)) rfl ?_
  refine jm_E_ite (fun hc => ?_) (fun hc => ?_)
  · replace H := H.1 hc
    refine jm_E_n 4 (x' := (67, [some (jm_r 8 0), some (jm_i x1), some (jm_i x2), none, none, none], [jm_i (h.1 8 0 26), jm_r 48 0], h)) rfl ?_
    refine jm_E_iald rfl rfl H.1 ?_
    replace H := H.2
    refine jm_E_eq (x := (68, [some (jm_r 8 0), some (jm_i x1), some (jm_i x2), none, none, none], [jm_i (h.1 48 0 ((h.1 8 0 26).toNatClampNeg))], h)) rfl ?_
    exact jm_E_ret rfl (by rw [H]; rfl)
  · replace H := H.2 hc
    refine jm_E_n 3 (x' := (14, [some (jm_r 8 0), some (jm_i x1), some (jm_i x2), none, none, none], [jm_i x2, jm_r 48 0], h)) rfl ?_
    refine jm_E_iald rfl rfl H.1 ?_
    replace H := H.2
    refine jm_E_eq (x := (15, [some (jm_r 8 0), some (jm_i x1), some (jm_i x2), none, none, none], [jm_i (h.1 48 0 x2.toNatClampNeg)], h)) rfl ?_
    refine jm_E_n 3 (x' := (18, [some (jm_r 8 0), some (jm_i x1), some (jm_i x2), some (jm_i (h.1 48 0 x2.toNatClampNeg)), some (jm_i x2), none], [], h)) rfl ?_
    exact H
set_option maxRecDepth 100000 in
theorem wp_M_overWithout_18 {x1 : Int32} {x2 : Int32} {x3 : Int32} {x4 : Int32} {h : jm_H} {r : jm_Rs} (H :
  (x4 < 0 →
    jm_in (x2 + 1) 25 ∧
    l_M_overWithout_7 x1 (x2 + 1) (jm_sI h 48 0 ((x2 + 1).toNatClampNeg) x3) r) ∧
  (¬ (x4 < 0) →
    (x2 = x1 →
      jm_in (x2 + 1) 25 ∧
      l_M_overWithout_7 x1 (x2 + 1) (jm_sI h 48 0 ((x2 + 1).toNatClampNeg) x3) r) ∧
    (¬ (x2 = x1) →
      (x4 = x1 →
        jm_in (x2 + 1) 25 ∧
        l_M_overWithout_7 x1 (x2 + 1) (jm_sI h 48 0 ((x2 + 1).toNatClampNeg) x3) r) ∧
      (¬ (x4 = x1) →
        jm_in x4 25 ∧
        ∃ (v1 : Int32) (h1 : jm_H), m_M_asksIn x4 x2 h v1 h1 ∧
        ((((h.1 48 0 x4.toNatClampNeg) + v1) - ((h1.1 8 0 27) * ((x2 - x4) + 1))) ≤ x3 →
          l_M_overWithout_18 x1 x2 x3 (x4 + (-1)) h1 r) ∧
        (¬ ((((h.1 48 0 x4.toNatClampNeg) + v1) - ((h1.1 8 0 27) * ((x2 - x4) + 1))) ≤ x3) →
          l_M_overWithout_18 x1 x2 (((h.1 48 0 x4.toNatClampNeg) + v1) - ((h1.1 8 0 27) * ((x2 - x4) + 1))) (x4 + (-1)) h1 r))))) : l_M_overWithout_18 x1 x2 x3 x4 h r := by
  refine jm_E_n 2 (x' := (if x4 < 0 then 54 else 20, [some (jm_r 8 0), some (jm_i x1), some (jm_i x2), some (jm_i x3), some (jm_i x4), none], [], h)) rfl ?_
  refine jm_E_ite (fun hc => ?_) (fun hc => ?_)
  · replace H := H.1 hc
    refine jm_E_n 6 (x' := (60, [some (jm_r 8 0), some (jm_i x1), some (jm_i x2), some (jm_i x3), some (jm_i x4), none], [jm_i x3, jm_i (x2 + 1), jm_r 48 0], h)) rfl ?_
    refine jm_E_iast rfl rfl H.1 ?_
    replace H := H.2
    refine jm_E_eq (x := (61, [some (jm_r 8 0), some (jm_i x1), some (jm_i x2), some (jm_i x3), some (jm_i x4), none], [], (jm_sI h 48 0 ((x2 + 1).toNatClampNeg) x3))) rfl ?_
    refine jm_E_n 2 (x' := (7, [some (jm_r 8 0), some (jm_i x1), some (jm_i (x2 + 1)), some (jm_i x3), some (jm_i x4), none], [], (jm_sI h 48 0 ((x2 + 1).toNatClampNeg) x3))) rfl ?_
    exact jm_E_weak (jm_le_s (jm_le_s (jm_le_s (jm_le_n (jm_le_n (jm_le_n jm_le_nil)))))) H
  · replace H := H.2 hc
    refine jm_E_n 3 (x' := (if x2 = x1 then 54 else 23, [some (jm_r 8 0), some (jm_i x1), some (jm_i x2), some (jm_i x3), some (jm_i x4), none], [], h)) rfl ?_
    refine jm_E_ite (fun hc => ?_) (fun hc => ?_)
    · replace H := H.1 hc
      refine jm_E_n 6 (x' := (60, [some (jm_r 8 0), some (jm_i x1), some (jm_i x2), some (jm_i x3), some (jm_i x4), none], [jm_i x3, jm_i (x2 + 1), jm_r 48 0], h)) rfl ?_
      refine jm_E_iast rfl rfl H.1 ?_
      replace H := H.2
      refine jm_E_eq (x := (61, [some (jm_r 8 0), some (jm_i x1), some (jm_i x2), some (jm_i x3), some (jm_i x4), none], [], (jm_sI h 48 0 ((x2 + 1).toNatClampNeg) x3))) rfl ?_
      refine jm_E_n 2 (x' := (7, [some (jm_r 8 0), some (jm_i x1), some (jm_i (x2 + 1)), some (jm_i x3), some (jm_i x4), none], [], (jm_sI h 48 0 ((x2 + 1).toNatClampNeg) x3))) rfl ?_
      exact jm_E_weak (jm_le_s (jm_le_s (jm_le_s (jm_le_n (jm_le_n (jm_le_n jm_le_nil)))))) H
    · replace H := H.2 hc
      refine jm_E_n 3 (x' := (if x4 = x1 then 54 else 26, [some (jm_r 8 0), some (jm_i x1), some (jm_i x2), some (jm_i x3), some (jm_i x4), none], [], h)) rfl ?_
      refine jm_E_ite (fun hc => ?_) (fun hc => ?_)
      · replace H := H.1 hc
        refine jm_E_n 6 (x' := (60, [some (jm_r 8 0), some (jm_i x1), some (jm_i x2), some (jm_i x3), some (jm_i x4), none], [jm_i x3, jm_i (x2 + 1), jm_r 48 0], h)) rfl ?_
        refine jm_E_iast rfl rfl H.1 ?_
        replace H := H.2
        refine jm_E_eq (x := (61, [some (jm_r 8 0), some (jm_i x1), some (jm_i x2), some (jm_i x3), some (jm_i x4), none], [], (jm_sI h 48 0 ((x2 + 1).toNatClampNeg) x3))) rfl ?_
        refine jm_E_n 2 (x' := (7, [some (jm_r 8 0), some (jm_i x1), some (jm_i (x2 + 1)), some (jm_i x3), some (jm_i x4), none], [], (jm_sI h 48 0 ((x2 + 1).toNatClampNeg) x3))) rfl ?_
        exact jm_E_weak (jm_le_s (jm_le_s (jm_le_s (jm_le_n (jm_le_n (jm_le_n jm_le_nil)))))) H
      · replace H := H.2 hc
        refine jm_E_n 3 (x' := (29, [some (jm_r 8 0), some (jm_i x1), some (jm_i x2), some (jm_i x3), some (jm_i x4), none], [jm_i x4, jm_r 48 0], h)) rfl ?_
        refine jm_E_iald rfl rfl H.1 ?_
        replace H := H.2
        refine jm_E_eq (x := (30, [some (jm_r 8 0), some (jm_i x1), some (jm_i x2), some (jm_i x3), some (jm_i x4), none], [jm_i (h.1 48 0 x4.toNatClampNeg)], h)) rfl ?_
        refine jm_E_n 3 (x' := (33, [some (jm_r 8 0), some (jm_i x1), some (jm_i x2), some (jm_i x3), some (jm_i x4), none], [jm_i x2, jm_i x4, jm_r 8 0, jm_i (h.1 48 0 x4.toNatClampNeg)], h)) rfl ?_
        obtain ⟨v1, h1, hR, H⟩ := H
        refine jm_E_call rfl (Nat.le_of_ble_eq_true rfl) (Nat.le_of_ble_eq_true rfl) rfl hR trivial ?_
        refine jm_E_eq (x := (34, [some (jm_r 8 0), some (jm_i x1), some (jm_i x2), some (jm_i x3), some (jm_i x4), none], [jm_i v1, jm_i (h.1 48 0 x4.toNatClampNeg)], h1)) rfl ?_
        refine jm_E_n 14 (x' := (if (((h.1 48 0 x4.toNatClampNeg) + v1) - ((h1.1 8 0 27) * ((x2 - x4) + 1))) ≤ x3 then 50 else 48, [some (jm_r 8 0), some (jm_i x1), some (jm_i x2), some (jm_i x3), some (jm_i x4), some (jm_i (((h.1 48 0 x4.toNatClampNeg) + v1) - ((h1.1 8 0 27) * ((x2 - x4) + 1))))], [], h1)) rfl ?_
        refine jm_E_ite (fun hc => ?_) (fun hc => ?_)
        · replace H := H.1 hc
          refine jm_E_n 4 (x' := (18, [some (jm_r 8 0), some (jm_i x1), some (jm_i x2), some (jm_i x3), some (jm_i (x4 + (-1))), some (jm_i (((h.1 48 0 x4.toNatClampNeg) + v1) - ((h1.1 8 0 27) * ((x2 - x4) + 1))))], [], h1)) rfl ?_
          exact jm_E_weak (jm_le_s (jm_le_s (jm_le_s (jm_le_s (jm_le_s (jm_le_n jm_le_nil)))))) H
        · replace H := H.2 hc
          refine jm_E_n 5 (x' := (18, [some (jm_r 8 0), some (jm_i x1), some (jm_i x2), some (jm_i (((h.1 48 0 x4.toNatClampNeg) + v1) - ((h1.1 8 0 27) * ((x2 - x4) + 1)))), some (jm_i (x4 + (-1))), some (jm_i (((h.1 48 0 x4.toNatClampNeg) + v1) - ((h1.1 8 0 27) * ((x2 - x4) + 1))))], [], h1)) rfl ?_
          exact jm_E_weak (jm_le_s (jm_le_s (jm_le_s (jm_le_s (jm_le_s (jm_le_n jm_le_nil)))))) H
set_option maxRecDepth 100000 in
theorem wp_M_overWithout {a0 : Int32} {h : jm_H} {r : jm_Rs} (H :
  l_M_overWithout_7 a0 0 (jm_sI h 48 0 0 0) r) : jm_R 121 [jm_r 8 0, jm_i a0] h r := by
  refine jm_R_of hz_121 (Nat.le_of_ble_eq_true rfl) ?_
  show jm_E cod_121 (0, [some (jm_r 8 0), some (jm_i a0), none, none, none, none], [], h) r
  refine jm_E_n 4 (x' := (4, [some (jm_r 8 0), some (jm_i a0), none, none, none, none], [jm_i 0, jm_i 0, jm_r 48 0], h)) rfl ?_
  refine jm_E_iast rfl rfl (by decide) ?_
  refine jm_E_eq (x := (5, [some (jm_r 8 0), some (jm_i a0), none, none, none, none], [], (jm_sI h 48 0 0 0))) rfl ?_
  refine jm_E_n 2 (x' := (7, [some (jm_r 8 0), some (jm_i a0), some (jm_i 0), none, none, none], [], (jm_sI h 48 0 0 0))) rfl ?_
  exact H
set_option maxRecDepth 100000 in
theorem wp_M_overAll  {h : jm_H} {r : jm_Rs} (H :
  ∃ (v1 : Int32) (h1 : jm_H), m_M_asksNowhere h v1 h1 ∧
  ∃ (v2 : Int32) (h2 : jm_H), m_M_overWithout (-1) h1 v2 h2 ∧
  r = (some (jm_i (v1 + v2)), h2)) : jm_R 122 [jm_r 8 0] h r := by
  refine jm_R_of hz_122 (Nat.le_of_ble_eq_true rfl) ?_
  show jm_E cod_122 (0, [some (jm_r 8 0)], [], h) r
  refine jm_E_n 1 (x' := (1, [some (jm_r 8 0)], [jm_r 8 0], h)) rfl ?_
  obtain ⟨v1, h1, hR, H⟩ := H
  refine jm_E_call rfl (Nat.le_of_ble_eq_true rfl) (Nat.le_of_ble_eq_true rfl) rfl hR trivial ?_
  refine jm_E_eq (x := (2, [some (jm_r 8 0)], [jm_i v1], h1)) rfl ?_
  refine jm_E_n 2 (x' := (4, [some (jm_r 8 0)], [jm_i (-1), jm_r 8 0, jm_i v1], h1)) rfl ?_
  obtain ⟨v2, h2, hR, H⟩ := H
  refine jm_E_call rfl (Nat.le_of_ble_eq_true rfl) (Nat.le_of_ble_eq_true rfl) rfl hR trivial ?_
  refine jm_E_eq (x := (5, [some (jm_r 8 0)], [jm_i v2, jm_i v1], h2)) rfl ?_
  refine jm_E_n 1 (x' := (6, [some (jm_r 8 0)], [jm_i (v1 + v2)], h2)) rfl ?_
  exact jm_E_ret rfl (by rw [H]; rfl)
set_option maxRecDepth 100000 in
theorem wp_M_isLength {a0 : Int32} {h : jm_H} {r : jm_Rs} (H :
  ∃ (v1 : Int32) (h1 : jm_H), m_M_in a0 4 96 h v1 h1 ∧
  narrow .boolean (.int v1) = .int v1 ∧ r = (some (jm_i v1), h1)) : jm_R 123 [jm_r 8 0, jm_i a0] h r := by
  refine jm_R_of hz_123 (Nat.le_of_ble_eq_true rfl) ?_
  show jm_E cod_123 (0, [some (jm_r 8 0), some (jm_i a0)], [], h) r
  refine jm_E_n 3 (x' := (3, [some (jm_r 8 0), some (jm_i a0)], [jm_i 96, jm_i 4, jm_i a0], h)) rfl ?_
  obtain ⟨v1, h1, hR, H⟩ := H
  refine jm_E_call rfl (Nat.le_of_ble_eq_true rfl) (Nat.le_of_ble_eq_true rfl) trivial hR trivial ?_
  refine jm_E_eq (x := (4, [some (jm_r 8 0), some (jm_i a0)], [jm_i v1], h1)) rfl ?_
  exact jm_E_ret rfl (by rw [H.2]; exact if_pos H.1)
set_option maxRecDepth 100000 in
theorem wp_M_lengthWhy {a0 : Int32} {a1 : Int32} {h : jm_H} {r : jm_Rs} (H :
  ∃ (v1 : Int32) (h1 : jm_H), m_M_isMode a0 h v1 h1 ∧
  (v1 = 0 →
    r = (some (jm_i 1), h1)) ∧
  (¬ (v1 = 0) →
    ∃ (v2 : Int32) (h2 : jm_H), m_M_isLength a1 h1 v2 h2 ∧
    (v2 = 0 →
      r = (some (jm_i 2), h2)) ∧
    (¬ (v2 = 0) →
      r = (some (jm_i 0), h2)))) : jm_R 124 [jm_r 8 0, jm_i a0, jm_i a1] h r := by
  refine jm_R_of hz_124 (Nat.le_of_ble_eq_true rfl) ?_
  show jm_E cod_124 (0, [some (jm_r 8 0), some (jm_i a0), some (jm_i a1)], [], h) r
  refine jm_E_n 2 (x' := (2, [some (jm_r 8 0), some (jm_i a0), some (jm_i a1)], [jm_i a0, jm_r 8 0], h)) rfl ?_
  obtain ⟨v1, h1, hR, H⟩ := H
  refine jm_E_call rfl (Nat.le_of_ble_eq_true rfl) (Nat.le_of_ble_eq_true rfl) rfl hR trivial ?_
  refine jm_E_eq (x := (3, [some (jm_r 8 0), some (jm_i a0), some (jm_i a1)], [jm_i v1], h1)) rfl ?_
  refine jm_E_n 1 (x' := (if v1 = 0 then 4 else 6, [some (jm_r 8 0), some (jm_i a0), some (jm_i a1)], [], h1)) rfl ?_
  refine jm_E_ite (fun hc => ?_) (fun hc => ?_)
  · replace H := H.1 hc
    refine jm_E_n 2 (x' := (13, [some (jm_r 8 0), some (jm_i a0), some (jm_i a1)], [jm_i 1], h1)) rfl ?_
    exact jm_E_ret rfl (by rw [H]; rfl)
  · replace H := H.2 hc
    refine jm_E_n 2 (x' := (8, [some (jm_r 8 0), some (jm_i a0), some (jm_i a1)], [jm_i a1, jm_r 8 0], h1)) rfl ?_
    obtain ⟨v2, h2, hR, H⟩ := H
    refine jm_E_call rfl (Nat.le_of_ble_eq_true rfl) (Nat.le_of_ble_eq_true rfl) rfl hR trivial ?_
    refine jm_E_eq (x := (9, [some (jm_r 8 0), some (jm_i a0), some (jm_i a1)], [jm_i v2], h2)) rfl ?_
    refine jm_E_n 1 (x' := (if v2 = 0 then 12 else 10, [some (jm_r 8 0), some (jm_i a0), some (jm_i a1)], [], h2)) rfl ?_
    refine jm_E_ite (fun hc => ?_) (fun hc => ?_)
    · replace H := H.1 hc
      refine jm_E_n 1 (x' := (13, [some (jm_r 8 0), some (jm_i a0), some (jm_i a1)], [jm_i 2], h2)) rfl ?_
      exact jm_E_ret rfl (by rw [H]; rfl)
    · replace H := H.2 hc
      refine jm_E_n 2 (x' := (13, [some (jm_r 8 0), some (jm_i a0), some (jm_i a1)], [jm_i 0], h2)) rfl ?_
      exact jm_E_ret rfl (by rw [H]; rfl)
set_option maxRecDepth 100000 in
theorem wp_M_judged_17 {x1 : Int32} {x2 : Int32} {x3 : Int32} {x4 : Int32} {h : jm_H} {r : jm_Rs} (H :
  ((h.1 8 0 28) ≤ x4 →
    l_M_judged_53 x1 x2 x3 0 h r) ∧
  (¬ ((h.1 8 0 28) ≤ x4) →
    jm_in x4 24 ∧
    ((h.1 47 0 x4.toNatClampNeg) ≤ (h.1 8 0 27) →
      jm_in x4 24 ∧
      jm_in x4 24 ∧
      ((h.1 45 0 x4.toNatClampNeg) ≤ (h.1 46 0 x4.toNatClampNeg) →
        l_M_judged_17 x1 x2 ((x3 ||| 0) ||| 0) (x4 + 1) h r) ∧
      (¬ ((h.1 45 0 x4.toNatClampNeg) ≤ (h.1 46 0 x4.toNatClampNeg)) →
        l_M_judged_17 x1 x2 ((x3 ||| 0) ||| 8) (x4 + 1) h r)) ∧
    (¬ ((h.1 47 0 x4.toNatClampNeg) ≤ (h.1 8 0 27)) →
      jm_in x4 24 ∧
      jm_in x4 24 ∧
      ((h.1 45 0 x4.toNatClampNeg) ≤ (h.1 46 0 x4.toNatClampNeg) →
        l_M_judged_17 x1 x2 ((x3 ||| 2) ||| 0) (x4 + 1) h r) ∧
      (¬ ((h.1 45 0 x4.toNatClampNeg) ≤ (h.1 46 0 x4.toNatClampNeg)) →
        l_M_judged_17 x1 x2 ((x3 ||| 2) ||| 8) (x4 + 1) h r)))) : l_M_judged_17 x1 x2 x3 x4 h r := by
  refine jm_E_n 4 (x' := (if (h.1 8 0 28) ≤ x4 then 51 else 21, [some (jm_r 8 0), some (jm_i x1), some (jm_i x2), some (jm_i x3), some (jm_i x4)], [], h)) rfl ?_
  refine jm_E_ite (fun hc => ?_) (fun hc => ?_)
  · replace H := H.1 hc
    refine jm_E_n 2 (x' := (53, [some (jm_r 8 0), some (jm_i x1), some (jm_i x2), some (jm_i x3), some (jm_i 0)], [], h)) rfl ?_
    exact H
  · replace H := H.2 hc
    refine jm_E_n 4 (x' := (25, [some (jm_r 8 0), some (jm_i x1), some (jm_i x2), some (jm_i x3), some (jm_i x4)], [jm_i x4, jm_r 47 0, jm_i x3], h)) rfl ?_
    refine jm_E_iald rfl rfl H.1 ?_
    replace H := H.2
    refine jm_E_eq (x := (26, [some (jm_r 8 0), some (jm_i x1), some (jm_i x2), some (jm_i x3), some (jm_i x4)], [jm_i (h.1 47 0 x4.toNatClampNeg), jm_i x3], h)) rfl ?_
    refine jm_E_n 3 (x' := (if (h.1 47 0 x4.toNatClampNeg) ≤ (h.1 8 0 27) then 31 else 29, [some (jm_r 8 0), some (jm_i x1), some (jm_i x2), some (jm_i x3), some (jm_i x4)], [jm_i x3], h)) rfl ?_
    refine jm_E_ite (fun hc => ?_) (fun hc => ?_)
    · replace H := H.1 hc
      refine jm_E_n 7 (x' := (38, [some (jm_r 8 0), some (jm_i x1), some (jm_i x2), some (jm_i (x3 ||| 0)), some (jm_i x4)], [jm_i x4, jm_r 45 0, jm_i (x3 ||| 0)], h)) rfl ?_
      refine jm_E_iald rfl rfl H.1 ?_
      replace H := H.2
      refine jm_E_eq (x := (39, [some (jm_r 8 0), some (jm_i x1), some (jm_i x2), some (jm_i (x3 ||| 0)), some (jm_i x4)], [jm_i (h.1 45 0 x4.toNatClampNeg), jm_i (x3 ||| 0)], h)) rfl ?_
      refine jm_E_n 3 (x' := (42, [some (jm_r 8 0), some (jm_i x1), some (jm_i x2), some (jm_i (x3 ||| 0)), some (jm_i x4)], [jm_i x4, jm_r 46 0, jm_i (h.1 45 0 x4.toNatClampNeg), jm_i (x3 ||| 0)], h)) rfl ?_
      refine jm_E_iald rfl rfl H.1 ?_
      replace H := H.2
      refine jm_E_eq (x := (43, [some (jm_r 8 0), some (jm_i x1), some (jm_i x2), some (jm_i (x3 ||| 0)), some (jm_i x4)], [jm_i (h.1 46 0 x4.toNatClampNeg), jm_i (h.1 45 0 x4.toNatClampNeg), jm_i (x3 ||| 0)], h)) rfl ?_
      refine jm_E_n 1 (x' := (if (h.1 45 0 x4.toNatClampNeg) ≤ (h.1 46 0 x4.toNatClampNeg) then 46 else 44, [some (jm_r 8 0), some (jm_i x1), some (jm_i x2), some (jm_i (x3 ||| 0)), some (jm_i x4)], [jm_i (x3 ||| 0)], h)) rfl ?_
      refine jm_E_ite (fun hc => ?_) (fun hc => ?_)
      · replace H := H.1 hc
        refine jm_E_n 5 (x' := (17, [some (jm_r 8 0), some (jm_i x1), some (jm_i x2), some (jm_i ((x3 ||| 0) ||| 0)), some (jm_i (x4 + 1))], [], h)) rfl ?_
        exact H
      · replace H := H.2 hc
        refine jm_E_n 6 (x' := (17, [some (jm_r 8 0), some (jm_i x1), some (jm_i x2), some (jm_i ((x3 ||| 0) ||| 8)), some (jm_i (x4 + 1))], [], h)) rfl ?_
        exact H
    · replace H := H.2 hc
      refine jm_E_n 8 (x' := (38, [some (jm_r 8 0), some (jm_i x1), some (jm_i x2), some (jm_i (x3 ||| 2)), some (jm_i x4)], [jm_i x4, jm_r 45 0, jm_i (x3 ||| 2)], h)) rfl ?_
      refine jm_E_iald rfl rfl H.1 ?_
      replace H := H.2
      refine jm_E_eq (x := (39, [some (jm_r 8 0), some (jm_i x1), some (jm_i x2), some (jm_i (x3 ||| 2)), some (jm_i x4)], [jm_i (h.1 45 0 x4.toNatClampNeg), jm_i (x3 ||| 2)], h)) rfl ?_
      refine jm_E_n 3 (x' := (42, [some (jm_r 8 0), some (jm_i x1), some (jm_i x2), some (jm_i (x3 ||| 2)), some (jm_i x4)], [jm_i x4, jm_r 46 0, jm_i (h.1 45 0 x4.toNatClampNeg), jm_i (x3 ||| 2)], h)) rfl ?_
      refine jm_E_iald rfl rfl H.1 ?_
      replace H := H.2
      refine jm_E_eq (x := (43, [some (jm_r 8 0), some (jm_i x1), some (jm_i x2), some (jm_i (x3 ||| 2)), some (jm_i x4)], [jm_i (h.1 46 0 x4.toNatClampNeg), jm_i (h.1 45 0 x4.toNatClampNeg), jm_i (x3 ||| 2)], h)) rfl ?_
      refine jm_E_n 1 (x' := (if (h.1 45 0 x4.toNatClampNeg) ≤ (h.1 46 0 x4.toNatClampNeg) then 46 else 44, [some (jm_r 8 0), some (jm_i x1), some (jm_i x2), some (jm_i (x3 ||| 2)), some (jm_i x4)], [jm_i (x3 ||| 2)], h)) rfl ?_
      refine jm_E_ite (fun hc => ?_) (fun hc => ?_)
      · replace H := H.1 hc
        refine jm_E_n 5 (x' := (17, [some (jm_r 8 0), some (jm_i x1), some (jm_i x2), some (jm_i ((x3 ||| 2) ||| 0)), some (jm_i (x4 + 1))], [], h)) rfl ?_
        exact H
      · replace H := H.2 hc
        refine jm_E_n 6 (x' := (17, [some (jm_r 8 0), some (jm_i x1), some (jm_i x2), some (jm_i ((x3 ||| 2) ||| 8)), some (jm_i (x4 + 1))], [], h)) rfl ?_
        exact H
set_option maxRecDepth 100000 in
theorem wp_M_judged_53 {x1 : Int32} {x2 : Int32} {x3 : Int32} {x4 : Int32} {h : jm_H} {r : jm_Rs} (H :
  jm_in x1 6 ∧
  ((h.1 36 0 x1.toNatClampNeg) ≤ x4 →
    ∃ (v2 : Int32) (h2 : jm_H), m_M_overAll h v2 h2 ∧
    (v2 ≤ 0 →
      r = (some (jm_i (x3 ||| 0)), h2)) ∧
    (¬ (v2 ≤ 0) →
      r = (some (jm_i (x3 ||| 16)), h2))) ∧
  (¬ ((h.1 36 0 x1.toNatClampNeg) ≤ x4) →
    ∃ (v3 : Int32) (h3 : jm_H), m_M_reach x1 x4 x2 h v3 h3 ∧
    jm_in ((6 * x1) + x4) 36 ∧
    (v3 ≤ (h3.1 41 0 (((6 * x1) + x4).toNatClampNeg)) →
      l_M_judged_53 x1 x2 (x3 ||| 0) (x4 + 1) h3 r) ∧
    (¬ (v3 ≤ (h3.1 41 0 (((6 * x1) + x4).toNatClampNeg))) →
      l_M_judged_53 x1 x2 (x3 ||| 4) (x4 + 1) h3 r))) : l_M_judged_53 x1 x2 x3 x4 h r := by
  refine jm_E_n 4 (x' := (57, [some (jm_r 8 0), some (jm_i x1), some (jm_i x2), some (jm_i x3), some (jm_i x4)], [jm_i x1, jm_r 36 0, jm_i x4], h)) rfl ?_
  refine jm_E_iald rfl rfl H.1 ?_
  replace H := H.2
  refine jm_E_eq (x := (58, [some (jm_r 8 0), some (jm_i x1), some (jm_i x2), some (jm_i x3), some (jm_i x4)], [jm_i (h.1 36 0 x1.toNatClampNeg), jm_i x4], h)) rfl ?_
  refine jm_E_n 1 (x' := (if (h.1 36 0 x1.toNatClampNeg) ≤ x4 then 81 else 59, [some (jm_r 8 0), some (jm_i x1), some (jm_i x2), some (jm_i x3), some (jm_i x4)], [], h)) rfl ?_
  refine jm_E_ite (fun hc => ?_) (fun hc => ?_)
  · replace H := H.1 hc
    refine jm_E_n 2 (x' := (83, [some (jm_r 8 0), some (jm_i x1), some (jm_i x2), some (jm_i x3), some (jm_i x4)], [jm_r 8 0, jm_i x3], h)) rfl ?_
    obtain ⟨v2, h2, hR, H⟩ := H
    refine jm_E_call rfl (Nat.le_of_ble_eq_true rfl) (Nat.le_of_ble_eq_true rfl) rfl hR trivial ?_
    refine jm_E_eq (x := (84, [some (jm_r 8 0), some (jm_i x1), some (jm_i x2), some (jm_i x3), some (jm_i x4)], [jm_i v2, jm_i x3], h2)) rfl ?_
    refine jm_E_n 1 (x' := (if v2 ≤ 0 then 87 else 85, [some (jm_r 8 0), some (jm_i x1), some (jm_i x2), some (jm_i x3), some (jm_i x4)], [jm_i x3], h2)) rfl ?_
    refine jm_E_ite (fun hc => ?_) (fun hc => ?_)
    · replace H := H.1 hc
      refine jm_E_n 2 (x' := (89, [some (jm_r 8 0), some (jm_i x1), some (jm_i x2), some (jm_i x3), some (jm_i x4)], [jm_i (x3 ||| 0)], h2)) rfl ?_
      exact jm_E_ret rfl (by rw [H]; rfl)
    · replace H := H.2 hc
      refine jm_E_n 3 (x' := (89, [some (jm_r 8 0), some (jm_i x1), some (jm_i x2), some (jm_i x3), some (jm_i x4)], [jm_i (x3 ||| 16)], h2)) rfl ?_
      exact jm_E_ret rfl (by rw [H]; rfl)
  · replace H := H.2 hc
    refine jm_E_n 5 (x' := (64, [some (jm_r 8 0), some (jm_i x1), some (jm_i x2), some (jm_i x3), some (jm_i x4)], [jm_i x2, jm_i x4, jm_i x1, jm_r 8 0, jm_i x3], h)) rfl ?_
    obtain ⟨v3, h3, hR, H⟩ := H
    refine jm_E_call rfl (Nat.le_of_ble_eq_true rfl) (Nat.le_of_ble_eq_true rfl) rfl hR trivial ?_
    refine jm_E_eq (x := (65, [some (jm_r 8 0), some (jm_i x1), some (jm_i x2), some (jm_i x3), some (jm_i x4)], [jm_i v3, jm_i x3], h3)) rfl ?_
    refine jm_E_n 7 (x' := (72, [some (jm_r 8 0), some (jm_i x1), some (jm_i x2), some (jm_i x3), some (jm_i x4)], [jm_i ((6 * x1) + x4), jm_r 41 0, jm_i v3, jm_i x3], h3)) rfl ?_
    refine jm_E_iald rfl rfl H.1 ?_
    replace H := H.2
    refine jm_E_eq (x := (73, [some (jm_r 8 0), some (jm_i x1), some (jm_i x2), some (jm_i x3), some (jm_i x4)], [jm_i (h3.1 41 0 (((6 * x1) + x4).toNatClampNeg)), jm_i v3, jm_i x3], h3)) rfl ?_
    refine jm_E_n 1 (x' := (if v3 ≤ (h3.1 41 0 (((6 * x1) + x4).toNatClampNeg)) then 76 else 74, [some (jm_r 8 0), some (jm_i x1), some (jm_i x2), some (jm_i x3), some (jm_i x4)], [jm_i x3], h3)) rfl ?_
    refine jm_E_ite (fun hc => ?_) (fun hc => ?_)
    · replace H := H.1 hc
      refine jm_E_n 5 (x' := (53, [some (jm_r 8 0), some (jm_i x1), some (jm_i x2), some (jm_i (x3 ||| 0)), some (jm_i (x4 + 1))], [], h3)) rfl ?_
      exact H
    · replace H := H.2 hc
      refine jm_E_n 6 (x' := (53, [some (jm_r 8 0), some (jm_i x1), some (jm_i x2), some (jm_i (x3 ||| 4)), some (jm_i (x4 + 1))], [], h3)) rfl ?_
      exact H
set_option maxRecDepth 100000 in
theorem wp_M_judged {a0 : Int32} {a1 : Int32} {h : jm_H} {r : jm_Rs} (H :
  ∃ h1 : jm_H, m_M_setsUp a0 a1 h h1 ∧
  jm_in a0 6 ∧
  ¬ a1 = 0 ∧
  (((h1.1 37 0 a0.toNatClampNeg) - (h1.1 37 0 a0.toNatClampNeg) / a1 * a1) = 0 →
    l_M_judged_17 a0 a1 0 0 h1 r) ∧
  (¬ (((h1.1 37 0 a0.toNatClampNeg) - (h1.1 37 0 a0.toNatClampNeg) / a1 * a1) = 0) →
    l_M_judged_17 a0 a1 1 0 h1 r)) : jm_R 125 [jm_r 8 0, jm_i a0, jm_i a1] h r := by
  refine jm_R_of hz_125 (Nat.le_of_ble_eq_true rfl) ?_
  show jm_E cod_125 (0, [some (jm_r 8 0), some (jm_i a0), some (jm_i a1), none, none], [], h) r
  refine jm_E_n 3 (x' := (3, [some (jm_r 8 0), some (jm_i a0), some (jm_i a1), none, none], [jm_i a1, jm_i a0, jm_r 8 0], h)) rfl ?_
  obtain ⟨h1, hR, H⟩ := H
  refine jm_E_call rfl (Nat.le_of_ble_eq_true rfl) (Nat.le_of_ble_eq_true rfl) rfl hR trivial ?_
  refine jm_E_eq (x := (4, [some (jm_r 8 0), some (jm_i a0), some (jm_i a1), none, none], [], h1)) rfl ?_
  refine jm_E_n 3 (x' := (7, [some (jm_r 8 0), some (jm_i a0), some (jm_i a1), none, none], [jm_i a0, jm_r 37 0], h1)) rfl ?_
  refine jm_E_iald rfl rfl H.1 ?_
  replace H := H.2
  refine jm_E_eq (x := (8, [some (jm_r 8 0), some (jm_i a0), some (jm_i a1), none, none], [jm_i (h1.1 37 0 a0.toNatClampNeg)], h1)) rfl ?_
  refine jm_E_n 1 (x' := (9, [some (jm_r 8 0), some (jm_i a0), some (jm_i a1), none, none], [jm_i a1, jm_i (h1.1 37 0 a0.toNatClampNeg)], h1)) rfl ?_
  refine jm_E_irem rfl H.1 ?_
  replace H := H.2
  refine jm_E_eq (x := (10, [some (jm_r 8 0), some (jm_i a0), some (jm_i a1), none, none], [jm_i ((h1.1 37 0 a0.toNatClampNeg) - (h1.1 37 0 a0.toNatClampNeg) / a1 * a1)], h1)) rfl ?_
  refine jm_E_n 1 (x' := (if ((h1.1 37 0 a0.toNatClampNeg) - (h1.1 37 0 a0.toNatClampNeg) / a1 * a1) = 0 then 11 else 13, [some (jm_r 8 0), some (jm_i a0), some (jm_i a1), none, none], [], h1)) rfl ?_
  refine jm_E_ite (fun hc => ?_) (fun hc => ?_)
  · replace H := H.1 hc
    refine jm_E_n 5 (x' := (17, [some (jm_r 8 0), some (jm_i a0), some (jm_i a1), some (jm_i 0), some (jm_i 0)], [], h1)) rfl ?_
    exact H
  · replace H := H.2 hc
    refine jm_E_n 4 (x' := (17, [some (jm_r 8 0), some (jm_i a0), some (jm_i a1), some (jm_i 1), some (jm_i 0)], [], h1)) rfl ?_
    exact H
set_option maxRecDepth 100000 in
theorem wp_M_isGood {a0 : Int32} {a1 : Int32} {h : jm_H} {r : jm_Rs} (H :
  ∃ (v1 : Int32) (h1 : jm_H), m_M_judged a0 a1 h v1 h1 ∧
  ((v1 &&& 25) = 0 →
    r = (some (jm_i 1), h1)) ∧
  (¬ ((v1 &&& 25) = 0) →
    r = (some (jm_i 0), h1))) : jm_R 126 [jm_r 8 0, jm_i a0, jm_i a1] h r := by
  refine jm_R_of hz_126 (Nat.le_of_ble_eq_true rfl) ?_
  show jm_E cod_126 (0, [some (jm_r 8 0), some (jm_i a0), some (jm_i a1)], [], h) r
  refine jm_E_n 3 (x' := (3, [some (jm_r 8 0), some (jm_i a0), some (jm_i a1)], [jm_i a1, jm_i a0, jm_r 8 0], h)) rfl ?_
  obtain ⟨v1, h1, hR, H⟩ := H
  refine jm_E_call rfl (Nat.le_of_ble_eq_true rfl) (Nat.le_of_ble_eq_true rfl) rfl hR trivial ?_
  refine jm_E_eq (x := (4, [some (jm_r 8 0), some (jm_i a0), some (jm_i a1)], [jm_i v1], h1)) rfl ?_
  refine jm_E_n 3 (x' := (if (v1 &&& 25) = 0 then 7 else 9, [some (jm_r 8 0), some (jm_i a0), some (jm_i a1)], [], h1)) rfl ?_
  refine jm_E_ite (fun hc => ?_) (fun hc => ?_)
  · replace H := H.1 hc
    refine jm_E_n 2 (x' := (10, [some (jm_r 8 0), some (jm_i a0), some (jm_i a1)], [jm_i 1], h1)) rfl ?_
    exact jm_E_ret rfl (by rw [H]; rfl)
  · replace H := H.2 hc
    refine jm_E_n 1 (x' := (10, [some (jm_r 8 0), some (jm_i a0), some (jm_i a1)], [jm_i 0], h1)) rfl ?_
    exact jm_E_ret rfl (by rw [H]; rfl)
set_option maxRecDepth 100000 in
theorem wp_M_judge {a0 : Int32} {a1 : Int32} {h : jm_H} {r : jm_Rs} (H :
  ∃ h1 : jm_H, m_M_anew h h1 ∧
  ∃ (v2 : Int32) (h2 : jm_H), m_M_lengthWhy a0 a1 h1 v2 h2 ∧
  (v2 = 0 →
    ∃ (v3 : Int32) (h3 : jm_H), m_M_judged a0 a1 h2 v3 h3 ∧
    r = (some (jm_i v3), h3)) ∧
  (¬ (v2 = 0) →
    ∃ (v4 : Int32) (h4 : jm_H), m_M_no v2 h2 v4 h4 ∧
    r = (some (jm_i v4), h4))) : jm_R 127 [jm_r 8 0, jm_i a0, jm_i a1] h r := by
  refine jm_R_of hz_127 (Nat.le_of_ble_eq_true rfl) ?_
  show jm_E cod_127 (0, [some (jm_r 8 0), some (jm_i a0), some (jm_i a1), none], [], h) r
  refine jm_E_n 1 (x' := (1, [some (jm_r 8 0), some (jm_i a0), some (jm_i a1), none], [jm_r 8 0], h)) rfl ?_
  obtain ⟨h1, hR, H⟩ := H
  refine jm_E_call rfl (Nat.le_of_ble_eq_true rfl) (Nat.le_of_ble_eq_true rfl) rfl hR trivial ?_
  refine jm_E_eq (x := (2, [some (jm_r 8 0), some (jm_i a0), some (jm_i a1), none], [], h1)) rfl ?_
  refine jm_E_n 3 (x' := (5, [some (jm_r 8 0), some (jm_i a0), some (jm_i a1), none], [jm_i a1, jm_i a0, jm_r 8 0], h1)) rfl ?_
  obtain ⟨v2, h2, hR, H⟩ := H
  refine jm_E_call rfl (Nat.le_of_ble_eq_true rfl) (Nat.le_of_ble_eq_true rfl) rfl hR trivial ?_
  refine jm_E_eq (x := (6, [some (jm_r 8 0), some (jm_i a0), some (jm_i a1), none], [jm_i v2], h2)) rfl ?_
  refine jm_E_n 3 (x' := (if v2 = 0 then 13 else 9, [some (jm_r 8 0), some (jm_i a0), some (jm_i a1), some (jm_i v2)], [], h2)) rfl ?_
  refine jm_E_ite (fun hc => ?_) (fun hc => ?_)
  · replace H := H.1 hc
    refine jm_E_n 3 (x' := (16, [some (jm_r 8 0), some (jm_i a0), some (jm_i a1), some (jm_i v2)], [jm_i a1, jm_i a0, jm_r 8 0], h2)) rfl ?_
    obtain ⟨v3, h3, hR, H⟩ := H
    refine jm_E_call rfl (Nat.le_of_ble_eq_true rfl) (Nat.le_of_ble_eq_true rfl) rfl hR trivial ?_
    refine jm_E_eq (x := (17, [some (jm_r 8 0), some (jm_i a0), some (jm_i a1), some (jm_i v2)], [jm_i v3], h3)) rfl ?_
    exact jm_E_ret rfl (by rw [H]; rfl)
  · replace H := H.2 hc
    refine jm_E_n 2 (x' := (11, [some (jm_r 8 0), some (jm_i a0), some (jm_i a1), some (jm_i v2)], [jm_i v2, jm_r 8 0], h2)) rfl ?_
    obtain ⟨v4, h4, hR, H⟩ := H
    refine jm_E_call rfl (Nat.le_of_ble_eq_true rfl) (Nat.le_of_ble_eq_true rfl) rfl hR trivial ?_
    refine jm_E_eq (x := (12, [some (jm_r 8 0), some (jm_i a0), some (jm_i a1), some (jm_i v2)], [jm_i v4], h4)) rfl ?_
    refine jm_E_n 1 (x' := (17, [some (jm_r 8 0), some (jm_i a0), some (jm_i a1), some (jm_i v2)], [jm_i v4], h4)) rfl ?_
    exact jm_E_ret rfl (by rw [H]; rfl)
set_option maxRecDepth 100000 in
theorem wp_M_most {a0 : Int32} {a1 : Int32} {h : jm_H} {r : jm_Rs} (H :
  ∃ h1 : jm_H, m_M_anew h h1 ∧
  ∃ (v2 : Int32) (h2 : jm_H), m_M_lengthWhy a0 a1 h1 v2 h2 ∧
  (v2 = 0 →
    ∃ h3 : jm_H, m_M_setsUp a0 a1 h2 h3 ∧
    ∃ (v4 : Int32) (h4 : jm_H), m_M_costsOf a0 h3 v4 h4 ∧
    ∃ (v5 : Int32) (h5 : jm_H), m_M_overAll h4 v5 h5 ∧
    r = (some (jm_i (v4 - v5)), h5)) ∧
  (¬ (v2 = 0) →
    ∃ (v6 : Int32) (h6 : jm_H), m_M_no v2 h2 v6 h6 ∧
    r = (some (jm_i v6), h6))) : jm_R 128 [jm_r 8 0, jm_i a0, jm_i a1] h r := by
  refine jm_R_of hz_128 (Nat.le_of_ble_eq_true rfl) ?_
  show jm_E cod_128 (0, [some (jm_r 8 0), some (jm_i a0), some (jm_i a1), none], [], h) r
  refine jm_E_n 1 (x' := (1, [some (jm_r 8 0), some (jm_i a0), some (jm_i a1), none], [jm_r 8 0], h)) rfl ?_
  obtain ⟨h1, hR, H⟩ := H
  refine jm_E_call rfl (Nat.le_of_ble_eq_true rfl) (Nat.le_of_ble_eq_true rfl) rfl hR trivial ?_
  refine jm_E_eq (x := (2, [some (jm_r 8 0), some (jm_i a0), some (jm_i a1), none], [], h1)) rfl ?_
  refine jm_E_n 3 (x' := (5, [some (jm_r 8 0), some (jm_i a0), some (jm_i a1), none], [jm_i a1, jm_i a0, jm_r 8 0], h1)) rfl ?_
  obtain ⟨v2, h2, hR, H⟩ := H
  refine jm_E_call rfl (Nat.le_of_ble_eq_true rfl) (Nat.le_of_ble_eq_true rfl) rfl hR trivial ?_
  refine jm_E_eq (x := (6, [some (jm_r 8 0), some (jm_i a0), some (jm_i a1), none], [jm_i v2], h2)) rfl ?_
  refine jm_E_n 3 (x' := (if v2 = 0 then 13 else 9, [some (jm_r 8 0), some (jm_i a0), some (jm_i a1), some (jm_i v2)], [], h2)) rfl ?_
  refine jm_E_ite (fun hc => ?_) (fun hc => ?_)
  · replace H := H.1 hc
    refine jm_E_n 3 (x' := (16, [some (jm_r 8 0), some (jm_i a0), some (jm_i a1), some (jm_i v2)], [jm_i a1, jm_i a0, jm_r 8 0], h2)) rfl ?_
    obtain ⟨h3, hR, H⟩ := H
    refine jm_E_call rfl (Nat.le_of_ble_eq_true rfl) (Nat.le_of_ble_eq_true rfl) rfl hR trivial ?_
    refine jm_E_eq (x := (17, [some (jm_r 8 0), some (jm_i a0), some (jm_i a1), some (jm_i v2)], [], h3)) rfl ?_
    refine jm_E_n 2 (x' := (19, [some (jm_r 8 0), some (jm_i a0), some (jm_i a1), some (jm_i v2)], [jm_i a0, jm_r 8 0], h3)) rfl ?_
    obtain ⟨v4, h4, hR, H⟩ := H
    refine jm_E_call rfl (Nat.le_of_ble_eq_true rfl) (Nat.le_of_ble_eq_true rfl) rfl hR trivial ?_
    refine jm_E_eq (x := (20, [some (jm_r 8 0), some (jm_i a0), some (jm_i a1), some (jm_i v2)], [jm_i v4], h4)) rfl ?_
    refine jm_E_n 1 (x' := (21, [some (jm_r 8 0), some (jm_i a0), some (jm_i a1), some (jm_i v2)], [jm_r 8 0, jm_i v4], h4)) rfl ?_
    obtain ⟨v5, h5, hR, H⟩ := H
    refine jm_E_call rfl (Nat.le_of_ble_eq_true rfl) (Nat.le_of_ble_eq_true rfl) rfl hR trivial ?_
    refine jm_E_eq (x := (22, [some (jm_r 8 0), some (jm_i a0), some (jm_i a1), some (jm_i v2)], [jm_i v5, jm_i v4], h5)) rfl ?_
    refine jm_E_n 1 (x' := (23, [some (jm_r 8 0), some (jm_i a0), some (jm_i a1), some (jm_i v2)], [jm_i (v4 - v5)], h5)) rfl ?_
    exact jm_E_ret rfl (by rw [H]; rfl)
  · replace H := H.2 hc
    refine jm_E_n 2 (x' := (11, [some (jm_r 8 0), some (jm_i a0), some (jm_i a1), some (jm_i v2)], [jm_i v2, jm_r 8 0], h2)) rfl ?_
    obtain ⟨v6, h6, hR, H⟩ := H
    refine jm_E_call rfl (Nat.le_of_ble_eq_true rfl) (Nat.le_of_ble_eq_true rfl) rfl hR trivial ?_
    refine jm_E_eq (x := (12, [some (jm_r 8 0), some (jm_i a0), some (jm_i a1), some (jm_i v2)], [jm_i v6], h6)) rfl ?_
    exact jm_E_ret rfl (by rw [H]; rfl)
set_option maxRecDepth 100000 in
theorem wp_M_over {a0 : Int32} {a1 : Int32} {h : jm_H} {r : jm_Rs} (H :
  ∃ h1 : jm_H, m_M_anew h h1 ∧
  ∃ (v2 : Int32) (h2 : jm_H), m_M_lengthWhy a0 a1 h1 v2 h2 ∧
  (v2 = 0 →
    ∃ h3 : jm_H, m_M_setsUp a0 a1 h2 h3 ∧
    ∃ (v4 : Int32) (h4 : jm_H), m_M_overAll h3 v4 h4 ∧
    r = (some (jm_i v4), h4)) ∧
  (¬ (v2 = 0) →
    ∃ (v5 : Int32) (h5 : jm_H), m_M_no v2 h2 v5 h5 ∧
    r = (some (jm_i v5), h5))) : jm_R 129 [jm_r 8 0, jm_i a0, jm_i a1] h r := by
  refine jm_R_of hz_129 (Nat.le_of_ble_eq_true rfl) ?_
  show jm_E cod_129 (0, [some (jm_r 8 0), some (jm_i a0), some (jm_i a1), none], [], h) r
  refine jm_E_n 1 (x' := (1, [some (jm_r 8 0), some (jm_i a0), some (jm_i a1), none], [jm_r 8 0], h)) rfl ?_
  obtain ⟨h1, hR, H⟩ := H
  refine jm_E_call rfl (Nat.le_of_ble_eq_true rfl) (Nat.le_of_ble_eq_true rfl) rfl hR trivial ?_
  refine jm_E_eq (x := (2, [some (jm_r 8 0), some (jm_i a0), some (jm_i a1), none], [], h1)) rfl ?_
  refine jm_E_n 3 (x' := (5, [some (jm_r 8 0), some (jm_i a0), some (jm_i a1), none], [jm_i a1, jm_i a0, jm_r 8 0], h1)) rfl ?_
  obtain ⟨v2, h2, hR, H⟩ := H
  refine jm_E_call rfl (Nat.le_of_ble_eq_true rfl) (Nat.le_of_ble_eq_true rfl) rfl hR trivial ?_
  refine jm_E_eq (x := (6, [some (jm_r 8 0), some (jm_i a0), some (jm_i a1), none], [jm_i v2], h2)) rfl ?_
  refine jm_E_n 3 (x' := (if v2 = 0 then 13 else 9, [some (jm_r 8 0), some (jm_i a0), some (jm_i a1), some (jm_i v2)], [], h2)) rfl ?_
  refine jm_E_ite (fun hc => ?_) (fun hc => ?_)
  · replace H := H.1 hc
    refine jm_E_n 3 (x' := (16, [some (jm_r 8 0), some (jm_i a0), some (jm_i a1), some (jm_i v2)], [jm_i a1, jm_i a0, jm_r 8 0], h2)) rfl ?_
    obtain ⟨h3, hR, H⟩ := H
    refine jm_E_call rfl (Nat.le_of_ble_eq_true rfl) (Nat.le_of_ble_eq_true rfl) rfl hR trivial ?_
    refine jm_E_eq (x := (17, [some (jm_r 8 0), some (jm_i a0), some (jm_i a1), some (jm_i v2)], [], h3)) rfl ?_
    refine jm_E_n 1 (x' := (18, [some (jm_r 8 0), some (jm_i a0), some (jm_i a1), some (jm_i v2)], [jm_r 8 0], h3)) rfl ?_
    obtain ⟨v4, h4, hR, H⟩ := H
    refine jm_E_call rfl (Nat.le_of_ble_eq_true rfl) (Nat.le_of_ble_eq_true rfl) rfl hR trivial ?_
    refine jm_E_eq (x := (19, [some (jm_r 8 0), some (jm_i a0), some (jm_i a1), some (jm_i v2)], [jm_i v4], h4)) rfl ?_
    exact jm_E_ret rfl (by rw [H]; rfl)
  · replace H := H.2 hc
    refine jm_E_n 2 (x' := (11, [some (jm_r 8 0), some (jm_i a0), some (jm_i a1), some (jm_i v2)], [jm_i v2, jm_r 8 0], h2)) rfl ?_
    obtain ⟨v5, h5, hR, H⟩ := H
    refine jm_E_call rfl (Nat.le_of_ble_eq_true rfl) (Nat.le_of_ble_eq_true rfl) rfl hR trivial ?_
    refine jm_E_eq (x := (12, [some (jm_r 8 0), some (jm_i a0), some (jm_i a1), some (jm_i v2)], [jm_i v5], h5)) rfl ?_
    exact jm_E_ret rfl (by rw [H]; rfl)
set_option maxRecDepth 100000 in
theorem wp_M_cutOf_8 {x1 : Int32} {x2 : Int32} {x3 : Int32} {h : jm_H} {r : jm_Rs} (H :
  ((h.1 8 0 26) ≤ x3 →
    r = (some (jm_i x2), h)) ∧
  (¬ ((h.1 8 0 26) ≤ x3) →
    ∃ (v2 : Int32) (h2 : jm_H), m_M_overWithout x3 h v2 h2 ∧
    (x1 ≤ v2 →
      l_M_cutOf_8 x1 (x2 ||| 0) (x3 + 1) h2 r) ∧
    (¬ (x1 ≤ v2) →
      l_M_cutOf_8 x1 (x2 ||| (1 <<< (x3 &&& 31))) (x3 + 1) h2 r))) : l_M_cutOf_8 x1 x2 x3 h r := by
  refine jm_E_n 4 (x' := (if (h.1 8 0 26) ≤ x3 then 27 else 12, [some (jm_r 8 0), some (jm_i x1), some (jm_i x2), some (jm_i x3)], [], h)) rfl ?_
  refine jm_E_ite (fun hc => ?_) (fun hc => ?_)
  · replace H := H.1 hc
    refine jm_E_n 1 (x' := (28, [some (jm_r 8 0), some (jm_i x1), some (jm_i x2), some (jm_i x3)], [jm_i x2], h)) rfl ?_
    exact jm_E_ret rfl (by rw [H]; rfl)
  · replace H := H.2 hc
    refine jm_E_n 3 (x' := (15, [some (jm_r 8 0), some (jm_i x1), some (jm_i x2), some (jm_i x3)], [jm_i x3, jm_r 8 0, jm_i x2], h)) rfl ?_
    obtain ⟨v2, h2, hR, H⟩ := H
    refine jm_E_call rfl (Nat.le_of_ble_eq_true rfl) (Nat.le_of_ble_eq_true rfl) rfl hR trivial ?_
    refine jm_E_eq (x := (16, [some (jm_r 8 0), some (jm_i x1), some (jm_i x2), some (jm_i x3)], [jm_i v2, jm_i x2], h2)) rfl ?_
    refine jm_E_n 2 (x' := (if x1 ≤ v2 then 22 else 18, [some (jm_r 8 0), some (jm_i x1), some (jm_i x2), some (jm_i x3)], [jm_i x2], h2)) rfl ?_
    refine jm_E_ite (fun hc => ?_) (fun hc => ?_)
    · replace H := H.1 hc
      refine jm_E_n 5 (x' := (8, [some (jm_r 8 0), some (jm_i x1), some (jm_i (x2 ||| 0)), some (jm_i (x3 + 1))], [], h2)) rfl ?_
      exact H
    · replace H := H.2 hc
      refine jm_E_n 8 (x' := (8, [some (jm_r 8 0), some (jm_i x1), some (jm_i (x2 ||| (1 <<< (x3 &&& 31)))), some (jm_i (x3 + 1))], [], h2)) rfl ?_
      exact H
set_option maxRecDepth 100000 in
theorem wp_M_cutOf  {h : jm_H} {r : jm_Rs} (H :
  ∃ (v1 : Int32) (h1 : jm_H), m_M_overWithout (-1) h v1 h1 ∧
  l_M_cutOf_8 v1 0 0 h1 r) : jm_R 130 [jm_r 8 0] h r := by
  refine jm_R_of hz_130 (Nat.le_of_ble_eq_true rfl) ?_
  show jm_E cod_130 (0, [some (jm_r 8 0), none, none, none], [], h) r
  refine jm_E_n 2 (x' := (2, [some (jm_r 8 0), none, none, none], [jm_i (-1), jm_r 8 0], h)) rfl ?_
  obtain ⟨v1, h1, hR, H⟩ := H
  refine jm_E_call rfl (Nat.le_of_ble_eq_true rfl) (Nat.le_of_ble_eq_true rfl) rfl hR trivial ?_
  refine jm_E_eq (x := (3, [some (jm_r 8 0), none, none, none], [jm_i v1], h1)) rfl ?_
  refine jm_E_n 5 (x' := (8, [some (jm_r 8 0), some (jm_i v1), some (jm_i 0), some (jm_i 0)], [], h1)) rfl ?_
  exact H
set_option maxRecDepth 100000 in
theorem wp_M_cutFrames {a0 : Int32} {a1 : Int32} {h : jm_H} {r : jm_Rs} (H :
  ∃ h1 : jm_H, m_M_anew h h1 ∧
  ∃ (v2 : Int32) (h2 : jm_H), m_M_lengthWhy a0 a1 h1 v2 h2 ∧
  (v2 = 0 →
    ∃ h3 : jm_H, m_M_setsUp a0 a1 h2 h3 ∧
    ∃ (v4 : Int32) (h4 : jm_H), m_M_cutOf h3 v4 h4 ∧
    r = (some (jm_i v4), h4)) ∧
  (¬ (v2 = 0) →
    ∃ (v5 : Int32) (h5 : jm_H), m_M_no v2 h2 v5 h5 ∧
    r = (some (jm_i v5), h5))) : jm_R 131 [jm_r 8 0, jm_i a0, jm_i a1] h r := by
  refine jm_R_of hz_131 (Nat.le_of_ble_eq_true rfl) ?_
  show jm_E cod_131 (0, [some (jm_r 8 0), some (jm_i a0), some (jm_i a1), none], [], h) r
  refine jm_E_n 1 (x' := (1, [some (jm_r 8 0), some (jm_i a0), some (jm_i a1), none], [jm_r 8 0], h)) rfl ?_
  obtain ⟨h1, hR, H⟩ := H
  refine jm_E_call rfl (Nat.le_of_ble_eq_true rfl) (Nat.le_of_ble_eq_true rfl) rfl hR trivial ?_
  refine jm_E_eq (x := (2, [some (jm_r 8 0), some (jm_i a0), some (jm_i a1), none], [], h1)) rfl ?_
  refine jm_E_n 3 (x' := (5, [some (jm_r 8 0), some (jm_i a0), some (jm_i a1), none], [jm_i a1, jm_i a0, jm_r 8 0], h1)) rfl ?_
  obtain ⟨v2, h2, hR, H⟩ := H
  refine jm_E_call rfl (Nat.le_of_ble_eq_true rfl) (Nat.le_of_ble_eq_true rfl) rfl hR trivial ?_
  refine jm_E_eq (x := (6, [some (jm_r 8 0), some (jm_i a0), some (jm_i a1), none], [jm_i v2], h2)) rfl ?_
  refine jm_E_n 3 (x' := (if v2 = 0 then 13 else 9, [some (jm_r 8 0), some (jm_i a0), some (jm_i a1), some (jm_i v2)], [], h2)) rfl ?_
  refine jm_E_ite (fun hc => ?_) (fun hc => ?_)
  · replace H := H.1 hc
    refine jm_E_n 3 (x' := (16, [some (jm_r 8 0), some (jm_i a0), some (jm_i a1), some (jm_i v2)], [jm_i a1, jm_i a0, jm_r 8 0], h2)) rfl ?_
    obtain ⟨h3, hR, H⟩ := H
    refine jm_E_call rfl (Nat.le_of_ble_eq_true rfl) (Nat.le_of_ble_eq_true rfl) rfl hR trivial ?_
    refine jm_E_eq (x := (17, [some (jm_r 8 0), some (jm_i a0), some (jm_i a1), some (jm_i v2)], [], h3)) rfl ?_
    refine jm_E_n 1 (x' := (18, [some (jm_r 8 0), some (jm_i a0), some (jm_i a1), some (jm_i v2)], [jm_r 8 0], h3)) rfl ?_
    obtain ⟨v4, h4, hR, H⟩ := H
    refine jm_E_call rfl (Nat.le_of_ble_eq_true rfl) (Nat.le_of_ble_eq_true rfl) rfl hR trivial ?_
    refine jm_E_eq (x := (19, [some (jm_r 8 0), some (jm_i a0), some (jm_i a1), some (jm_i v2)], [jm_i v4], h4)) rfl ?_
    exact jm_E_ret rfl (by rw [H]; rfl)
  · replace H := H.2 hc
    refine jm_E_n 2 (x' := (11, [some (jm_r 8 0), some (jm_i a0), some (jm_i a1), some (jm_i v2)], [jm_i v2, jm_r 8 0], h2)) rfl ?_
    obtain ⟨v5, h5, hR, H⟩ := H
    refine jm_E_call rfl (Nat.le_of_ble_eq_true rfl) (Nat.le_of_ble_eq_true rfl) rfl hR trivial ?_
    refine jm_E_eq (x := (12, [some (jm_r 8 0), some (jm_i a0), some (jm_i a1), some (jm_i v2)], [jm_i v5], h5)) rfl ?_
    exact jm_E_ret rfl (by rw [H]; rfl)
set_option maxRecDepth 100000 in
theorem wp_M_cutJobs_24 {x4 : Int32} {x5 : Int32} {x6 : Int32} {h : jm_H} {r : jm_Rs} (H :
  ((h.1 8 0 28) ≤ x6 →
    r = (some (jm_i x5), h)) ∧
  (¬ ((h.1 8 0 28) ≤ x6) →
    jm_in x6 24 ∧
    l_M_cutJobs_35 x4 x5 x6 1 (h.1 45 0 x6.toNatClampNeg) h r)) : l_M_cutJobs_24 x4 x5 x6 h r := by
  refine jm_E_n 4 (x' := (if (h.1 8 0 28) ≤ x6 then 68 else 28, [some (jm_r 8 0), none, none, none, some (jm_i x4), some (jm_i x5), some (jm_i x6), none, none], [], h)) rfl ?_
  refine jm_E_ite (fun hc => ?_) (fun hc => ?_)
  · replace H := H.1 hc
    refine jm_E_n 1 (x' := (69, [some (jm_r 8 0), none, none, none, some (jm_i x4), some (jm_i x5), some (jm_i x6), none, none], [jm_i x5], h)) rfl ?_
    exact jm_E_ret rfl (by rw [H]; rfl)
  · replace H := H.2 hc
    refine jm_E_n 5 (x' := (33, [some (jm_r 8 0), none, none, none, some (jm_i x4), some (jm_i x5), some (jm_i x6), some (jm_i 1), none], [jm_i x6, jm_r 45 0], h)) rfl ?_
    refine jm_E_iald rfl rfl H.1 ?_
    replace H := H.2
    refine jm_E_eq (x := (34, [some (jm_r 8 0), none, none, none, some (jm_i x4), some (jm_i x5), some (jm_i x6), some (jm_i 1), none], [jm_i (h.1 45 0 x6.toNatClampNeg)], h)) rfl ?_
    refine jm_E_n 1 (x' := (35, [some (jm_r 8 0), none, none, none, some (jm_i x4), some (jm_i x5), some (jm_i x6), some (jm_i 1), some (jm_i (h.1 45 0 x6.toNatClampNeg))], [], h)) rfl ?_
    exact H
set_option maxRecDepth 100000 in
theorem wp_M_cutJobs_35 {x4 : Int32} {x5 : Int32} {x6 : Int32} {x7 : Int32} {x8 : Int32} {h : jm_H} {r : jm_Rs} (H :
  jm_in x6 24 ∧
  ((h.1 46 0 x6.toNatClampNeg) < x8 →
    (x7 = 0 →
      l_M_cutJobs_24 x4 (x5 ||| 0) (x6 + 1) h r) ∧
    (¬ (x7 = 0) →
      l_M_cutJobs_24 x4 (x5 ||| (1 <<< (x6 &&& 31))) (x6 + 1) h r)) ∧
  (¬ ((h.1 46 0 x6.toNatClampNeg) < x8) →
    (x7 = 0 →
      l_M_cutJobs_35 x4 x5 x6 0 (x8 + 1) h r) ∧
    (¬ (x7 = 0) →
      (((x4 >>> (x8 &&& 31)) &&& 1) = 1 →
        l_M_cutJobs_35 x4 x5 x6 1 (x8 + 1) h r) ∧
      (¬ (((x4 >>> (x8 &&& 31)) &&& 1) = 1) →
        l_M_cutJobs_35 x4 x5 x6 0 (x8 + 1) h r)))) : l_M_cutJobs_35 x4 x5 x6 x7 x8 h r := by
  refine jm_E_n 4 (x' := (39, [some (jm_r 8 0), none, none, none, some (jm_i x4), some (jm_i x5), some (jm_i x6), some (jm_i x7), some (jm_i x8)], [jm_i x6, jm_r 46 0, jm_i x8], h)) rfl ?_
  refine jm_E_iald rfl rfl H.1 ?_
  replace H := H.2
  refine jm_E_eq (x := (40, [some (jm_r 8 0), none, none, none, some (jm_i x4), some (jm_i x5), some (jm_i x6), some (jm_i x7), some (jm_i x8)], [jm_i (h.1 46 0 x6.toNatClampNeg), jm_i x8], h)) rfl ?_
  refine jm_E_n 1 (x' := (if (h.1 46 0 x6.toNatClampNeg) < x8 then 56 else 41, [some (jm_r 8 0), none, none, none, some (jm_i x4), some (jm_i x5), some (jm_i x6), some (jm_i x7), some (jm_i x8)], [], h)) rfl ?_
  refine jm_E_ite (fun hc => ?_) (fun hc => ?_)
  · replace H := H.1 hc
    refine jm_E_n 3 (x' := (if x7 = 0 then 63 else 59, [some (jm_r 8 0), none, none, none, some (jm_i x4), some (jm_i x5), some (jm_i x6), some (jm_i x7), some (jm_i x8)], [jm_i x5], h)) rfl ?_
    refine jm_E_ite (fun hc => ?_) (fun hc => ?_)
    · replace H := H.1 hc
      refine jm_E_n 5 (x' := (24, [some (jm_r 8 0), none, none, none, some (jm_i x4), some (jm_i (x5 ||| 0)), some (jm_i (x6 + 1)), some (jm_i x7), some (jm_i x8)], [], h)) rfl ?_
      exact jm_E_weak (jm_le_s (jm_le_n (jm_le_n (jm_le_n (jm_le_s (jm_le_s (jm_le_s (jm_le_n (jm_le_n jm_le_nil))))))))) H
    · replace H := H.2 hc
      refine jm_E_n 8 (x' := (24, [some (jm_r 8 0), none, none, none, some (jm_i x4), some (jm_i (x5 ||| (1 <<< (x6 &&& 31)))), some (jm_i (x6 + 1)), some (jm_i x7), some (jm_i x8)], [], h)) rfl ?_
      exact jm_E_weak (jm_le_s (jm_le_n (jm_le_n (jm_le_n (jm_le_s (jm_le_s (jm_le_s (jm_le_n (jm_le_n jm_le_nil))))))))) H
  · replace H := H.2 hc
    refine jm_E_n 2 (x' := (if x7 = 0 then 52 else 43, [some (jm_r 8 0), none, none, none, some (jm_i x4), some (jm_i x5), some (jm_i x6), some (jm_i x7), some (jm_i x8)], [], h)) rfl ?_
    refine jm_E_ite (fun hc => ?_) (fun hc => ?_)
    · replace H := H.1 hc
      refine jm_E_n 4 (x' := (35, [some (jm_r 8 0), none, none, none, some (jm_i x4), some (jm_i x5), some (jm_i x6), some (jm_i 0), some (jm_i (x8 + 1))], [], h)) rfl ?_
      exact H
    · replace H := H.2 hc
      refine jm_E_n 7 (x' := (if ((x4 >>> (x8 &&& 31)) &&& 1) = 1 then 50 else 52, [some (jm_r 8 0), none, none, none, some (jm_i x4), some (jm_i x5), some (jm_i x6), some (jm_i x7), some (jm_i x8)], [], h)) rfl ?_
      refine jm_E_ite (fun hc => ?_) (fun hc => ?_)
      · replace H := H.1 hc
        refine jm_E_n 5 (x' := (35, [some (jm_r 8 0), none, none, none, some (jm_i x4), some (jm_i x5), some (jm_i x6), some (jm_i 1), some (jm_i (x8 + 1))], [], h)) rfl ?_
        exact H
      · replace H := H.2 hc
        refine jm_E_n 4 (x' := (35, [some (jm_r 8 0), none, none, none, some (jm_i x4), some (jm_i x5), some (jm_i x6), some (jm_i 0), some (jm_i (x8 + 1))], [], h)) rfl ?_
        exact H
set_option maxRecDepth 100000 in
theorem wp_M_cutJobs {a0 : Int32} {a1 : Int32} {h : jm_H} {r : jm_Rs} (H :
  ∃ h1 : jm_H, m_M_anew h h1 ∧
  ∃ (v2 : Int32) (h2 : jm_H), m_M_lengthWhy a0 a1 h1 v2 h2 ∧
  (v2 = 0 →
    ∃ h3 : jm_H, m_M_setsUp a0 a1 h2 h3 ∧
    ∃ (v4 : Int32) (h4 : jm_H), m_M_cutOf h3 v4 h4 ∧
    l_M_cutJobs_24 v4 0 0 h4 r) ∧
  (¬ (v2 = 0) →
    ∃ (v5 : Int32) (h5 : jm_H), m_M_no v2 h2 v5 h5 ∧
    r = (some (jm_i v5), h5))) : jm_R 132 [jm_r 8 0, jm_i a0, jm_i a1] h r := by
  refine jm_R_of hz_132 (Nat.le_of_ble_eq_true rfl) ?_
  show jm_E cod_132 (0, [some (jm_r 8 0), some (jm_i a0), some (jm_i a1), none, none, none, none, none, none], [], h) r
  refine jm_E_n 1 (x' := (1, [some (jm_r 8 0), some (jm_i a0), some (jm_i a1), none, none, none, none, none, none], [jm_r 8 0], h)) rfl ?_
  obtain ⟨h1, hR, H⟩ := H
  refine jm_E_call rfl (Nat.le_of_ble_eq_true rfl) (Nat.le_of_ble_eq_true rfl) rfl hR trivial ?_
  refine jm_E_eq (x := (2, [some (jm_r 8 0), some (jm_i a0), some (jm_i a1), none, none, none, none, none, none], [], h1)) rfl ?_
  refine jm_E_n 3 (x' := (5, [some (jm_r 8 0), some (jm_i a0), some (jm_i a1), none, none, none, none, none, none], [jm_i a1, jm_i a0, jm_r 8 0], h1)) rfl ?_
  obtain ⟨v2, h2, hR, H⟩ := H
  refine jm_E_call rfl (Nat.le_of_ble_eq_true rfl) (Nat.le_of_ble_eq_true rfl) rfl hR trivial ?_
  refine jm_E_eq (x := (6, [some (jm_r 8 0), some (jm_i a0), some (jm_i a1), none, none, none, none, none, none], [jm_i v2], h2)) rfl ?_
  refine jm_E_n 3 (x' := (if v2 = 0 then 13 else 9, [some (jm_r 8 0), some (jm_i a0), some (jm_i a1), some (jm_i v2), none, none, none, none, none], [], h2)) rfl ?_
  refine jm_E_ite (fun hc => ?_) (fun hc => ?_)
  · replace H := H.1 hc
    refine jm_E_n 3 (x' := (16, [some (jm_r 8 0), some (jm_i a0), some (jm_i a1), some (jm_i v2), none, none, none, none, none], [jm_i a1, jm_i a0, jm_r 8 0], h2)) rfl ?_
    obtain ⟨h3, hR, H⟩ := H
    refine jm_E_call rfl (Nat.le_of_ble_eq_true rfl) (Nat.le_of_ble_eq_true rfl) rfl hR trivial ?_
    refine jm_E_eq (x := (17, [some (jm_r 8 0), some (jm_i a0), some (jm_i a1), some (jm_i v2), none, none, none, none, none], [], h3)) rfl ?_
    refine jm_E_n 1 (x' := (18, [some (jm_r 8 0), some (jm_i a0), some (jm_i a1), some (jm_i v2), none, none, none, none, none], [jm_r 8 0], h3)) rfl ?_
    obtain ⟨v4, h4, hR, H⟩ := H
    refine jm_E_call rfl (Nat.le_of_ble_eq_true rfl) (Nat.le_of_ble_eq_true rfl) rfl hR trivial ?_
    refine jm_E_eq (x := (19, [some (jm_r 8 0), some (jm_i a0), some (jm_i a1), some (jm_i v2), none, none, none, none, none], [jm_i v4], h4)) rfl ?_
    refine jm_E_n 5 (x' := (24, [some (jm_r 8 0), some (jm_i a0), some (jm_i a1), some (jm_i v2), some (jm_i v4), some (jm_i 0), some (jm_i 0), none, none], [], h4)) rfl ?_
    exact jm_E_weak (jm_le_s (jm_le_n (jm_le_n (jm_le_n (jm_le_s (jm_le_s (jm_le_s (jm_le_n (jm_le_n jm_le_nil))))))))) H
  · replace H := H.2 hc
    refine jm_E_n 2 (x' := (11, [some (jm_r 8 0), some (jm_i a0), some (jm_i a1), some (jm_i v2), none, none, none, none, none], [jm_i v2, jm_r 8 0], h2)) rfl ?_
    obtain ⟨v5, h5, hR, H⟩ := H
    refine jm_E_call rfl (Nat.le_of_ble_eq_true rfl) (Nat.le_of_ble_eq_true rfl) rfl hR trivial ?_
    refine jm_E_eq (x := (12, [some (jm_r 8 0), some (jm_i a0), some (jm_i a1), some (jm_i v2), none, none, none, none, none], [jm_i v5], h5)) rfl ?_
    exact jm_E_ret rfl (by rw [H]; rfl)
set_option maxRecDepth 100000 in
theorem wp_M_goods_14 {x1 : Int32} {x2 : Int32} {x3 : Int32} {h : jm_H} {r : jm_Rs} (H :
  (96 < x3 →
    r = (some (jm_i x2), h)) ∧
  (¬ (96 < x3) →
    ∃ (v4 : Int32) (h4 : jm_H), m_M_isGood x1 x3 h v4 h4 ∧
    (v4 = 0 →
      l_M_goods_14 x1 (x2 + 0) (x3 + 1) h4 r) ∧
    (¬ (v4 = 0) →
      l_M_goods_14 x1 (x2 + 1) (x3 + 1) h4 r))) : l_M_goods_14 x1 x2 x3 h r := by
  refine jm_E_n 3 (x' := (if 96 < x3 then 30 else 17, [some (jm_r 8 0), some (jm_i x1), some (jm_i x2), some (jm_i x3)], [], h)) rfl ?_
  refine jm_E_ite (fun hc => ?_) (fun hc => ?_)
  · replace H := H.1 hc
    refine jm_E_n 1 (x' := (31, [some (jm_r 8 0), some (jm_i x1), some (jm_i x2), some (jm_i x3)], [jm_i x2], h)) rfl ?_
    exact jm_E_ret rfl (by rw [H]; rfl)
  · replace H := H.2 hc
    refine jm_E_n 4 (x' := (21, [some (jm_r 8 0), some (jm_i x1), some (jm_i x2), some (jm_i x3)], [jm_i x3, jm_i x1, jm_r 8 0, jm_i x2], h)) rfl ?_
    obtain ⟨v4, h4, hR, H⟩ := H
    refine jm_E_call rfl (Nat.le_of_ble_eq_true rfl) (Nat.le_of_ble_eq_true rfl) rfl hR trivial ?_
    refine jm_E_eq (x := (22, [some (jm_r 8 0), some (jm_i x1), some (jm_i x2), some (jm_i x3)], [jm_i v4, jm_i x2], h4)) rfl ?_
    refine jm_E_n 1 (x' := (if v4 = 0 then 25 else 23, [some (jm_r 8 0), some (jm_i x1), some (jm_i x2), some (jm_i x3)], [jm_i x2], h4)) rfl ?_
    refine jm_E_ite (fun hc => ?_) (fun hc => ?_)
    · replace H := H.1 hc
      refine jm_E_n 5 (x' := (14, [some (jm_r 8 0), some (jm_i x1), some (jm_i (x2 + 0)), some (jm_i (x3 + 1))], [], h4)) rfl ?_
      exact H
    · replace H := H.2 hc
      refine jm_E_n 6 (x' := (14, [some (jm_r 8 0), some (jm_i x1), some (jm_i (x2 + 1)), some (jm_i (x3 + 1))], [], h4)) rfl ?_
      exact H
set_option maxRecDepth 100000 in
theorem wp_M_goods {a0 : Int32} {h : jm_H} {r : jm_Rs} (H :
  ∃ h1 : jm_H, m_M_anew h h1 ∧
  ∃ (v2 : Int32) (h2 : jm_H), m_M_isMode a0 h1 v2 h2 ∧
  (v2 = 0 →
    ∃ (v3 : Int32) (h3 : jm_H), m_M_no 1 h2 v3 h3 ∧
    r = (some (jm_i v3), h3)) ∧
  (¬ (v2 = 0) →
    l_M_goods_14 a0 0 4 h2 r)) : jm_R 133 [jm_r 8 0, jm_i a0] h r := by
  refine jm_R_of hz_133 (Nat.le_of_ble_eq_true rfl) ?_
  show jm_E cod_133 (0, [some (jm_r 8 0), some (jm_i a0), none, none], [], h) r
  refine jm_E_n 1 (x' := (1, [some (jm_r 8 0), some (jm_i a0), none, none], [jm_r 8 0], h)) rfl ?_
  obtain ⟨h1, hR, H⟩ := H
  refine jm_E_call rfl (Nat.le_of_ble_eq_true rfl) (Nat.le_of_ble_eq_true rfl) rfl hR trivial ?_
  refine jm_E_eq (x := (2, [some (jm_r 8 0), some (jm_i a0), none, none], [], h1)) rfl ?_
  refine jm_E_n 2 (x' := (4, [some (jm_r 8 0), some (jm_i a0), none, none], [jm_i a0, jm_r 8 0], h1)) rfl ?_
  obtain ⟨v2, h2, hR, H⟩ := H
  refine jm_E_call rfl (Nat.le_of_ble_eq_true rfl) (Nat.le_of_ble_eq_true rfl) rfl hR trivial ?_
  refine jm_E_eq (x := (5, [some (jm_r 8 0), some (jm_i a0), none, none], [jm_i v2], h2)) rfl ?_
  refine jm_E_n 1 (x' := (if v2 = 0 then 6 else 10, [some (jm_r 8 0), some (jm_i a0), none, none], [], h2)) rfl ?_
  refine jm_E_ite (fun hc => ?_) (fun hc => ?_)
  · replace H := H.1 hc
    refine jm_E_n 2 (x' := (8, [some (jm_r 8 0), some (jm_i a0), none, none], [jm_i 1, jm_r 8 0], h2)) rfl ?_
    obtain ⟨v3, h3, hR, H⟩ := H
    refine jm_E_call rfl (Nat.le_of_ble_eq_true rfl) (Nat.le_of_ble_eq_true rfl) rfl hR trivial ?_
    refine jm_E_eq (x := (9, [some (jm_r 8 0), some (jm_i a0), none, none], [jm_i v3], h3)) rfl ?_
    exact jm_E_ret rfl (by rw [H]; rfl)
  · replace H := H.2 hc
    refine jm_E_n 4 (x' := (14, [some (jm_r 8 0), some (jm_i a0), some (jm_i 0), some (jm_i 4)], [], h2)) rfl ?_
    exact H
