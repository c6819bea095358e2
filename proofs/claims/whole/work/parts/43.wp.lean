set_option maxRecDepth 100000 in
theorem wp_FR_slackAhead {a0 : Int32} {h : jm_H} {r : jm_Rs} (H :
  ∃ (v1 : Int32) (h1 : jm_H), m_FR_modeAhead a0 h v1 h1 ∧
  jm_in v1 3 ∧
  ∃ (v2 : Int32) (h2 : jm_H), m_FR_frameAhead a0 h1 v2 h2 ∧
  jm_in v2 24 ∧
  r = (some (jm_i (h2.1 19 (3 * 0 + v1.toNatClampNeg) v2.toNatClampNeg)), h2)) : jm_R 67 [jm_r 7 0, jm_i a0] h r := by
  refine jm_R_of hz_67 (Nat.le_of_ble_eq_true rfl) ?_
  show jm_E cod_67 (0, [some (jm_r 7 0), some (jm_i a0)], [], h) r
  refine jm_E_n 4 (x' := (4, [some (jm_r 7 0), some (jm_i a0)], [jm_i a0, jm_r 7 0, jm_r 32 0], h)) rfl ?_
  obtain ⟨v1, h1, hR, H⟩ := H
  refine jm_E_call rfl (Nat.le_of_ble_eq_true rfl) (Nat.le_of_ble_eq_true rfl) rfl hR trivial ?_
  refine jm_E_eq (x := (5, [some (jm_r 7 0), some (jm_i a0)], [jm_i v1, jm_r 32 0], h1)) rfl ?_
  refine jm_E_aald rfl rfl H.1 ?_
  replace H := H.2
  refine jm_E_eq (x := (6, [some (jm_r 7 0), some (jm_i a0)], [jm_r 6 (3 * 0 + v1.toNatClampNeg)], h1)) rfl ?_
  refine jm_E_n 4 (x' := (10, [some (jm_r 7 0), some (jm_i a0)], [jm_i a0, jm_r 7 0, jm_r 19 (3 * 0 + v1.toNatClampNeg)], h1)) rfl ?_
  obtain ⟨v2, h2, hR, H⟩ := H
  refine jm_E_call rfl (Nat.le_of_ble_eq_true rfl) (Nat.le_of_ble_eq_true rfl) rfl hR trivial ?_
  refine jm_E_eq (x := (11, [some (jm_r 7 0), some (jm_i a0)], [jm_i v2, jm_r 19 (3 * 0 + v1.toNatClampNeg)], h2)) rfl ?_
  refine jm_E_iald rfl rfl H.1 ?_
  replace H := H.2
  refine jm_E_eq (x := (12, [some (jm_r 7 0), some (jm_i a0)], [jm_i (h2.1 19 (3 * 0 + v1.toNatClampNeg) v2.toNatClampNeg)], h2)) rfl ?_
  exact jm_E_ret rfl (by rw [H]; rfl)
set_option maxRecDepth 100000 in
theorem wp_FR_ahead {a0 : Int32} {a1 : Int32} {h : jm_H} {r : jm_Rs} (H :
  ((h.1 3 (h.2.1 7 0 1) 0) = 0 →
    ∃ (v1 : Int32) (h1 : jm_H), m_FR_refused 1 h v1 h1 ∧
    r = (some (jm_i v1), h1)) ∧
  (¬ ((h.1 3 (h.2.1 7 0 1) 0) = 0) →
    (a1 < 0 →
      ∃ (v2 : Int32) (h2 : jm_H), m_FR_refused 1 h v2 h2 ∧
      r = (some (jm_i v2), h2)) ∧
    (¬ (a1 < 0) →
      (a1 ≤ 3 →
        (a0 < 0 →
          ∃ (v3 : Int32) (h3 : jm_H), m_FR_clockRefusal 0 h v3 h3 ∧
          (v3 = 0 →
            (a1 = 0 →
              ∃ (v4 : Int32) (h4 : jm_H), m_FR_beginningAhead a0 h3 v4 h4 ∧
              ∃ (v5 : Int32) (h5 : jm_H), m_FR_answered v4 h4 v5 h5 ∧
              r = (some (jm_i v5), h5)) ∧
            (a1 = 1 →
              ∃ (v6 : Int32) (h6 : jm_H), m_FR_modeAhead a0 h3 v6 h6 ∧
              ∃ (v7 : Int32) (h7 : jm_H), m_FR_answered v6 h6 v7 h7 ∧
              r = (some (jm_i v7), h7)) ∧
            (a1 = 2 →
              ∃ (v8 : Int32) (h8 : jm_H), m_FR_frameAhead a0 h3 v8 h8 ∧
              ∃ (v9 : Int32) (h9 : jm_H), m_FR_answered v8 h8 v9 h9 ∧
              r = (some (jm_i v9), h9)) ∧
            (a1.toInt < 0 ∨ 3 ≤ a1.toInt →
              ∃ (v10 : Int32) (h10 : jm_H), m_FR_slackAhead a0 h3 v10 h10 ∧
              ∃ (v11 : Int32) (h11 : jm_H), m_FR_answered v10 h10 v11 h11 ∧
              r = (some (jm_i v11), h11))) ∧
          (¬ (v3 = 0) →
            ∃ (v12 : Int32) (h12 : jm_H), m_FR_refused v3 h3 v12 h12 ∧
            r = (some (jm_i v12), h12))) ∧
        (¬ (a0 < 0) →
          (99 < a0 →
            ∃ (v13 : Int32) (h13 : jm_H), m_FR_clockRefusal 0 h v13 h13 ∧
            (v13 = 0 →
              (a1 = 0 →
                ∃ (v14 : Int32) (h14 : jm_H), m_FR_beginningAhead a0 h13 v14 h14 ∧
                ∃ (v15 : Int32) (h15 : jm_H), m_FR_answered v14 h14 v15 h15 ∧
                r = (some (jm_i v15), h15)) ∧
              (a1 = 1 →
                ∃ (v16 : Int32) (h16 : jm_H), m_FR_modeAhead a0 h13 v16 h16 ∧
                ∃ (v17 : Int32) (h17 : jm_H), m_FR_answered v16 h16 v17 h17 ∧
                r = (some (jm_i v17), h17)) ∧
              (a1 = 2 →
                ∃ (v18 : Int32) (h18 : jm_H), m_FR_frameAhead a0 h13 v18 h18 ∧
                ∃ (v19 : Int32) (h19 : jm_H), m_FR_answered v18 h18 v19 h19 ∧
                r = (some (jm_i v19), h19)) ∧
              (a1.toInt < 0 ∨ 3 ≤ a1.toInt →
                ∃ (v20 : Int32) (h20 : jm_H), m_FR_slackAhead a0 h13 v20 h20 ∧
                ∃ (v21 : Int32) (h21 : jm_H), m_FR_answered v20 h20 v21 h21 ∧
                r = (some (jm_i v21), h21))) ∧
            (¬ (v13 = 0) →
              ∃ (v22 : Int32) (h22 : jm_H), m_FR_refused v13 h13 v22 h22 ∧
              r = (some (jm_i v22), h22))) ∧
          (¬ (99 < a0) →
            ∃ (v23 : Int32) (h23 : jm_H), m_FR_clockRefusal 1 h v23 h23 ∧
            (v23 = 0 →
              (a1 = 0 →
                ∃ (v24 : Int32) (h24 : jm_H), m_FR_beginningAhead a0 h23 v24 h24 ∧
                ∃ (v25 : Int32) (h25 : jm_H), m_FR_answered v24 h24 v25 h25 ∧
                r = (some (jm_i v25), h25)) ∧
              (a1 = 1 →
                ∃ (v26 : Int32) (h26 : jm_H), m_FR_modeAhead a0 h23 v26 h26 ∧
                ∃ (v27 : Int32) (h27 : jm_H), m_FR_answered v26 h26 v27 h27 ∧
                r = (some (jm_i v27), h27)) ∧
              (a1 = 2 →
                ∃ (v28 : Int32) (h28 : jm_H), m_FR_frameAhead a0 h23 v28 h28 ∧
                ∃ (v29 : Int32) (h29 : jm_H), m_FR_answered v28 h28 v29 h29 ∧
                r = (some (jm_i v29), h29)) ∧
              (a1.toInt < 0 ∨ 3 ≤ a1.toInt →
                ∃ (v30 : Int32) (h30 : jm_H), m_FR_slackAhead a0 h23 v30 h30 ∧
                ∃ (v31 : Int32) (h31 : jm_H), m_FR_answered v30 h30 v31 h31 ∧
                r = (some (jm_i v31), h31))) ∧
            (¬ (v23 = 0) →
              ∃ (v32 : Int32) (h32 : jm_H), m_FR_refused v23 h23 v32 h32 ∧
              r = (some (jm_i v32), h32))))) ∧
      (¬ (a1 ≤ 3) →
        ∃ (v33 : Int32) (h33 : jm_H), m_FR_refused 1 h v33 h33 ∧
        r = (some (jm_i v33), h33))))) : jm_R 46 [jm_r 7 0, jm_i a0, jm_i a1] h r := by
  refine jm_R_of hz_46 (Nat.le_of_ble_eq_true rfl) ?_
  show jm_E cod_46 (0, [some (jm_r 7 0), some (jm_i a0), some (jm_i a1), none], [], h) r
  refine jm_E_n 4 (x' := (if (h.1 3 (h.2.1 7 0 1) 0) = 0 then 9 else 4, [some (jm_r 7 0), some (jm_i a0), some (jm_i a1), none], [], h)) rfl ?_
  refine jm_E_ite (fun hc => ?_) (fun hc => ?_)
  · replace H := H.1 hc
    refine jm_E_n 2 (x' := (11, [some (jm_r 7 0), some (jm_i a0), some (jm_i a1), none], [jm_i 1, jm_r 7 0], h)) rfl ?_
    obtain ⟨v1, h1, hR, H⟩ := H
    refine jm_E_call rfl (Nat.le_of_ble_eq_true rfl) (Nat.le_of_ble_eq_true rfl) rfl hR trivial ?_
    refine jm_E_eq (x := (12, [some (jm_r 7 0), some (jm_i a0), some (jm_i a1), none], [jm_i v1], h1)) rfl ?_
    exact jm_E_ret rfl (by rw [H]; rfl)
  · replace H := H.2 hc
    refine jm_E_n 2 (x' := (if a1 < 0 then 9 else 6, [some (jm_r 7 0), some (jm_i a0), some (jm_i a1), none], [], h)) rfl ?_
    refine jm_E_ite (fun hc => ?_) (fun hc => ?_)
    · replace H := H.1 hc
      refine jm_E_n 2 (x' := (11, [some (jm_r 7 0), some (jm_i a0), some (jm_i a1), none], [jm_i 1, jm_r 7 0], h)) rfl ?_
      obtain ⟨v2, h2, hR, H⟩ := H
      refine jm_E_call rfl (Nat.le_of_ble_eq_true rfl) (Nat.le_of_ble_eq_true rfl) rfl hR trivial ?_
      refine jm_E_eq (x := (12, [some (jm_r 7 0), some (jm_i a0), some (jm_i a1), none], [jm_i v2], h2)) rfl ?_
      exact jm_E_ret rfl (by rw [H]; rfl)
    · replace H := H.2 hc
      refine jm_E_n 3 (x' := (if a1 ≤ 3 then 13 else 9, [some (jm_r 7 0), some (jm_i a0), some (jm_i a1), none], [], h)) rfl ?_
      refine jm_E_ite (fun hc => ?_) (fun hc => ?_)
      · replace H := H.1 hc
        refine jm_E_n 3 (x' := (if a0 < 0 then 21 else 16, [some (jm_r 7 0), some (jm_i a0), some (jm_i a1), none], [jm_r 7 0], h)) rfl ?_
        refine jm_E_ite (fun hc => ?_) (fun hc => ?_)
        · replace H := H.1 hc
          refine jm_E_n 1 (x' := (22, [some (jm_r 7 0), some (jm_i a0), some (jm_i a1), none], [jm_i 0, jm_r 7 0], h)) rfl ?_
          obtain ⟨v3, h3, hR, H⟩ := H
          refine jm_E_call rfl (Nat.le_of_ble_eq_true rfl) (Nat.le_of_ble_eq_true rfl) rfl hR trivial ?_
          refine jm_E_eq (x := (23, [some (jm_r 7 0), some (jm_i a0), some (jm_i a1), none], [jm_i v3], h3)) rfl ?_
          refine jm_E_n 3 (x' := (if v3 = 0 then 30 else 26, [some (jm_r 7 0), some (jm_i a0), some (jm_i a1), some (jm_i v3)], [], h3)) rfl ?_
          refine jm_E_ite (fun hc => ?_) (fun hc => ?_)
          · replace H := H.1 hc
            refine jm_E_n 2 (x' := (if a1.toInt < 0 ∨ 0 + (3 : Nat) ≤ a1.toInt then 50 else ([32, 38, 44] : List Nat).getD (a1.toInt - 0).toNat 0, [some (jm_r 7 0), some (jm_i a0), some (jm_i a1), some (jm_i v3)], [], h3)) rfl ?_
            obtain ⟨H0, H1, H2, HD⟩ := H
            refine jm_E_tsw3 (fun hc => ?_) (fun hc => ?_) (fun hc => ?_) (fun hc => ?_)
            · replace H := HD hc
              refine jm_E_n 3 (x' := (53, [some (jm_r 7 0), some (jm_i a0), some (jm_i a1), some (jm_i v3)], [jm_i a0, jm_r 7 0, jm_r 7 0], h3)) rfl ?_
              obtain ⟨v10, h10, hR, H⟩ := H
              refine jm_E_call rfl (Nat.le_of_ble_eq_true rfl) (Nat.le_of_ble_eq_true rfl) rfl hR trivial ?_
              refine jm_E_eq (x := (54, [some (jm_r 7 0), some (jm_i a0), some (jm_i a1), some (jm_i v3)], [jm_i v10, jm_r 7 0], h10)) rfl ?_
              obtain ⟨v11, h11, hR, H⟩ := H
              refine jm_E_call rfl (Nat.le_of_ble_eq_true rfl) (Nat.le_of_ble_eq_true rfl) rfl hR trivial ?_
              refine jm_E_eq (x := (55, [some (jm_r 7 0), some (jm_i a0), some (jm_i a1), some (jm_i v3)], [jm_i v11], h11)) rfl ?_
              exact jm_E_ret rfl (by rw [H]; rfl)
            · replace H := H0 hc
              refine jm_E_n 3 (x' := (35, [some (jm_r 7 0), some (jm_i a0), some (jm_i a1), some (jm_i v3)], [jm_i a0, jm_r 7 0, jm_r 7 0], h3)) rfl ?_
              obtain ⟨v4, h4, hR, H⟩ := H
              refine jm_E_call rfl (Nat.le_of_ble_eq_true rfl) (Nat.le_of_ble_eq_true rfl) rfl hR trivial ?_
              refine jm_E_eq (x := (36, [some (jm_r 7 0), some (jm_i a0), some (jm_i a1), some (jm_i v3)], [jm_i v4, jm_r 7 0], h4)) rfl ?_
              obtain ⟨v5, h5, hR, H⟩ := H
              refine jm_E_call rfl (Nat.le_of_ble_eq_true rfl) (Nat.le_of_ble_eq_true rfl) rfl hR trivial ?_
              refine jm_E_eq (x := (37, [some (jm_r 7 0), some (jm_i a0), some (jm_i a1), some (jm_i v3)], [jm_i v5], h5)) rfl ?_
              exact jm_E_ret rfl (by rw [H]; rfl)
            · replace H := H1 hc
              refine jm_E_n 3 (x' := (41, [some (jm_r 7 0), some (jm_i a0), some (jm_i a1), some (jm_i v3)], [jm_i a0, jm_r 7 0, jm_r 7 0], h3)) rfl ?_
              obtain ⟨v6, h6, hR, H⟩ := H
              refine jm_E_call rfl (Nat.le_of_ble_eq_true rfl) (Nat.le_of_ble_eq_true rfl) rfl hR trivial ?_
              refine jm_E_eq (x := (42, [some (jm_r 7 0), some (jm_i a0), some (jm_i a1), some (jm_i v3)], [jm_i v6, jm_r 7 0], h6)) rfl ?_
              obtain ⟨v7, h7, hR, H⟩ := H
              refine jm_E_call rfl (Nat.le_of_ble_eq_true rfl) (Nat.le_of_ble_eq_true rfl) rfl hR trivial ?_
              refine jm_E_eq (x := (43, [some (jm_r 7 0), some (jm_i a0), some (jm_i a1), some (jm_i v3)], [jm_i v7], h7)) rfl ?_
              exact jm_E_ret rfl (by rw [H]; rfl)
            · replace H := H2 hc
              refine jm_E_n 3 (x' := (47, [some (jm_r 7 0), some (jm_i a0), some (jm_i a1), some (jm_i v3)], [jm_i a0, jm_r 7 0, jm_r 7 0], h3)) rfl ?_
              obtain ⟨v8, h8, hR, H⟩ := H
              refine jm_E_call rfl (Nat.le_of_ble_eq_true rfl) (Nat.le_of_ble_eq_true rfl) rfl hR trivial ?_
              refine jm_E_eq (x := (48, [some (jm_r 7 0), some (jm_i a0), some (jm_i a1), some (jm_i v3)], [jm_i v8, jm_r 7 0], h8)) rfl ?_
              obtain ⟨v9, h9, hR, H⟩ := H
              refine jm_E_call rfl (Nat.le_of_ble_eq_true rfl) (Nat.le_of_ble_eq_true rfl) rfl hR trivial ?_
              refine jm_E_eq (x := (49, [some (jm_r 7 0), some (jm_i a0), some (jm_i a1), some (jm_i v3)], [jm_i v9], h9)) rfl ?_
              exact jm_E_ret rfl (by rw [H]; rfl)
          · replace H := H.2 hc
            refine jm_E_n 2 (x' := (28, [some (jm_r 7 0), some (jm_i a0), some (jm_i a1), some (jm_i v3)], [jm_i v3, jm_r 7 0], h3)) rfl ?_
            obtain ⟨v12, h12, hR, H⟩ := H
            refine jm_E_call rfl (Nat.le_of_ble_eq_true rfl) (Nat.le_of_ble_eq_true rfl) rfl hR trivial ?_
            refine jm_E_eq (x := (29, [some (jm_r 7 0), some (jm_i a0), some (jm_i a1), some (jm_i v3)], [jm_i v12], h12)) rfl ?_
            exact jm_E_ret rfl (by rw [H]; rfl)
        · replace H := H.2 hc
          refine jm_E_n 3 (x' := (if 99 < a0 then 21 else 19, [some (jm_r 7 0), some (jm_i a0), some (jm_i a1), none], [jm_r 7 0], h)) rfl ?_
          refine jm_E_ite (fun hc => ?_) (fun hc => ?_)
          · replace H := H.1 hc
            refine jm_E_n 1 (x' := (22, [some (jm_r 7 0), some (jm_i a0), some (jm_i a1), none], [jm_i 0, jm_r 7 0], h)) rfl ?_
            obtain ⟨v13, h13, hR, H⟩ := H
            refine jm_E_call rfl (Nat.le_of_ble_eq_true rfl) (Nat.le_of_ble_eq_true rfl) rfl hR trivial ?_
            refine jm_E_eq (x := (23, [some (jm_r 7 0), some (jm_i a0), some (jm_i a1), none], [jm_i v13], h13)) rfl ?_
            refine jm_E_n 3 (x' := (if v13 = 0 then 30 else 26, [some (jm_r 7 0), some (jm_i a0), some (jm_i a1), some (jm_i v13)], [], h13)) rfl ?_
            refine jm_E_ite (fun hc => ?_) (fun hc => ?_)
            · replace H := H.1 hc
              refine jm_E_n 2 (x' := (if a1.toInt < 0 ∨ 0 + (3 : Nat) ≤ a1.toInt then 50 else ([32, 38, 44] : List Nat).getD (a1.toInt - 0).toNat 0, [some (jm_r 7 0), some (jm_i a0), some (jm_i a1), some (jm_i v13)], [], h13)) rfl ?_
              obtain ⟨H0, H1, H2, HD⟩ := H
              refine jm_E_tsw3 (fun hc => ?_) (fun hc => ?_) (fun hc => ?_) (fun hc => ?_)
              · replace H := HD hc
                refine jm_E_n 3 (x' := (53, [some (jm_r 7 0), some (jm_i a0), some (jm_i a1), some (jm_i v13)], [jm_i a0, jm_r 7 0, jm_r 7 0], h13)) rfl ?_
                obtain ⟨v20, h20, hR, H⟩ := H
                refine jm_E_call rfl (Nat.le_of_ble_eq_true rfl) (Nat.le_of_ble_eq_true rfl) rfl hR trivial ?_
                refine jm_E_eq (x := (54, [some (jm_r 7 0), some (jm_i a0), some (jm_i a1), some (jm_i v13)], [jm_i v20, jm_r 7 0], h20)) rfl ?_
                obtain ⟨v21, h21, hR, H⟩ := H
                refine jm_E_call rfl (Nat.le_of_ble_eq_true rfl) (Nat.le_of_ble_eq_true rfl) rfl hR trivial ?_
                refine jm_E_eq (x := (55, [some (jm_r 7 0), some (jm_i a0), some (jm_i a1), some (jm_i v13)], [jm_i v21], h21)) rfl ?_
                exact jm_E_ret rfl (by rw [H]; rfl)
              · replace H := H0 hc
                refine jm_E_n 3 (x' := (35, [some (jm_r 7 0), some (jm_i a0), some (jm_i a1), some (jm_i v13)], [jm_i a0, jm_r 7 0, jm_r 7 0], h13)) rfl ?_
                obtain ⟨v14, h14, hR, H⟩ := H
                refine jm_E_call rfl (Nat.le_of_ble_eq_true rfl) (Nat.le_of_ble_eq_true rfl) rfl hR trivial ?_
                refine jm_E_eq (x := (36, [some (jm_r 7 0), some (jm_i a0), some (jm_i a1), some (jm_i v13)], [jm_i v14, jm_r 7 0], h14)) rfl ?_
                obtain ⟨v15, h15, hR, H⟩ := H
                refine jm_E_call rfl (Nat.le_of_ble_eq_true rfl) (Nat.le_of_ble_eq_true rfl) rfl hR trivial ?_
                refine jm_E_eq (x := (37, [some (jm_r 7 0), some (jm_i a0), some (jm_i a1), some (jm_i v13)], [jm_i v15], h15)) rfl ?_
                exact jm_E_ret rfl (by rw [H]; rfl)
              · replace H := H1 hc
                refine jm_E_n 3 (x' := (41, [some (jm_r 7 0), some (jm_i a0), some (jm_i a1), some (jm_i v13)], [jm_i a0, jm_r 7 0, jm_r 7 0], h13)) rfl ?_
                obtain ⟨v16, h16, hR, H⟩ := H
                refine jm_E_call rfl (Nat.le_of_ble_eq_true rfl) (Nat.le_of_ble_eq_true rfl) rfl hR trivial ?_
                refine jm_E_eq (x := (42, [some (jm_r 7 0), some (jm_i a0), some (jm_i a1), some (jm_i v13)], [jm_i v16, jm_r 7 0], h16)) rfl ?_
                obtain ⟨v17, h17, hR, H⟩ := H
                refine jm_E_call rfl (Nat.le_of_ble_eq_true rfl) (Nat.le_of_ble_eq_true rfl) rfl hR trivial ?_
                refine jm_E_eq (x := (43, [some (jm_r 7 0), some (jm_i a0), some (jm_i a1), some (jm_i v13)], [jm_i v17], h17)) rfl ?_
                exact jm_E_ret rfl (by rw [H]; rfl)
              · replace H := H2 hc
                refine jm_E_n 3 (x' := (47, [some (jm_r 7 0), some (jm_i a0), some (jm_i a1), some (jm_i v13)], [jm_i a0, jm_r 7 0, jm_r 7 0], h13)) rfl ?_
                obtain ⟨v18, h18, hR, H⟩ := H
                refine jm_E_call rfl (Nat.le_of_ble_eq_true rfl) (Nat.le_of_ble_eq_true rfl) rfl hR trivial ?_
                refine jm_E_eq (x := (48, [some (jm_r 7 0), some (jm_i a0), some (jm_i a1), some (jm_i v13)], [jm_i v18, jm_r 7 0], h18)) rfl ?_
                obtain ⟨v19, h19, hR, H⟩ := H
                refine jm_E_call rfl (Nat.le_of_ble_eq_true rfl) (Nat.le_of_ble_eq_true rfl) rfl hR trivial ?_
                refine jm_E_eq (x := (49, [some (jm_r 7 0), some (jm_i a0), some (jm_i a1), some (jm_i v13)], [jm_i v19], h19)) rfl ?_
                exact jm_E_ret rfl (by rw [H]; rfl)
            · replace H := H.2 hc
              refine jm_E_n 2 (x' := (28, [some (jm_r 7 0), some (jm_i a0), some (jm_i a1), some (jm_i v13)], [jm_i v13, jm_r 7 0], h13)) rfl ?_
              obtain ⟨v22, h22, hR, H⟩ := H
              refine jm_E_call rfl (Nat.le_of_ble_eq_true rfl) (Nat.le_of_ble_eq_true rfl) rfl hR trivial ?_
              refine jm_E_eq (x := (29, [some (jm_r 7 0), some (jm_i a0), some (jm_i a1), some (jm_i v13)], [jm_i v22], h22)) rfl ?_
              exact jm_E_ret rfl (by rw [H]; rfl)
          · replace H := H.2 hc
            refine jm_E_n 2 (x' := (22, [some (jm_r 7 0), some (jm_i a0), some (jm_i a1), none], [jm_i 1, jm_r 7 0], h)) rfl ?_
            obtain ⟨v23, h23, hR, H⟩ := H
            refine jm_E_call rfl (Nat.le_of_ble_eq_true rfl) (Nat.le_of_ble_eq_true rfl) rfl hR trivial ?_
            refine jm_E_eq (x := (23, [some (jm_r 7 0), some (jm_i a0), some (jm_i a1), none], [jm_i v23], h23)) rfl ?_
            refine jm_E_n 3 (x' := (if v23 = 0 then 30 else 26, [some (jm_r 7 0), some (jm_i a0), some (jm_i a1), some (jm_i v23)], [], h23)) rfl ?_
            refine jm_E_ite (fun hc => ?_) (fun hc => ?_)
            · replace H := H.1 hc
              refine jm_E_n 2 (x' := (if a1.toInt < 0 ∨ 0 + (3 : Nat) ≤ a1.toInt then 50 else ([32, 38, 44] : List Nat).getD (a1.toInt - 0).toNat 0, [some (jm_r 7 0), some (jm_i a0), some (jm_i a1), some (jm_i v23)], [], h23)) rfl ?_
              obtain ⟨H0, H1, H2, HD⟩ := H
              refine jm_E_tsw3 (fun hc => ?_) (fun hc => ?_) (fun hc => ?_) (fun hc => ?_)
              · replace H := HD hc
                refine jm_E_n 3 (x' := (53, [some (jm_r 7 0), some (jm_i a0), some (jm_i a1), some (jm_i v23)], [jm_i a0, jm_r 7 0, jm_r 7 0], h23)) rfl ?_
                obtain ⟨v30, h30, hR, H⟩ := H
                refine jm_E_call rfl (Nat.le_of_ble_eq_true rfl) (Nat.le_of_ble_eq_true rfl) rfl hR trivial ?_
                refine jm_E_eq (x := (54, [some (jm_r 7 0), some (jm_i a0), some (jm_i a1), some (jm_i v23)], [jm_i v30, jm_r 7 0], h30)) rfl ?_
                obtain ⟨v31, h31, hR, H⟩ := H
                refine jm_E_call rfl (Nat.le_of_ble_eq_true rfl) (Nat.le_of_ble_eq_true rfl) rfl hR trivial ?_
                refine jm_E_eq (x := (55, [some (jm_r 7 0), some (jm_i a0), some (jm_i a1), some (jm_i v23)], [jm_i v31], h31)) rfl ?_
                exact jm_E_ret rfl (by rw [H]; rfl)
              · replace H := H0 hc
                refine jm_E_n 3 (x' := (35, [some (jm_r 7 0), some (jm_i a0), some (jm_i a1), some (jm_i v23)], [jm_i a0, jm_r 7 0, jm_r 7 0], h23)) rfl ?_
                obtain ⟨v24, h24, hR, H⟩ := H
                refine jm_E_call rfl (Nat.le_of_ble_eq_true rfl) (Nat.le_of_ble_eq_true rfl) rfl hR trivial ?_
                refine jm_E_eq (x := (36, [some (jm_r 7 0), some (jm_i a0), some (jm_i a1), some (jm_i v23)], [jm_i v24, jm_r 7 0], h24)) rfl ?_
                obtain ⟨v25, h25, hR, H⟩ := H
                refine jm_E_call rfl (Nat.le_of_ble_eq_true rfl) (Nat.le_of_ble_eq_true rfl) rfl hR trivial ?_
                refine jm_E_eq (x := (37, [some (jm_r 7 0), some (jm_i a0), some (jm_i a1), some (jm_i v23)], [jm_i v25], h25)) rfl ?_
                exact jm_E_ret rfl (by rw [H]; rfl)
              · replace H := H1 hc
                refine jm_E_n 3 (x' := (41, [some (jm_r 7 0), some (jm_i a0), some (jm_i a1), some (jm_i v23)], [jm_i a0, jm_r 7 0, jm_r 7 0], h23)) rfl ?_
                obtain ⟨v26, h26, hR, H⟩ := H
                refine jm_E_call rfl (Nat.le_of_ble_eq_true rfl) (Nat.le_of_ble_eq_true rfl) rfl hR trivial ?_
                refine jm_E_eq (x := (42, [some (jm_r 7 0), some (jm_i a0), some (jm_i a1), some (jm_i v23)], [jm_i v26, jm_r 7 0], h26)) rfl ?_
                obtain ⟨v27, h27, hR, H⟩ := H
                refine jm_E_call rfl (Nat.le_of_ble_eq_true rfl) (Nat.le_of_ble_eq_true rfl) rfl hR trivial ?_
                refine jm_E_eq (x := (43, [some (jm_r 7 0), some (jm_i a0), some (jm_i a1), some (jm_i v23)], [jm_i v27], h27)) rfl ?_
                exact jm_E_ret rfl (by rw [H]; rfl)
              · replace H := H2 hc
                refine jm_E_n 3 (x' := (47, [some (jm_r 7 0), some (jm_i a0), some (jm_i a1), some (jm_i v23)], [jm_i a0, jm_r 7 0, jm_r 7 0], h23)) rfl ?_
                obtain ⟨v28, h28, hR, H⟩ := H
                refine jm_E_call rfl (Nat.le_of_ble_eq_true rfl) (Nat.le_of_ble_eq_true rfl) rfl hR trivial ?_
                refine jm_E_eq (x := (48, [some (jm_r 7 0), some (jm_i a0), some (jm_i a1), some (jm_i v23)], [jm_i v28, jm_r 7 0], h28)) rfl ?_
                obtain ⟨v29, h29, hR, H⟩ := H
                refine jm_E_call rfl (Nat.le_of_ble_eq_true rfl) (Nat.le_of_ble_eq_true rfl) rfl hR trivial ?_
                refine jm_E_eq (x := (49, [some (jm_r 7 0), some (jm_i a0), some (jm_i a1), some (jm_i v23)], [jm_i v29], h29)) rfl ?_
                exact jm_E_ret rfl (by rw [H]; rfl)
            · replace H := H.2 hc
              refine jm_E_n 2 (x' := (28, [some (jm_r 7 0), some (jm_i a0), some (jm_i a1), some (jm_i v23)], [jm_i v23, jm_r 7 0], h23)) rfl ?_
              obtain ⟨v32, h32, hR, H⟩ := H
              refine jm_E_call rfl (Nat.le_of_ble_eq_true rfl) (Nat.le_of_ble_eq_true rfl) rfl hR trivial ?_
              refine jm_E_eq (x := (29, [some (jm_r 7 0), some (jm_i a0), some (jm_i a1), some (jm_i v23)], [jm_i v32], h32)) rfl ?_
              exact jm_E_ret rfl (by rw [H]; rfl)
      · replace H := H.2 hc
        refine jm_E_n 2 (x' := (11, [some (jm_r 7 0), some (jm_i a0), some (jm_i a1), none], [jm_i 1, jm_r 7 0], h)) rfl ?_
        obtain ⟨v33, h33, hR, H⟩ := H
        refine jm_E_call rfl (Nat.le_of_ble_eq_true rfl) (Nat.le_of_ble_eq_true rfl) rfl hR trivial ?_
        refine jm_E_eq (x := (12, [some (jm_r 7 0), some (jm_i a0), some (jm_i a1), none], [jm_i v33], h33)) rfl ?_
        exact jm_E_ret rfl (by rw [H]; rfl)
set_option maxRecDepth 100000 in
theorem wp_Clock_needsUpTo_4 {x0 : Nat} {x1 : Int32} {x2 : Int32} {x3 : Int32} {h : jm_H} {r : jm_Rs} (H :
  (x1 < x3 →
    r = (some (jm_i x2), h)) ∧
  (¬ (x1 < x3) →
    ((h.1 0 x0 3) ≤ x3 →
      r = (some (jm_i x2), h)) ∧
    (¬ ((h.1 0 x0 3) ≤ x3) →
      jm_in x3 8 ∧
      l_Clock_needsUpTo_4 x0 x1 (x2 + (h.1 10 x0 x3.toNatClampNeg)) (x3 + 1) h r))) : l_Clock_needsUpTo_4 x0 x1 x2 x3 h r := by
  refine jm_E_n 3 (x' := (if x1 < x3 then 20 else 7, [some (jm_r 0 x0), some (jm_i x1), some (jm_i x2), some (jm_i x3)], [], h)) rfl ?_
  refine jm_E_ite (fun hc => ?_) (fun hc => ?_)
  · replace H := H.1 hc
    refine jm_E_n 1 (x' := (21, [some (jm_r 0 x0), some (jm_i x1), some (jm_i x2), some (jm_i x3)], [jm_i x2], h)) rfl ?_
    exact jm_E_ret rfl (by rw [H]; rfl)
  · replace H := H.2 hc
    refine jm_E_n 4 (x' := (if (h.1 0 x0 3) ≤ x3 then 20 else 11, [some (jm_r 0 x0), some (jm_i x1), some (jm_i x2), some (jm_i x3)], [], h)) rfl ?_
    refine jm_E_ite (fun hc => ?_) (fun hc => ?_)
    · replace H := H.1 hc
      refine jm_E_n 1 (x' := (21, [some (jm_r 0 x0), some (jm_i x1), some (jm_i x2), some (jm_i x3)], [jm_i x2], h)) rfl ?_
      exact jm_E_ret rfl (by rw [H]; rfl)
    · replace H := H.2 hc
      refine jm_E_n 4 (x' := (15, [some (jm_r 0 x0), some (jm_i x1), some (jm_i x2), some (jm_i x3)], [jm_i x3, jm_r 10 x0, jm_i x2], h)) rfl ?_
      refine jm_E_iald rfl rfl H.1 ?_
      replace H := H.2
      refine jm_E_eq (x := (16, [some (jm_r 0 x0), some (jm_i x1), some (jm_i x2), some (jm_i x3)], [jm_i (h.1 10 x0 x3.toNatClampNeg), jm_i x2], h)) rfl ?_
      refine jm_E_n 4 (x' := (4, [some (jm_r 0 x0), some (jm_i x1), some (jm_i (x2 + (h.1 10 x0 x3.toNatClampNeg))), some (jm_i (x3 + 1))], [], h)) rfl ?_
      exact H
set_option maxRecDepth 100000 in
theorem wp_Clock_needsUpTo {o : Nat} {a0 : Int32} {h : jm_H} {r : jm_Rs} (H :
  l_Clock_needsUpTo_4 o a0 0 0 h r) : jm_R 205 [jm_r 0 o, jm_i a0] h r := by
  refine jm_R_of hz_205 (Nat.le_of_ble_eq_true rfl) ?_
  show jm_E cod_205 (0, [some (jm_r 0 o), some (jm_i a0), none, none], [], h) r
  refine jm_E_n 4 (x' := (4, [some (jm_r 0 o), some (jm_i a0), some (jm_i 0), some (jm_i 0)], [], h)) rfl ?_
  exact H
set_option maxRecDepth 100000 in
theorem wp_FR_endOfWaiting_9 {x2 : Int32} {x3 : Int32} {x4 : Int32} {h : jm_H} {r : jm_Rs} (H :
  (400 ≤ x4 →
    r = (some (jm_i (-2)), h)) ∧
  (¬ (400 ≤ x4) →
    ∃ (v2 : Int32) (h2 : jm_H), m_FR_slackAhead x4 h v2 h2 ∧
    ((x3 + v2) < x2 →
      l_FR_endOfWaiting_9 x2 (x3 + v2) (x4 + 1) h2 r) ∧
    (¬ ((x3 + v2) < x2) →
      ∃ (v3 : Int32) (h3 : jm_H), m_FR_beginningAhead x4 h2 v3 h3 ∧
      ∃ (v4 : Int32) (h4 : jm_H), m_FR_modeAhead x4 h3 v4 h4 ∧
      jm_in v4 3 ∧
      r = (some (jm_i (v3 + (h4.1 1 (3 * 0 + v4.toNatClampNeg) 0))), h4)))) : l_FR_endOfWaiting_9 x2 x3 x4 h r := by
  refine jm_E_n 3 (x' := (if 400 ≤ x4 then 36 else 12, [some (jm_r 7 0), none, some (jm_i x2), some (jm_i x3), some (jm_i x4)], [], h)) rfl ?_
  refine jm_E_ite (fun hc => ?_) (fun hc => ?_)
  · replace H := H.1 hc
    refine jm_E_n 1 (x' := (37, [some (jm_r 7 0), none, some (jm_i x2), some (jm_i x3), some (jm_i x4)], [jm_i (-2)], h)) rfl ?_
    exact jm_E_ret rfl (by rw [H]; rfl)
  · replace H := H.2 hc
    refine jm_E_n 3 (x' := (15, [some (jm_r 7 0), none, some (jm_i x2), some (jm_i x3), some (jm_i x4)], [jm_i x4, jm_r 7 0, jm_i x3], h)) rfl ?_
    obtain ⟨v2, h2, hR, H⟩ := H
    refine jm_E_call rfl (Nat.le_of_ble_eq_true rfl) (Nat.le_of_ble_eq_true rfl) rfl hR trivial ?_
    refine jm_E_eq (x := (16, [some (jm_r 7 0), none, some (jm_i x2), some (jm_i x3), some (jm_i x4)], [jm_i v2, jm_i x3], h2)) rfl ?_
    refine jm_E_n 5 (x' := (if (x3 + v2) < x2 then 34 else 21, [some (jm_r 7 0), none, some (jm_i x2), some (jm_i (x3 + v2)), some (jm_i x4)], [], h2)) rfl ?_
    refine jm_E_ite (fun hc => ?_) (fun hc => ?_)
    · replace H := H.1 hc
      refine jm_E_n 2 (x' := (9, [some (jm_r 7 0), none, some (jm_i x2), some (jm_i (x3 + v2)), some (jm_i (x4 + 1))], [], h2)) rfl ?_
      exact H
    · replace H := H.2 hc
      refine jm_E_n 2 (x' := (23, [some (jm_r 7 0), none, some (jm_i x2), some (jm_i (x3 + v2)), some (jm_i x4)], [jm_i x4, jm_r 7 0], h2)) rfl ?_
      obtain ⟨v3, h3, hR, H⟩ := H
      refine jm_E_call rfl (Nat.le_of_ble_eq_true rfl) (Nat.le_of_ble_eq_true rfl) rfl hR trivial ?_
      refine jm_E_eq (x := (24, [some (jm_r 7 0), none, some (jm_i x2), some (jm_i (x3 + v2)), some (jm_i x4)], [jm_i v3], h3)) rfl ?_
      refine jm_E_n 4 (x' := (28, [some (jm_r 7 0), none, some (jm_i x2), some (jm_i (x3 + v2)), some (jm_i x4)], [jm_i x4, jm_r 7 0, jm_r 32 0, jm_i v3], h3)) rfl ?_
      obtain ⟨v4, h4, hR, H⟩ := H
      refine jm_E_call rfl (Nat.le_of_ble_eq_true rfl) (Nat.le_of_ble_eq_true rfl) rfl hR trivial ?_
      refine jm_E_eq (x := (29, [some (jm_r 7 0), none, some (jm_i x2), some (jm_i (x3 + v2)), some (jm_i x4)], [jm_i v4, jm_r 32 0, jm_i v3], h4)) rfl ?_
      refine jm_E_aald rfl rfl H.1 ?_
      replace H := H.2
      refine jm_E_eq (x := (30, [some (jm_r 7 0), none, some (jm_i x2), some (jm_i (x3 + v2)), some (jm_i x4)], [jm_r 6 (3 * 0 + v4.toNatClampNeg), jm_i v3], h4)) rfl ?_
      refine jm_E_n 3 (x' := (33, [some (jm_r 7 0), none, some (jm_i x2), some (jm_i (x3 + v2)), some (jm_i x4)], [jm_i (v3 + (h4.1 1 (3 * 0 + v4.toNatClampNeg) 0))], h4)) rfl ?_
      exact jm_E_ret rfl (by rw [H]; rfl)
set_option maxRecDepth 100000 in
theorem wp_FR_endOfWaiting {a0 : Int32} {h : jm_H} {r : jm_Rs} (H :
  ∃ (v1 : Int32) (h1 : jm_H), m_Clock_needsUpTo 0 a0 h v1 h1 ∧
  l_FR_endOfWaiting_9 v1 0 0 h1 r) : jm_R 68 [jm_r 7 0, jm_i a0] h r := by
  refine jm_R_of hz_68 (Nat.le_of_ble_eq_true rfl) ?_
  show jm_E cod_68 (0, [some (jm_r 7 0), some (jm_i a0), none, none, none], [], h) r
  refine jm_E_n 3 (x' := (3, [some (jm_r 7 0), some (jm_i a0), none, none, none], [jm_i a0, jm_r 0 0], h)) rfl ?_
  obtain ⟨v1, h1, hR, H⟩ := H
  refine jm_E_call rfl (Nat.le_of_ble_eq_true rfl) (Nat.le_of_ble_eq_true rfl) rfl hR trivial ?_
  refine jm_E_eq (x := (4, [some (jm_r 7 0), some (jm_i a0), none, none, none], [jm_i v1], h1)) rfl ?_
  refine jm_E_n 5 (x' := (9, [some (jm_r 7 0), some (jm_i a0), some (jm_i v1), some (jm_i 0), some (jm_i 0)], [], h1)) rfl ?_
  exact jm_E_weak (jm_le_s (jm_le_n (jm_le_s (jm_le_s (jm_le_s jm_le_nil))))) H
set_option maxRecDepth 100000 in
theorem wp_FR_waiting {a0 : Int32} {a1 : Int32} {h : jm_H} {r : jm_Rs} (H :
  (a0 < 0 →
    ∃ (v1 : Int32) (h1 : jm_H), m_FR_refused 1 h v1 h1 ∧
    r = (some (jm_i v1), h1)) ∧
  (¬ (a0 < 0) →
    ((h.1 0 0 3) ≤ a0 →
      ∃ (v2 : Int32) (h2 : jm_H), m_FR_refused 1 h v2 h2 ∧
      r = (some (jm_i v2), h2)) ∧
    (¬ ((h.1 0 0 3) ≤ a0) →
      (a1 < 0 →
        ∃ (v3 : Int32) (h3 : jm_H), m_FR_refused 1 h v3 h3 ∧
        r = (some (jm_i v3), h3)) ∧
      (¬ (a1 < 0) →
        (a1 ≤ 2 →
          (a1 = 0 →
            jm_in a0 8 ∧
            ∃ (v4 : Int32) (h4 : jm_H), m_FR_answered (h.1 10 0 a0.toNatClampNeg) h v4 h4 ∧
            r = (some (jm_i v4), h4)) ∧
          (a1 = 1 →
            jm_in a0 8 ∧
            ∃ (v5 : Int32) (h5 : jm_H), m_FR_answered (h.1 11 0 a0.toNatClampNeg) h v5 h5 ∧
            r = (some (jm_i v5), h5)) ∧
          (¬ a1 = 0 ∧ ¬ a1 = 1 →
            ∃ (v6 : Int32) (h6 : jm_H), m_FR_endOfWaiting a0 h v6 h6 ∧
            ∃ (v7 : Int32) (h7 : jm_H), m_FR_answered v6 h6 v7 h7 ∧
            r = (some (jm_i v7), h7))) ∧
        (¬ (a1 ≤ 2) →
          ∃ (v8 : Int32) (h8 : jm_H), m_FR_refused 1 h v8 h8 ∧
          r = (some (jm_i v8), h8)))))) : jm_R 47 [jm_r 7 0, jm_i a0, jm_i a1] h r := by
  refine jm_R_of hz_47 (Nat.le_of_ble_eq_true rfl) ?_
  show jm_E cod_47 (0, [some (jm_r 7 0), some (jm_i a0), some (jm_i a1)], [], h) r
  refine jm_E_n 2 (x' := (if a0 < 0 then 12 else 2, [some (jm_r 7 0), some (jm_i a0), some (jm_i a1)], [], h)) rfl ?_
  refine jm_E_ite (fun hc => ?_) (fun hc => ?_)
  · replace H := H.1 hc
    refine jm_E_n 2 (x' := (14, [some (jm_r 7 0), some (jm_i a0), some (jm_i a1)], [jm_i 1, jm_r 7 0], h)) rfl ?_
    obtain ⟨v1, h1, hR, H⟩ := H
    refine jm_E_call rfl (Nat.le_of_ble_eq_true rfl) (Nat.le_of_ble_eq_true rfl) rfl hR trivial ?_
    refine jm_E_eq (x := (15, [some (jm_r 7 0), some (jm_i a0), some (jm_i a1)], [jm_i v1], h1)) rfl ?_
    exact jm_E_ret rfl (by rw [H]; rfl)
  · replace H := H.2 hc
    refine jm_E_n 5 (x' := (if (h.1 0 0 3) ≤ a0 then 12 else 7, [some (jm_r 7 0), some (jm_i a0), some (jm_i a1)], [], h)) rfl ?_
    refine jm_E_ite (fun hc => ?_) (fun hc => ?_)
    · replace H := H.1 hc
      refine jm_E_n 2 (x' := (14, [some (jm_r 7 0), some (jm_i a0), some (jm_i a1)], [jm_i 1, jm_r 7 0], h)) rfl ?_
      obtain ⟨v2, h2, hR, H⟩ := H
      refine jm_E_call rfl (Nat.le_of_ble_eq_true rfl) (Nat.le_of_ble_eq_true rfl) rfl hR trivial ?_
      refine jm_E_eq (x := (15, [some (jm_r 7 0), some (jm_i a0), some (jm_i a1)], [jm_i v2], h2)) rfl ?_
      exact jm_E_ret rfl (by rw [H]; rfl)
    · replace H := H.2 hc
      refine jm_E_n 2 (x' := (if a1 < 0 then 12 else 9, [some (jm_r 7 0), some (jm_i a0), some (jm_i a1)], [], h)) rfl ?_
      refine jm_E_ite (fun hc => ?_) (fun hc => ?_)
      · replace H := H.1 hc
        refine jm_E_n 2 (x' := (14, [some (jm_r 7 0), some (jm_i a0), some (jm_i a1)], [jm_i 1, jm_r 7 0], h)) rfl ?_
        obtain ⟨v3, h3, hR, H⟩ := H
        refine jm_E_call rfl (Nat.le_of_ble_eq_true rfl) (Nat.le_of_ble_eq_true rfl) rfl hR trivial ?_
        refine jm_E_eq (x := (15, [some (jm_r 7 0), some (jm_i a0), some (jm_i a1)], [jm_i v3], h3)) rfl ?_
        exact jm_E_ret rfl (by rw [H]; rfl)
      · replace H := H.2 hc
        refine jm_E_n 3 (x' := (if a1 ≤ 2 then 16 else 12, [some (jm_r 7 0), some (jm_i a0), some (jm_i a1)], [], h)) rfl ?_
        refine jm_E_ite (fun hc => ?_) (fun hc => ?_)
        · replace H := H.1 hc
          refine jm_E_n 2 (x' := (jm_lsf a1.toInt 34 [(0, 18), (1, 26)], [some (jm_r 7 0), some (jm_i a0), some (jm_i a1)], [], h)) rfl ?_
          obtain ⟨H0, H1, HD⟩ := H
          refine jm_E_lsw2 (fun hc => ?_) (fun hc => ?_) (fun hc => ?_)
          · replace H := HD hc
            refine jm_E_n 3 (x' := (37, [some (jm_r 7 0), some (jm_i a0), some (jm_i a1)], [jm_i a0, jm_r 7 0, jm_r 7 0], h)) rfl ?_
            obtain ⟨v6, h6, hR, H⟩ := H
            refine jm_E_call rfl (Nat.le_of_ble_eq_true rfl) (Nat.le_of_ble_eq_true rfl) rfl hR trivial ?_
            refine jm_E_eq (x := (38, [some (jm_r 7 0), some (jm_i a0), some (jm_i a1)], [jm_i v6, jm_r 7 0], h6)) rfl ?_
            obtain ⟨v7, h7, hR, H⟩ := H
            refine jm_E_call rfl (Nat.le_of_ble_eq_true rfl) (Nat.le_of_ble_eq_true rfl) rfl hR trivial ?_
            refine jm_E_eq (x := (39, [some (jm_r 7 0), some (jm_i a0), some (jm_i a1)], [jm_i v7], h7)) rfl ?_
            exact jm_E_ret rfl (by rw [H]; rfl)
          · replace H := H0 hc
            refine jm_E_n 5 (x' := (23, [some (jm_r 7 0), some (jm_i a0), some (jm_i a1)], [jm_i a0, jm_r 10 0, jm_r 7 0], h)) rfl ?_
            refine jm_E_iald rfl rfl H.1 ?_
            replace H := H.2
            refine jm_E_eq (x := (24, [some (jm_r 7 0), some (jm_i a0), some (jm_i a1)], [jm_i (h.1 10 0 a0.toNatClampNeg), jm_r 7 0], h)) rfl ?_
            obtain ⟨v4, h4, hR, H⟩ := H
            refine jm_E_call rfl (Nat.le_of_ble_eq_true rfl) (Nat.le_of_ble_eq_true rfl) rfl hR trivial ?_
            refine jm_E_eq (x := (25, [some (jm_r 7 0), some (jm_i a0), some (jm_i a1)], [jm_i v4], h4)) rfl ?_
            exact jm_E_ret rfl (by rw [H]; rfl)
          · replace H := H1 hc
            refine jm_E_n 5 (x' := (31, [some (jm_r 7 0), some (jm_i a0), some (jm_i a1)], [jm_i a0, jm_r 11 0, jm_r 7 0], h)) rfl ?_
            refine jm_E_iald rfl rfl H.1 ?_
            replace H := H.2
            refine jm_E_eq (x := (32, [some (jm_r 7 0), some (jm_i a0), some (jm_i a1)], [jm_i (h.1 11 0 a0.toNatClampNeg), jm_r 7 0], h)) rfl ?_
            obtain ⟨v5, h5, hR, H⟩ := H
            refine jm_E_call rfl (Nat.le_of_ble_eq_true rfl) (Nat.le_of_ble_eq_true rfl) rfl hR trivial ?_
            refine jm_E_eq (x := (33, [some (jm_r 7 0), some (jm_i a0), some (jm_i a1)], [jm_i v5], h5)) rfl ?_
            exact jm_E_ret rfl (by rw [H]; rfl)
        · replace H := H.2 hc
          refine jm_E_n 2 (x' := (14, [some (jm_r 7 0), some (jm_i a0), some (jm_i a1)], [jm_i 1, jm_r 7 0], h)) rfl ?_
          obtain ⟨v8, h8, hR, H⟩ := H
          refine jm_E_call rfl (Nat.le_of_ble_eq_true rfl) (Nat.le_of_ble_eq_true rfl) rfl hR trivial ?_
          refine jm_E_eq (x := (15, [some (jm_r 7 0), some (jm_i a0), some (jm_i a1)], [jm_i v8], h8)) rfl ?_
          exact jm_E_ret rfl (by rw [H]; rfl)
set_option maxRecDepth 100000 in
theorem wp_FR_isNeed {a0 : Int32} {h : jm_H} {r : jm_Rs} (H :
  (a0 < 1 →
    r = (some (jm_i 0), h)) ∧
  (¬ (a0 < 1) →
    (400 < a0 →
      r = (some (jm_i 0), h)) ∧
    (¬ (400 < a0) →
      r = (some (jm_i 1), h)))) : jm_R 61 [jm_i a0] h r := by
  refine jm_R_of hz_61 (Nat.le_of_ble_eq_true rfl) ?_
  show jm_E cod_61 (0, [some (jm_i a0)], [], h) r
  refine jm_E_n 3 (x' := (if a0 < 1 then 8 else 3, [some (jm_i a0)], [], h)) rfl ?_
  refine jm_E_ite (fun hc => ?_) (fun hc => ?_)
  · replace H := H.1 hc
    refine jm_E_n 1 (x' := (9, [some (jm_i a0)], [jm_i 0], h)) rfl ?_
    exact jm_E_ret rfl (by rw [H]; rfl)
  · replace H := H.2 hc
    refine jm_E_n 3 (x' := (if 400 < a0 then 8 else 6, [some (jm_i a0)], [], h)) rfl ?_
    refine jm_E_ite (fun hc => ?_) (fun hc => ?_)
    · replace H := H.1 hc
      refine jm_E_n 1 (x' := (9, [some (jm_i a0)], [jm_i 0], h)) rfl ?_
      exact jm_E_ret rfl (by rw [H]; rfl)
    · replace H := H.2 hc
      refine jm_E_n 2 (x' := (9, [some (jm_i a0)], [jm_i 1], h)) rfl ?_
      exact jm_E_ret rfl (by rw [H]; rfl)
set_option maxRecDepth 100000 in
theorem wp_FR_isDue {a0 : Int32} {h : jm_H} {r : jm_Rs} (H :
  (a0 ≤ (h.1 0 0 0) →
    r = (some (jm_i 0), h)) ∧
  (¬ (a0 ≤ (h.1 0 0 0)) →
    (((h.1 0 0 0) + 400) < a0 →
      r = (some (jm_i 0), h)) ∧
    (¬ (((h.1 0 0 0) + 400) < a0) →
      r = (some (jm_i 1), h)))) : jm_R 62 [jm_r 7 0, jm_i a0] h r := by
  refine jm_R_of hz_62 (Nat.le_of_ble_eq_true rfl) ?_
  show jm_E cod_62 (0, [some (jm_r 7 0), some (jm_i a0)], [], h) r
  refine jm_E_n 5 (x' := (if a0 ≤ (h.1 0 0 0) then 14 else 5, [some (jm_r 7 0), some (jm_i a0)], [], h)) rfl ?_
  refine jm_E_ite (fun hc => ?_) (fun hc => ?_)
  · replace H := H.1 hc
    refine jm_E_n 1 (x' := (15, [some (jm_r 7 0), some (jm_i a0)], [jm_i 0], h)) rfl ?_
    exact jm_E_ret rfl (by rw [H]; rfl)
  · replace H := H.2 hc
    refine jm_E_n 7 (x' := (if ((h.1 0 0 0) + 400) < a0 then 14 else 12, [some (jm_r 7 0), some (jm_i a0)], [], h)) rfl ?_
    refine jm_E_ite (fun hc => ?_) (fun hc => ?_)
    · replace H := H.1 hc
      refine jm_E_n 1 (x' := (15, [some (jm_r 7 0), some (jm_i a0)], [jm_i 0], h)) rfl ?_
      exact jm_E_ret rfl (by rw [H]; rfl)
    · replace H := H.2 hc
      refine jm_E_n 2 (x' := (15, [some (jm_r 7 0), some (jm_i a0)], [jm_i 1], h)) rfl ?_
      exact jm_E_ret rfl (by rw [H]; rfl)
set_option maxRecDepth 100000 in
theorem wp_Supply_sumUp_30_9 {x0 : Nat} {x1 : Nat} {x3 : Int32} {x4 : Int32} {x5 : Int32} {x6 : Int32} {h : jm_H} {r : jm_Rs} (H :
  (((401 : Nat).toInt32) ≤ x6 →
    r = (none, h)) ∧
  (¬ (((401 : Nat).toInt32) ≤ x6) →
    (x6 = x5 →
      jm_in x4 24 ∧
      ((h.1 1 x1 2) ≤ (x4 + 1) →
        jm_in x6 401 ∧
        l_Supply_sumUp_30_9 x0 x1 (x3 + (h.1 19 x1 x4.toNatClampNeg)) 0 (x5 + (h.1 1 x1 0)) (x6 + 1) (jm_sI h 30 x0 x6.toNatClampNeg (x3 + (h.1 19 x1 x4.toNatClampNeg))) r) ∧
      (¬ ((h.1 1 x1 2) ≤ (x4 + 1)) →
        jm_in x6 401 ∧
        l_Supply_sumUp_30_9 x0 x1 (x3 + (h.1 19 x1 x4.toNatClampNeg)) (x4 + 1) (x5 + (h.1 1 x1 0)) (x6 + 1) (jm_sI h 30 x0 x6.toNatClampNeg (x3 + (h.1 19 x1 x4.toNatClampNeg))) r)) ∧
    (¬ (x6 = x5) →
      jm_in x6 401 ∧
      l_Supply_sumUp_30_9 x0 x1 x3 x4 x5 (x6 + 1) (jm_sI h 30 x0 x6.toNatClampNeg x3) r))) : l_Supply_sumUp_30_9 x0 x1 x3 x4 x5 x6 h r := by
  refine jm_E_n 4 (x' := (if ((401 : Nat).toInt32) ≤ x6 then 46 else 13, [some (jm_r 30 x0), some (jm_r 1 x1), none, some (jm_i x3), some (jm_i x4), some (jm_i x5), some (jm_i x6)], [], h)) rfl ?_
  refine jm_E_ite (fun hc => ?_) (fun hc => ?_)
  · replace H := H.1 hc
    exact jm_E_ret rfl (by rw [H]; rfl)
  · replace H := H.2 hc
    refine jm_E_n 3 (x' := (if x6 = x5 then 16 else 40, [some (jm_r 30 x0), some (jm_r 1 x1), none, some (jm_i x3), some (jm_i x4), some (jm_i x5), some (jm_i x6)], [], h)) rfl ?_
    refine jm_E_ite (fun hc => ?_) (fun hc => ?_)
    · replace H := H.1 hc
      refine jm_E_n 4 (x' := (20, [some (jm_r 30 x0), some (jm_r 1 x1), none, some (jm_i x3), some (jm_i x4), some (jm_i x5), some (jm_i x6)], [jm_i x4, jm_r 19 x1, jm_i x3], h)) rfl ?_
      refine jm_E_iald rfl rfl H.1 ?_
      replace H := H.2
      refine jm_E_eq (x := (21, [some (jm_r 30 x0), some (jm_r 1 x1), none, some (jm_i x3), some (jm_i x4), some (jm_i x5), some (jm_i x6)], [jm_i (h.1 19 x1 x4.toNatClampNeg), jm_i x3], h)) rfl ?_
      refine jm_E_n 8 (x' := (if (h.1 1 x1 2) ≤ (x4 + 1) then 33 else 29, [some (jm_r 30 x0), some (jm_r 1 x1), none, some (jm_i (x3 + (h.1 19 x1 x4.toNatClampNeg))), some (jm_i x4), some (jm_i x5), some (jm_i x6)], [], h)) rfl ?_
      refine jm_E_ite (fun hc => ?_) (fun hc => ?_)
      · replace H := H.1 hc
        refine jm_E_n 10 (x' := (43, [some (jm_r 30 x0), some (jm_r 1 x1), none, some (jm_i (x3 + (h.1 19 x1 x4.toNatClampNeg))), some (jm_i 0), some (jm_i (x5 + (h.1 1 x1 0))), some (jm_i x6)], [jm_i (x3 + (h.1 19 x1 x4.toNatClampNeg)), jm_i x6, jm_r 30 x0], h)) rfl ?_
        refine jm_E_iast rfl rfl H.1 ?_
        replace H := H.2
        refine jm_E_eq (x := (44, [some (jm_r 30 x0), some (jm_r 1 x1), none, some (jm_i (x3 + (h.1 19 x1 x4.toNatClampNeg))), some (jm_i 0), some (jm_i (x5 + (h.1 1 x1 0))), some (jm_i x6)], [], (jm_sI h 30 x0 x6.toNatClampNeg (x3 + (h.1 19 x1 x4.toNatClampNeg))))) rfl ?_
        refine jm_E_n 2 (x' := (9, [some (jm_r 30 x0), some (jm_r 1 x1), none, some (jm_i (x3 + (h.1 19 x1 x4.toNatClampNeg))), some (jm_i 0), some (jm_i (x5 + (h.1 1 x1 0))), some (jm_i (x6 + 1))], [], (jm_sI h 30 x0 x6.toNatClampNeg (x3 + (h.1 19 x1 x4.toNatClampNeg))))) rfl ?_
        exact H
      · replace H := H.2 hc
        refine jm_E_n 13 (x' := (43, [some (jm_r 30 x0), some (jm_r 1 x1), none, some (jm_i (x3 + (h.1 19 x1 x4.toNatClampNeg))), some (jm_i (x4 + 1)), some (jm_i (x5 + (h.1 1 x1 0))), some (jm_i x6)], [jm_i (x3 + (h.1 19 x1 x4.toNatClampNeg)), jm_i x6, jm_r 30 x0], h)) rfl ?_
        refine jm_E_iast rfl rfl H.1 ?_
        replace H := H.2
        refine jm_E_eq (x := (44, [some (jm_r 30 x0), some (jm_r 1 x1), none, some (jm_i (x3 + (h.1 19 x1 x4.toNatClampNeg))), some (jm_i (x4 + 1)), some (jm_i (x5 + (h.1 1 x1 0))), some (jm_i x6)], [], (jm_sI h 30 x0 x6.toNatClampNeg (x3 + (h.1 19 x1 x4.toNatClampNeg))))) rfl ?_
        refine jm_E_n 2 (x' := (9, [some (jm_r 30 x0), some (jm_r 1 x1), none, some (jm_i (x3 + (h.1 19 x1 x4.toNatClampNeg))), some (jm_i (x4 + 1)), some (jm_i (x5 + (h.1 1 x1 0))), some (jm_i (x6 + 1))], [], (jm_sI h 30 x0 x6.toNatClampNeg (x3 + (h.1 19 x1 x4.toNatClampNeg))))) rfl ?_
        exact H
    · replace H := H.2 hc
      refine jm_E_n 3 (x' := (43, [some (jm_r 30 x0), some (jm_r 1 x1), none, some (jm_i x3), some (jm_i x4), some (jm_i x5), some (jm_i x6)], [jm_i x3, jm_i x6, jm_r 30 x0], h)) rfl ?_
      refine jm_E_iast rfl rfl H.1 ?_
      replace H := H.2
      refine jm_E_eq (x := (44, [some (jm_r 30 x0), some (jm_r 1 x1), none, some (jm_i x3), some (jm_i x4), some (jm_i x5), some (jm_i x6)], [], (jm_sI h 30 x0 x6.toNatClampNeg x3))) rfl ?_
      refine jm_E_n 2 (x' := (9, [some (jm_r 30 x0), some (jm_r 1 x1), none, some (jm_i x3), some (jm_i x4), some (jm_i x5), some (jm_i (x6 + 1))], [], (jm_sI h 30 x0 x6.toNatClampNeg x3))) rfl ?_
      exact H
set_option maxRecDepth 100000 in
theorem wp_Supply_sumUp_30 {a0 : Nat} {a1 : Nat} {a2 : Int32} {h : jm_H} {r : jm_Rs} (H :
  l_Supply_sumUp_30_9 a0 a1 0 a2 (h.1 1 a1 0) 0 h r) : jm_R 253 [jm_r 30 a0, jm_r 1 a1, jm_i a2] h r := by
  refine jm_R_of hz_253 (Nat.le_of_ble_eq_true rfl) ?_
  show jm_E cod_253 (0, [some (jm_r 30 a0), some (jm_r 1 a1), some (jm_i a2), none, none, none, none], [], h) r
  refine jm_E_n 9 (x' := (9, [some (jm_r 30 a0), some (jm_r 1 a1), some (jm_i a2), some (jm_i 0), some (jm_i a2), some (jm_i (h.1 1 a1 0)), some (jm_i 0)], [], h)) rfl ?_
  exact jm_E_weak (jm_le_s (jm_le_s (jm_le_n (jm_le_s (jm_le_s (jm_le_s (jm_le_s jm_le_nil))))))) H
set_option maxRecDepth 100000 in
theorem wp_Supply_sumUp_31_9 {x0 : Nat} {x1 : Nat} {x3 : Int32} {x4 : Int32} {x5 : Int32} {x6 : Int32} {h : jm_H} {r : jm_Rs} (H :
  (((401 : Nat).toInt32) ≤ x6 →
    r = (none, h)) ∧
  (¬ (((401 : Nat).toInt32) ≤ x6) →
    (x6 = x5 →
      jm_in x4 24 ∧
      ((h.1 1 x1 2) ≤ (x4 + 1) →
        jm_in x6 401 ∧
        l_Supply_sumUp_31_9 x0 x1 (x3 + (h.1 19 x1 x4.toNatClampNeg)) 0 (x5 + (h.1 1 x1 0)) (x6 + 1) (jm_sI h 31 x0 x6.toNatClampNeg (x3 + (h.1 19 x1 x4.toNatClampNeg))) r) ∧
      (¬ ((h.1 1 x1 2) ≤ (x4 + 1)) →
        jm_in x6 401 ∧
        l_Supply_sumUp_31_9 x0 x1 (x3 + (h.1 19 x1 x4.toNatClampNeg)) (x4 + 1) (x5 + (h.1 1 x1 0)) (x6 + 1) (jm_sI h 31 x0 x6.toNatClampNeg (x3 + (h.1 19 x1 x4.toNatClampNeg))) r)) ∧
    (¬ (x6 = x5) →
      jm_in x6 401 ∧
      l_Supply_sumUp_31_9 x0 x1 x3 x4 x5 (x6 + 1) (jm_sI h 31 x0 x6.toNatClampNeg x3) r))) : l_Supply_sumUp_31_9 x0 x1 x3 x4 x5 x6 h r := by
  refine jm_E_n 4 (x' := (if ((401 : Nat).toInt32) ≤ x6 then 46 else 13, [some (jm_r 31 x0), some (jm_r 1 x1), none, some (jm_i x3), some (jm_i x4), some (jm_i x5), some (jm_i x6)], [], h)) rfl ?_
  refine jm_E_ite (fun hc => ?_) (fun hc => ?_)
  · replace H := H.1 hc
    exact jm_E_ret rfl (by rw [H]; rfl)
  · replace H := H.2 hc
    refine jm_E_n 3 (x' := (if x6 = x5 then 16 else 40, [some (jm_r 31 x0), some (jm_r 1 x1), none, some (jm_i x3), some (jm_i x4), some (jm_i x5), some (jm_i x6)], [], h)) rfl ?_
    refine jm_E_ite (fun hc => ?_) (fun hc => ?_)
    · replace H := H.1 hc
      refine jm_E_n 4 (x' := (20, [some (jm_r 31 x0), some (jm_r 1 x1), none, some (jm_i x3), some (jm_i x4), some (jm_i x5), some (jm_i x6)], [jm_i x4, jm_r 19 x1, jm_i x3], h)) rfl ?_
      refine jm_E_iald rfl rfl H.1 ?_
      replace H := H.2
      refine jm_E_eq (x := (21, [some (jm_r 31 x0), some (jm_r 1 x1), none, some (jm_i x3), some (jm_i x4), some (jm_i x5), some (jm_i x6)], [jm_i (h.1 19 x1 x4.toNatClampNeg), jm_i x3], h)) rfl ?_
      refine jm_E_n 8 (x' := (if (h.1 1 x1 2) ≤ (x4 + 1) then 33 else 29, [some (jm_r 31 x0), some (jm_r 1 x1), none, some (jm_i (x3 + (h.1 19 x1 x4.toNatClampNeg))), some (jm_i x4), some (jm_i x5), some (jm_i x6)], [], h)) rfl ?_
      refine jm_E_ite (fun hc => ?_) (fun hc => ?_)
      · replace H := H.1 hc
        refine jm_E_n 10 (x' := (43, [some (jm_r 31 x0), some (jm_r 1 x1), none, some (jm_i (x3 + (h.1 19 x1 x4.toNatClampNeg))), some (jm_i 0), some (jm_i (x5 + (h.1 1 x1 0))), some (jm_i x6)], [jm_i (x3 + (h.1 19 x1 x4.toNatClampNeg)), jm_i x6, jm_r 31 x0], h)) rfl ?_
        refine jm_E_iast rfl rfl H.1 ?_
        replace H := H.2
        refine jm_E_eq (x := (44, [some (jm_r 31 x0), some (jm_r 1 x1), none, some (jm_i (x3 + (h.1 19 x1 x4.toNatClampNeg))), some (jm_i 0), some (jm_i (x5 + (h.1 1 x1 0))), some (jm_i x6)], [], (jm_sI h 31 x0 x6.toNatClampNeg (x3 + (h.1 19 x1 x4.toNatClampNeg))))) rfl ?_
        refine jm_E_n 2 (x' := (9, [some (jm_r 31 x0), some (jm_r 1 x1), none, some (jm_i (x3 + (h.1 19 x1 x4.toNatClampNeg))), some (jm_i 0), some (jm_i (x5 + (h.1 1 x1 0))), some (jm_i (x6 + 1))], [], (jm_sI h 31 x0 x6.toNatClampNeg (x3 + (h.1 19 x1 x4.toNatClampNeg))))) rfl ?_
        exact H
      · replace H := H.2 hc
        refine jm_E_n 13 (x' := (43, [some (jm_r 31 x0), some (jm_r 1 x1), none, some (jm_i (x3 + (h.1 19 x1 x4.toNatClampNeg))), some (jm_i (x4 + 1)), some (jm_i (x5 + (h.1 1 x1 0))), some (jm_i x6)], [jm_i (x3 + (h.1 19 x1 x4.toNatClampNeg)), jm_i x6, jm_r 31 x0], h)) rfl ?_
        refine jm_E_iast rfl rfl H.1 ?_
        replace H := H.2
        refine jm_E_eq (x := (44, [some (jm_r 31 x0), some (jm_r 1 x1), none, some (jm_i (x3 + (h.1 19 x1 x4.toNatClampNeg))), some (jm_i (x4 + 1)), some (jm_i (x5 + (h.1 1 x1 0))), some (jm_i x6)], [], (jm_sI h 31 x0 x6.toNatClampNeg (x3 + (h.1 19 x1 x4.toNatClampNeg))))) rfl ?_
        refine jm_E_n 2 (x' := (9, [some (jm_r 31 x0), some (jm_r 1 x1), none, some (jm_i (x3 + (h.1 19 x1 x4.toNatClampNeg))), some (jm_i (x4 + 1)), some (jm_i (x5 + (h.1 1 x1 0))), some (jm_i (x6 + 1))], [], (jm_sI h 31 x0 x6.toNatClampNeg (x3 + (h.1 19 x1 x4.toNatClampNeg))))) rfl ?_
        exact H
    · replace H := H.2 hc
      refine jm_E_n 3 (x' := (43, [some (jm_r 31 x0), some (jm_r 1 x1), none, some (jm_i x3), some (jm_i x4), some (jm_i x5), some (jm_i x6)], [jm_i x3, jm_i x6, jm_r 31 x0], h)) rfl ?_
      refine jm_E_iast rfl rfl H.1 ?_
      replace H := H.2
      refine jm_E_eq (x := (44, [some (jm_r 31 x0), some (jm_r 1 x1), none, some (jm_i x3), some (jm_i x4), some (jm_i x5), some (jm_i x6)], [], (jm_sI h 31 x0 x6.toNatClampNeg x3))) rfl ?_
      refine jm_E_n 2 (x' := (9, [some (jm_r 31 x0), some (jm_r 1 x1), none, some (jm_i x3), some (jm_i x4), some (jm_i x5), some (jm_i (x6 + 1))], [], (jm_sI h 31 x0 x6.toNatClampNeg x3))) rfl ?_
      exact H
set_option maxRecDepth 100000 in
theorem wp_Supply_sumUp_31 {a0 : Nat} {a1 : Nat} {a2 : Int32} {h : jm_H} {r : jm_Rs} (H :
  l_Supply_sumUp_31_9 a0 a1 0 a2 (h.1 1 a1 0) 0 h r) : jm_R 253 [jm_r 31 a0, jm_r 1 a1, jm_i a2] h r := by
  refine jm_R_of hz_253 (Nat.le_of_ble_eq_true rfl) ?_
  show jm_E cod_253 (0, [some (jm_r 31 a0), some (jm_r 1 a1), some (jm_i a2), none, none, none, none], [], h) r
  refine jm_E_n 9 (x' := (9, [some (jm_r 31 a0), some (jm_r 1 a1), some (jm_i a2), some (jm_i 0), some (jm_i a2), some (jm_i (h.1 1 a1 0)), some (jm_i 0)], [], h)) rfl ?_
  exact jm_E_weak (jm_le_s (jm_le_s (jm_le_n (jm_le_s (jm_le_s (jm_le_s (jm_le_s jm_le_nil))))))) H
set_option maxRecDepth 100000 in
theorem wp_FR_surveyAhead  {h : jm_H} {r : jm_Rs} (H :
  jm_in (h.1 0 0 1) 3 ∧
  ∃ h1 : jm_H, m_Supply_sumUp_30 0 (3 * 0 + (h.1 0 0 1).toNatClampNeg) (h.1 0 0 2) h h1 ∧
  ∃ (v2 : Int32) (h2 : jm_H), m_Clock_hasSwitch 0 (jm_sI h1 5 0 2 400) v2 h2 ∧
  (v2 = 0 →
    r = (none, h2)) ∧
  (¬ (v2 = 0) →
    jm_in (h2.1 0 0 7) 3 ∧
    ∃ h3 : jm_H, m_Supply_sumUp_31 0 (3 * 0 + (h2.1 0 0 7).toNatClampNeg) 0 h2 h3 ∧
    r = (none, (jm_sI h3 5 0 2 ((h3.1 0 0 8) - (h3.1 0 0 0)))))) : jm_R 69 [jm_r 7 0] h r := by
  refine jm_R_of hz_69 (Nat.le_of_ble_eq_true rfl) ?_
  show jm_E cod_69 (0, [some (jm_r 7 0)], [], h) r
  refine jm_E_n 8 (x' := (8, [some (jm_r 7 0)], [jm_i (h.1 0 0 1), jm_r 32 0, jm_r 30 0], h)) rfl ?_
  refine jm_E_aald rfl rfl H.1 ?_
  replace H := H.2
  refine jm_E_eq (x := (9, [some (jm_r 7 0)], [jm_r 6 (3 * 0 + (h.1 0 0 1).toNatClampNeg), jm_r 30 0], h)) rfl ?_
  refine jm_E_n 4 (x' := (13, [some (jm_r 7 0)], [jm_i (h.1 0 0 2), jm_r 1 (3 * 0 + (h.1 0 0 1).toNatClampNeg), jm_r 30 0], h)) rfl ?_
  obtain ⟨h1, hR, H⟩ := H
  refine jm_E_call rfl (Nat.le_of_ble_eq_true rfl) (Nat.le_of_ble_eq_true rfl) trivial hR trivial ?_
  refine jm_E_eq (x := (14, [some (jm_r 7 0)], [], h1)) rfl ?_
  refine jm_E_n 6 (x' := (20, [some (jm_r 7 0)], [jm_r 0 0], (jm_sI h1 5 0 2 400))) rfl ?_
  obtain ⟨v2, h2, hR, H⟩ := H
  refine jm_E_call rfl (Nat.le_of_ble_eq_true rfl) (Nat.le_of_ble_eq_true rfl) rfl hR trivial ?_
  refine jm_E_eq (x := (21, [some (jm_r 7 0)], [jm_i v2], h2)) rfl ?_
  refine jm_E_n 1 (x' := (if v2 = 0 then 44 else 22, [some (jm_r 7 0)], [], h2)) rfl ?_
  refine jm_E_ite (fun hc => ?_) (fun hc => ?_)
  · replace H := H.1 hc
    exact jm_E_ret rfl (by rw [H]; rfl)
  · replace H := H.2 hc
    refine jm_E_n 8 (x' := (30, [some (jm_r 7 0)], [jm_i (h2.1 0 0 7), jm_r 32 0, jm_r 31 0], h2)) rfl ?_
    refine jm_E_aald rfl rfl H.1 ?_
    replace H := H.2
    refine jm_E_eq (x := (31, [some (jm_r 7 0)], [jm_r 6 (3 * 0 + (h2.1 0 0 7).toNatClampNeg), jm_r 31 0], h2)) rfl ?_
    refine jm_E_n 2 (x' := (33, [some (jm_r 7 0)], [jm_i 0, jm_r 1 (3 * 0 + (h2.1 0 0 7).toNatClampNeg), jm_r 31 0], h2)) rfl ?_
    obtain ⟨h3, hR, H⟩ := H
    refine jm_E_call rfl (Nat.le_of_ble_eq_true rfl) (Nat.le_of_ble_eq_true rfl) trivial hR trivial ?_
    refine jm_E_eq (x := (34, [some (jm_r 7 0)], [], h3)) rfl ?_
    refine jm_E_n 10 (x' := (44, [some (jm_r 7 0)], [], (jm_sI h3 5 0 2 ((h3.1 0 0 8) - (h3.1 0 0 0))))) rfl ?_
    exact jm_E_ret rfl (by rw [H]; rfl)
set_option maxRecDepth 100000 in
theorem wp_Supply_upTo {a0 : Int32} {h : jm_H} {r : jm_Rs} (H :
  ((h.1 5 0 2) < (if (0 : Int32) < (if (400 : Int32) < a0 then 400 else a0) then (if (400 : Int32) < a0 then 400 else a0) else 0) →
    jm_in (if (0 : Int32) < (h.1 5 0 2) then (h.1 5 0 2) else 0) 401 ∧
    jm_in ((if (0 : Int32) < (if (400 : Int32) < a0 then 400 else a0) then (if (400 : Int32) < a0 then 400 else a0) else 0) - (if (0 : Int32) < (h.1 5 0 2) then (h.1 5 0 2) else 0)) 401 ∧
    r = (some (jm_i ((h.1 30 0 ((if (0 : Int32) < (h.1 5 0 2) then (h.1 5 0 2) else 0).toNatClampNeg)) + (h.1 31 0 (((if (0 : Int32) < (if (400 : Int32) < a0 then 400 else a0) then (if (400 : Int32) < a0 then 400 else a0) else 0) - (if (0 : Int32) < (h.1 5 0 2) then (h.1 5 0 2) else 0)).toNatClampNeg)))), h)) ∧
  (¬ ((h.1 5 0 2) < (if (0 : Int32) < (if (400 : Int32) < a0 then 400 else a0) then (if (400 : Int32) < a0 then 400 else a0) else 0)) →
    jm_in (if (0 : Int32) < (if (400 : Int32) < a0 then 400 else a0) then (if (400 : Int32) < a0 then 400 else a0) else 0) 401 ∧
    r = (some (jm_i (h.1 30 0 ((if (0 : Int32) < (if (400 : Int32) < a0 then 400 else a0) then (if (400 : Int32) < a0 then 400 else a0) else 0).toNatClampNeg))), h))) : jm_R 254 [jm_r 5 0, jm_i a0] h r := by
  refine jm_R_of hz_254 (Nat.le_of_ble_eq_true rfl) ?_
  show jm_E cod_254 (0, [some (jm_r 5 0), some (jm_i a0), none, none], [], h) r
  refine jm_E_n 10 (x' := (if (h.1 5 0 2) < (if (0 : Int32) < (if (400 : Int32) < a0 then 400 else a0) then (if (400 : Int32) < a0 then 400 else a0) else 0) then 15 else 10, [some (jm_r 5 0), some (jm_i a0), some (jm_i (if (0 : Int32) < (if (400 : Int32) < a0 then 400 else a0) then (if (400 : Int32) < a0 then 400 else a0) else 0)), none], [], h)) rfl ?_
  refine jm_E_ite (fun hc => ?_) (fun hc => ?_)
  · replace H := H.1 hc
    refine jm_E_n 8 (x' := (23, [some (jm_r 5 0), some (jm_i a0), some (jm_i (if (0 : Int32) < (if (400 : Int32) < a0 then 400 else a0) then (if (400 : Int32) < a0 then 400 else a0) else 0)), some (jm_i (if (0 : Int32) < (h.1 5 0 2) then (h.1 5 0 2) else 0))], [jm_i (if (0 : Int32) < (h.1 5 0 2) then (h.1 5 0 2) else 0), jm_r 30 0], h)) rfl ?_
    refine jm_E_iald rfl rfl H.1 ?_
    replace H := H.2
    refine jm_E_eq (x := (24, [some (jm_r 5 0), some (jm_i a0), some (jm_i (if (0 : Int32) < (if (400 : Int32) < a0 then 400 else a0) then (if (400 : Int32) < a0 then 400 else a0) else 0)), some (jm_i (if (0 : Int32) < (h.1 5 0 2) then (h.1 5 0 2) else 0))], [jm_i (h.1 30 0 ((if (0 : Int32) < (h.1 5 0 2) then (h.1 5 0 2) else 0).toNatClampNeg))], h)) rfl ?_
    refine jm_E_n 5 (x' := (29, [some (jm_r 5 0), some (jm_i a0), some (jm_i (if (0 : Int32) < (if (400 : Int32) < a0 then 400 else a0) then (if (400 : Int32) < a0 then 400 else a0) else 0)), some (jm_i (if (0 : Int32) < (h.1 5 0 2) then (h.1 5 0 2) else 0))], [jm_i ((if (0 : Int32) < (if (400 : Int32) < a0 then 400 else a0) then (if (400 : Int32) < a0 then 400 else a0) else 0) - (if (0 : Int32) < (h.1 5 0 2) then (h.1 5 0 2) else 0)), jm_r 31 0, jm_i (h.1 30 0 ((if (0 : Int32) < (h.1 5 0 2) then (h.1 5 0 2) else 0).toNatClampNeg))], h)) rfl ?_
    refine jm_E_iald rfl rfl H.1 ?_
    replace H := H.2
    refine jm_E_eq (x := (30, [some (jm_r 5 0), some (jm_i a0), some (jm_i (if (0 : Int32) < (if (400 : Int32) < a0 then 400 else a0) then (if (400 : Int32) < a0 then 400 else a0) else 0)), some (jm_i (if (0 : Int32) < (h.1 5 0 2) then (h.1 5 0 2) else 0))], [jm_i (h.1 31 0 (((if (0 : Int32) < (if (400 : Int32) < a0 then 400 else a0) then (if (400 : Int32) < a0 then 400 else a0) else 0) - (if (0 : Int32) < (h.1 5 0 2) then (h.1 5 0 2) else 0)).toNatClampNeg)), jm_i (h.1 30 0 ((if (0 : Int32) < (h.1 5 0 2) then (h.1 5 0 2) else 0).toNatClampNeg))], h)) rfl ?_
    refine jm_E_n 1 (x' := (31, [some (jm_r 5 0), some (jm_i a0), some (jm_i (if (0 : Int32) < (if (400 : Int32) < a0 then 400 else a0) then (if (400 : Int32) < a0 then 400 else a0) else 0)), some (jm_i (if (0 : Int32) < (h.1 5 0 2) then (h.1 5 0 2) else 0))], [jm_i ((h.1 30 0 ((if (0 : Int32) < (h.1 5 0 2) then (h.1 5 0 2) else 0).toNatClampNeg)) + (h.1 31 0 (((if (0 : Int32) < (if (400 : Int32) < a0 then 400 else a0) then (if (400 : Int32) < a0 then 400 else a0) else 0) - (if (0 : Int32) < (h.1 5 0 2) then (h.1 5 0 2) else 0)).toNatClampNeg)))], h)) rfl ?_
    exact jm_E_ret rfl (by rw [H]; rfl)
  · replace H := H.2 hc
    refine jm_E_n 3 (x' := (13, [some (jm_r 5 0), some (jm_i a0), some (jm_i (if (0 : Int32) < (if (400 : Int32) < a0 then 400 else a0) then (if (400 : Int32) < a0 then 400 else a0) else 0)), none], [jm_i (if (0 : Int32) < (if (400 : Int32) < a0 then 400 else a0) then (if (400 : Int32) < a0 then 400 else a0) else 0), jm_r 30 0], h)) rfl ?_
    refine jm_E_iald rfl rfl H.1 ?_
    replace H := H.2
    refine jm_E_eq (x := (14, [some (jm_r 5 0), some (jm_i a0), some (jm_i (if (0 : Int32) < (if (400 : Int32) < a0 then 400 else a0) then (if (400 : Int32) < a0 then 400 else a0) else 0)), none], [jm_i (h.1 30 0 ((if (0 : Int32) < (if (400 : Int32) < a0 then 400 else a0) then (if (400 : Int32) < a0 then 400 else a0) else 0).toNatClampNeg))], h)) rfl ?_
    exact jm_E_ret rfl (by rw [H]; rfl)
set_option maxRecDepth 100000 in
theorem wp_Supply_leastMargin_6 {x1 : Nat} {x2 : Int32} {x3 : Int32} {x4 : Int32} {x5 : Int32} {h : jm_H} {r : jm_Rs} (H :
  ((h.1 0 x1 3) ≤ x5 →
    r = (some (jm_i x3), h)) ∧
  (¬ ((h.1 0 x1 3) ≤ x5) →
    jm_in x5 8 ∧
    jm_in x5 8 ∧
    ((h.1 11 x1 x5.toNatClampNeg) < x2 →
      l_Supply_leastMargin_6 x1 x2 x3 (x4 + (h.1 10 x1 x5.toNatClampNeg)) (x5 + 1) h r) ∧
    (¬ ((h.1 11 x1 x5.toNatClampNeg) < x2) →
      jm_in x5 8 ∧
      ∃ (v1 : Int32) (h1 : jm_H), m_Supply_upTo ((h.1 11 x1 x5.toNatClampNeg) - (h.1 0 x1 0)) h v1 h1 ∧
      l_Supply_leastMargin_6 x1 x2 (if (v1 - (x4 + (h.1 10 x1 x5.toNatClampNeg))) < x3 then (v1 - (x4 + (h.1 10 x1 x5.toNatClampNeg))) else x3) (x4 + (h.1 10 x1 x5.toNatClampNeg)) (x5 + 1) h1 r))) : l_Supply_leastMargin_6 x1 x2 x3 x4 x5 h r := by
  refine jm_E_n 4 (x' := (if (h.1 0 x1 3) ≤ x5 then 39 else 10, [some (jm_r 5 0), some (jm_r 0 x1), some (jm_i x2), some (jm_i x3), some (jm_i x4), some (jm_i x5)], [], h)) rfl ?_
  refine jm_E_ite (fun hc => ?_) (fun hc => ?_)
  · replace H := H.1 hc
    refine jm_E_n 1 (x' := (40, [some (jm_r 5 0), some (jm_r 0 x1), some (jm_i x2), some (jm_i x3), some (jm_i x4), some (jm_i x5)], [jm_i x3], h)) rfl ?_
    exact jm_E_ret rfl (by rw [H]; rfl)
  · replace H := H.2 hc
    refine jm_E_n 4 (x' := (14, [some (jm_r 5 0), some (jm_r 0 x1), some (jm_i x2), some (jm_i x3), some (jm_i x4), some (jm_i x5)], [jm_i x5, jm_r 10 x1, jm_i x4], h)) rfl ?_
    refine jm_E_iald rfl rfl H.1 ?_
    replace H := H.2
    refine jm_E_eq (x := (15, [some (jm_r 5 0), some (jm_r 0 x1), some (jm_i x2), some (jm_i x3), some (jm_i x4), some (jm_i x5)], [jm_i (h.1 10 x1 x5.toNatClampNeg), jm_i x4], h)) rfl ?_
    refine jm_E_n 5 (x' := (20, [some (jm_r 5 0), some (jm_r 0 x1), some (jm_i x2), some (jm_i x3), some (jm_i (x4 + (h.1 10 x1 x5.toNatClampNeg))), some (jm_i x5)], [jm_i x5, jm_r 11 x1], h)) rfl ?_
    refine jm_E_iald rfl rfl H.1 ?_
    replace H := H.2
    refine jm_E_eq (x := (21, [some (jm_r 5 0), some (jm_r 0 x1), some (jm_i x2), some (jm_i x3), some (jm_i (x4 + (h.1 10 x1 x5.toNatClampNeg))), some (jm_i x5)], [jm_i (h.1 11 x1 x5.toNatClampNeg)], h)) rfl ?_
    refine jm_E_n 2 (x' := (if (h.1 11 x1 x5.toNatClampNeg) < x2 then 37 else 23, [some (jm_r 5 0), some (jm_r 0 x1), some (jm_i x2), some (jm_i x3), some (jm_i (x4 + (h.1 10 x1 x5.toNatClampNeg))), some (jm_i x5)], [], h)) rfl ?_
    refine jm_E_ite (fun hc => ?_) (fun hc => ?_)
    · replace H := H.1 hc
      refine jm_E_n 2 (x' := (6, [some (jm_r 5 0), some (jm_r 0 x1), some (jm_i x2), some (jm_i x3), some (jm_i (x4 + (h.1 10 x1 x5.toNatClampNeg))), some (jm_i (x5 + 1))], [], h)) rfl ?_
      exact H
    · replace H := H.2 hc
      refine jm_E_n 5 (x' := (28, [some (jm_r 5 0), some (jm_r 0 x1), some (jm_i x2), some (jm_i x3), some (jm_i (x4 + (h.1 10 x1 x5.toNatClampNeg))), some (jm_i x5)], [jm_i x5, jm_r 11 x1, jm_r 5 0, jm_i x3], h)) rfl ?_
      refine jm_E_iald rfl rfl H.1 ?_
      replace H := H.2
      refine jm_E_eq (x := (29, [some (jm_r 5 0), some (jm_r 0 x1), some (jm_i x2), some (jm_i x3), some (jm_i (x4 + (h.1 10 x1 x5.toNatClampNeg))), some (jm_i x5)], [jm_i (h.1 11 x1 x5.toNatClampNeg), jm_r 5 0, jm_i x3], h)) rfl ?_
      refine jm_E_n 3 (x' := (32, [some (jm_r 5 0), some (jm_r 0 x1), some (jm_i x2), some (jm_i x3), some (jm_i (x4 + (h.1 10 x1 x5.toNatClampNeg))), some (jm_i x5)], [jm_i ((h.1 11 x1 x5.toNatClampNeg) - (h.1 0 x1 0)), jm_r 5 0, jm_i x3], h)) rfl ?_
      obtain ⟨v1, h1, hR, H⟩ := H
      refine jm_E_call rfl (Nat.le_of_ble_eq_true rfl) (Nat.le_of_ble_eq_true rfl) rfl hR trivial ?_
      refine jm_E_eq (x := (33, [some (jm_r 5 0), some (jm_r 0 x1), some (jm_i x2), some (jm_i x3), some (jm_i (x4 + (h.1 10 x1 x5.toNatClampNeg))), some (jm_i x5)], [jm_i v1, jm_i x3], h1)) rfl ?_
      refine jm_E_n 6 (x' := (6, [some (jm_r 5 0), some (jm_r 0 x1), some (jm_i x2), some (jm_i (if (v1 - (x4 + (h.1 10 x1 x5.toNatClampNeg))) < x3 then (v1 - (x4 + (h.1 10 x1 x5.toNatClampNeg))) else x3)), some (jm_i (x4 + (h.1 10 x1 x5.toNatClampNeg))), some (jm_i (x5 + 1))], [], h1)) rfl ?_
      exact H
set_option maxRecDepth 100000 in
theorem wp_Supply_leastMargin {a0 : Nat} {a1 : Int32} {h : jm_H} {r : jm_Rs} (H :
  l_Supply_leastMargin_6 a0 a1 1000000 0 0 h r) : jm_R 256 [jm_r 5 0, jm_r 0 a0, jm_i a1] h r := by
  refine jm_R_of hz_256 (Nat.le_of_ble_eq_true rfl) ?_
  show jm_E cod_256 (0, [some (jm_r 5 0), some (jm_r 0 a0), some (jm_i a1), none, none, none], [], h) r
  refine jm_E_n 6 (x' := (6, [some (jm_r 5 0), some (jm_r 0 a0), some (jm_i a1), some (jm_i 1000000), some (jm_i 0), some (jm_i 0)], [], h)) rfl ?_
  exact H
set_option maxRecDepth 100000 in
theorem wp_Supply_leftFor_4 {x1 : Nat} {x2 : Int32} {x3 : Int32} {x4 : Int32} {h : jm_H} {r : jm_Rs} (H :
  ((h.1 0 x1 3) ≤ x4 →
    ∃ (v1 : Int32) (h1 : jm_H), m_Supply_upTo (x2 - (h.1 0 x1 0)) h v1 h1 ∧
    ∃ (v2 : Int32) (h2 : jm_H), m_Supply_leastMargin x1 x2 h1 v2 h2 ∧
    r = (some (jm_i (if v2 < (v1 - x3) then v2 else (v1 - x3))), h2)) ∧
  (¬ ((h.1 0 x1 3) ≤ x4) →
    jm_in x4 8 ∧
    (x2 < (h.1 11 x1 x4.toNatClampNeg) →
      l_Supply_leftFor_4 x1 x2 x3 (x4 + 1) h r) ∧
    (¬ (x2 < (h.1 11 x1 x4.toNatClampNeg)) →
      jm_in x4 8 ∧
      l_Supply_leftFor_4 x1 x2 (x3 + (h.1 10 x1 x4.toNatClampNeg)) (x4 + 1) h r))) : l_Supply_leftFor_4 x1 x2 x3 x4 h r := by
  refine jm_E_n 4 (x' := (if (h.1 0 x1 3) ≤ x4 then 23 else 8, [some (jm_r 5 0), some (jm_r 0 x1), some (jm_i x2), some (jm_i x3), some (jm_i x4)], [], h)) rfl ?_
  refine jm_E_ite (fun hc => ?_) (fun hc => ?_)
  · replace H := H.1 hc
    refine jm_E_n 5 (x' := (28, [some (jm_r 5 0), some (jm_r 0 x1), some (jm_i x2), some (jm_i x3), some (jm_i x4)], [jm_i (x2 - (h.1 0 x1 0)), jm_r 5 0], h)) rfl ?_
    obtain ⟨v1, h1, hR, H⟩ := H
    refine jm_E_call rfl (Nat.le_of_ble_eq_true rfl) (Nat.le_of_ble_eq_true rfl) rfl hR trivial ?_
    refine jm_E_eq (x := (29, [some (jm_r 5 0), some (jm_r 0 x1), some (jm_i x2), some (jm_i x3), some (jm_i x4)], [jm_i v1], h1)) rfl ?_
    refine jm_E_n 5 (x' := (34, [some (jm_r 5 0), some (jm_r 0 x1), some (jm_i x2), some (jm_i x3), some (jm_i x4)], [jm_i x2, jm_r 0 x1, jm_r 5 0, jm_i (v1 - x3)], h1)) rfl ?_
    obtain ⟨v2, h2, hR, H⟩ := H
    refine jm_E_call rfl (Nat.le_of_ble_eq_true rfl) (Nat.le_of_ble_eq_true rfl) rfl hR trivial ?_
    refine jm_E_eq (x := (35, [some (jm_r 5 0), some (jm_r 0 x1), some (jm_i x2), some (jm_i x3), some (jm_i x4)], [jm_i v2, jm_i (v1 - x3)], h2)) rfl ?_
    refine jm_E_n 1 (x' := (36, [some (jm_r 5 0), some (jm_r 0 x1), some (jm_i x2), some (jm_i x3), some (jm_i x4)], [jm_i (if v2 < (v1 - x3) then v2 else (v1 - x3))], h2)) rfl ?_
    exact jm_E_ret rfl (by rw [H]; rfl)
  · replace H := H.2 hc
    refine jm_E_n 3 (x' := (11, [some (jm_r 5 0), some (jm_r 0 x1), some (jm_i x2), some (jm_i x3), some (jm_i x4)], [jm_i x4, jm_r 11 x1], h)) rfl ?_
    refine jm_E_iald rfl rfl H.1 ?_
    replace H := H.2
    refine jm_E_eq (x := (12, [some (jm_r 5 0), some (jm_r 0 x1), some (jm_i x2), some (jm_i x3), some (jm_i x4)], [jm_i (h.1 11 x1 x4.toNatClampNeg)], h)) rfl ?_
    refine jm_E_n 2 (x' := (if x2 < (h.1 11 x1 x4.toNatClampNeg) then 21 else 14, [some (jm_r 5 0), some (jm_r 0 x1), some (jm_i x2), some (jm_i x3), some (jm_i x4)], [], h)) rfl ?_
    refine jm_E_ite (fun hc => ?_) (fun hc => ?_)
    · replace H := H.1 hc
      refine jm_E_n 2 (x' := (4, [some (jm_r 5 0), some (jm_r 0 x1), some (jm_i x2), some (jm_i x3), some (jm_i (x4 + 1))], [], h)) rfl ?_
      exact H
    · replace H := H.2 hc
      refine jm_E_n 4 (x' := (18, [some (jm_r 5 0), some (jm_r 0 x1), some (jm_i x2), some (jm_i x3), some (jm_i x4)], [jm_i x4, jm_r 10 x1, jm_i x3], h)) rfl ?_
      refine jm_E_iald rfl rfl H.1 ?_
      replace H := H.2
      refine jm_E_eq (x := (19, [some (jm_r 5 0), some (jm_r 0 x1), some (jm_i x2), some (jm_i x3), some (jm_i x4)], [jm_i (h.1 10 x1 x4.toNatClampNeg), jm_i x3], h)) rfl ?_
      refine jm_E_n 4 (x' := (4, [some (jm_r 5 0), some (jm_r 0 x1), some (jm_i x2), some (jm_i (x3 + (h.1 10 x1 x4.toNatClampNeg))), some (jm_i (x4 + 1))], [], h)) rfl ?_
      exact H
set_option maxRecDepth 100000 in
theorem wp_Supply_leftFor {a0 : Nat} {a1 : Int32} {h : jm_H} {r : jm_Rs} (H :
  l_Supply_leftFor_4 a0 a1 0 0 h r) : jm_R 257 [jm_r 5 0, jm_r 0 a0, jm_i a1] h r := by
  refine jm_R_of hz_257 (Nat.le_of_ble_eq_true rfl) ?_
  show jm_E cod_257 (0, [some (jm_r 5 0), some (jm_r 0 a0), some (jm_i a1), none, none], [], h) r
  refine jm_E_n 4 (x' := (4, [some (jm_r 5 0), some (jm_r 0 a0), some (jm_i a1), some (jm_i 0), some (jm_i 0)], [], h)) rfl ?_
  exact H
set_option maxRecDepth 100000 in
theorem wp_FR_canTake {a0 : Int32} {a1 : Int32} {h : jm_H} {r : jm_Rs} (H :
  ∃ (v1 : Int32) (h1 : jm_H), m_FR_isNeed a0 h v1 h1 ∧
  (v1 = 0 →
    ∃ (v2 : Int32) (h2 : jm_H), m_FR_clockRefusal 0 h1 v2 h2 ∧
    (v2 = 0 →
      ∃ h3 : jm_H, m_FR_surveyAhead h2 h3 ∧
      ∃ (v4 : Int32) (h4 : jm_H), m_Supply_leftFor 0 a1 h3 v4 h4 ∧
      (v4 < a0 →
        ∃ (v5 : Int32) (h5 : jm_H), m_FR_answered 0 h4 v5 h5 ∧
        r = (some (jm_i v5), h5)) ∧
      (¬ (v4 < a0) →
        ∃ (v6 : Int32) (h6 : jm_H), m_FR_answered 1 h4 v6 h6 ∧
        r = (some (jm_i v6), h6))) ∧
    (¬ (v2 = 0) →
      ∃ (v7 : Int32) (h7 : jm_H), m_FR_refused v2 h2 v7 h7 ∧
      r = (some (jm_i v7), h7))) ∧
  (¬ (v1 = 0) →
    ∃ (v8 : Int32) (h8 : jm_H), m_FR_isDue a1 h1 v8 h8 ∧
    (v8 = 0 →
      ∃ (v9 : Int32) (h9 : jm_H), m_FR_clockRefusal 0 h8 v9 h9 ∧
      (v9 = 0 →
        ∃ h10 : jm_H, m_FR_surveyAhead h9 h10 ∧
        ∃ (v11 : Int32) (h11 : jm_H), m_Supply_leftFor 0 a1 h10 v11 h11 ∧
        (v11 < a0 →
          ∃ (v12 : Int32) (h12 : jm_H), m_FR_answered 0 h11 v12 h12 ∧
          r = (some (jm_i v12), h12)) ∧
        (¬ (v11 < a0) →
          ∃ (v13 : Int32) (h13 : jm_H), m_FR_answered 1 h11 v13 h13 ∧
          r = (some (jm_i v13), h13))) ∧
      (¬ (v9 = 0) →
        ∃ (v14 : Int32) (h14 : jm_H), m_FR_refused v9 h9 v14 h14 ∧
        r = (some (jm_i v14), h14))) ∧
    (¬ (v8 = 0) →
      ∃ (v15 : Int32) (h15 : jm_H), m_FR_clockRefusal 1 h8 v15 h15 ∧
      (v15 = 0 →
        ∃ h16 : jm_H, m_FR_surveyAhead h15 h16 ∧
        ∃ (v17 : Int32) (h17 : jm_H), m_Supply_leftFor 0 a1 h16 v17 h17 ∧
        (v17 < a0 →
          ∃ (v18 : Int32) (h18 : jm_H), m_FR_answered 0 h17 v18 h18 ∧
          r = (some (jm_i v18), h18)) ∧
        (¬ (v17 < a0) →
          ∃ (v19 : Int32) (h19 : jm_H), m_FR_answered 1 h17 v19 h19 ∧
          r = (some (jm_i v19), h19))) ∧
      (¬ (v15 = 0) →
        ∃ (v20 : Int32) (h20 : jm_H), m_FR_refused v15 h15 v20 h20 ∧
        r = (some (jm_i v20), h20))))) : jm_R 48 [jm_r 7 0, jm_i a0, jm_i a1] h r := by
  refine jm_R_of hz_48 (Nat.le_of_ble_eq_true rfl) ?_
  show jm_E cod_48 (0, [some (jm_r 7 0), some (jm_i a0), some (jm_i a1), none], [], h) r
  refine jm_E_n 2 (x' := (2, [some (jm_r 7 0), some (jm_i a0), some (jm_i a1), none], [jm_i a0, jm_r 7 0], h)) rfl ?_
  obtain ⟨v1, h1, hR, H⟩ := H
  refine jm_E_call rfl (Nat.le_of_ble_eq_true rfl) (Nat.le_of_ble_eq_true rfl) trivial hR trivial ?_
  refine jm_E_eq (x := (3, [some (jm_r 7 0), some (jm_i a0), some (jm_i a1), none], [jm_i v1, jm_r 7 0], h1)) rfl ?_
  refine jm_E_n 1 (x' := (if v1 = 0 then 10 else 4, [some (jm_r 7 0), some (jm_i a0), some (jm_i a1), none], [jm_r 7 0], h1)) rfl ?_
  refine jm_E_ite (fun hc => ?_) (fun hc => ?_)
  · replace H := H.1 hc
    refine jm_E_n 1 (x' := (11, [some (jm_r 7 0), some (jm_i a0), some (jm_i a1), none], [jm_i 0, jm_r 7 0], h1)) rfl ?_
    obtain ⟨v2, h2, hR, H⟩ := H
    refine jm_E_call rfl (Nat.le_of_ble_eq_true rfl) (Nat.le_of_ble_eq_true rfl) rfl hR trivial ?_
    refine jm_E_eq (x := (12, [some (jm_r 7 0), some (jm_i a0), some (jm_i a1), none], [jm_i v2], h2)) rfl ?_
    refine jm_E_n 3 (x' := (if v2 = 0 then 19 else 15, [some (jm_r 7 0), some (jm_i a0), some (jm_i a1), some (jm_i v2)], [], h2)) rfl ?_
    refine jm_E_ite (fun hc => ?_) (fun hc => ?_)
    · replace H := H.1 hc
      refine jm_E_n 1 (x' := (20, [some (jm_r 7 0), some (jm_i a0), some (jm_i a1), some (jm_i v2)], [jm_r 7 0], h2)) rfl ?_
      obtain ⟨h3, hR, H⟩ := H
      refine jm_E_call rfl (Nat.le_of_ble_eq_true rfl) (Nat.le_of_ble_eq_true rfl) rfl hR trivial ?_
      refine jm_E_eq (x := (21, [some (jm_r 7 0), some (jm_i a0), some (jm_i a1), some (jm_i v2)], [], h3)) rfl ?_
      refine jm_E_n 6 (x' := (27, [some (jm_r 7 0), some (jm_i a0), some (jm_i a1), some (jm_i v2)], [jm_i a1, jm_r 0 0, jm_r 5 0, jm_r 7 0], h3)) rfl ?_
      obtain ⟨v4, h4, hR, H⟩ := H
      refine jm_E_call rfl (Nat.le_of_ble_eq_true rfl) (Nat.le_of_ble_eq_true rfl) rfl hR trivial ?_
      refine jm_E_eq (x := (28, [some (jm_r 7 0), some (jm_i a0), some (jm_i a1), some (jm_i v2)], [jm_i v4, jm_r 7 0], h4)) rfl ?_
      refine jm_E_n 2 (x' := (if v4 < a0 then 32 else 30, [some (jm_r 7 0), some (jm_i a0), some (jm_i a1), some (jm_i v2)], [jm_r 7 0], h4)) rfl ?_
      refine jm_E_ite (fun hc => ?_) (fun hc => ?_)
      · replace H := H.1 hc
        refine jm_E_n 1 (x' := (33, [some (jm_r 7 0), some (jm_i a0), some (jm_i a1), some (jm_i v2)], [jm_i 0, jm_r 7 0], h4)) rfl ?_
        obtain ⟨v5, h5, hR, H⟩ := H
        refine jm_E_call rfl (Nat.le_of_ble_eq_true rfl) (Nat.le_of_ble_eq_true rfl) rfl hR trivial ?_
        refine jm_E_eq (x := (34, [some (jm_r 7 0), some (jm_i a0), some (jm_i a1), some (jm_i v2)], [jm_i v5], h5)) rfl ?_
        exact jm_E_ret rfl (by rw [H]; rfl)
      · replace H := H.2 hc
        refine jm_E_n 2 (x' := (33, [some (jm_r 7 0), some (jm_i a0), some (jm_i a1), some (jm_i v2)], [jm_i 1, jm_r 7 0], h4)) rfl ?_
        obtain ⟨v6, h6, hR, H⟩ := H
        refine jm_E_call rfl (Nat.le_of_ble_eq_true rfl) (Nat.le_of_ble_eq_true rfl) rfl hR trivial ?_
        refine jm_E_eq (x := (34, [some (jm_r 7 0), some (jm_i a0), some (jm_i a1), some (jm_i v2)], [jm_i v6], h6)) rfl ?_
        exact jm_E_ret rfl (by rw [H]; rfl)
    · replace H := H.2 hc
      refine jm_E_n 2 (x' := (17, [some (jm_r 7 0), some (jm_i a0), some (jm_i a1), some (jm_i v2)], [jm_i v2, jm_r 7 0], h2)) rfl ?_
      obtain ⟨v7, h7, hR, H⟩ := H
      refine jm_E_call rfl (Nat.le_of_ble_eq_true rfl) (Nat.le_of_ble_eq_true rfl) rfl hR trivial ?_
      refine jm_E_eq (x := (18, [some (jm_r 7 0), some (jm_i a0), some (jm_i a1), some (jm_i v2)], [jm_i v7], h7)) rfl ?_
      exact jm_E_ret rfl (by rw [H]; rfl)
  · replace H := H.2 hc
    refine jm_E_n 2 (x' := (6, [some (jm_r 7 0), some (jm_i a0), some (jm_i a1), none], [jm_i a1, jm_r 7 0, jm_r 7 0], h1)) rfl ?_
    obtain ⟨v8, h8, hR, H⟩ := H
    refine jm_E_call rfl (Nat.le_of_ble_eq_true rfl) (Nat.le_of_ble_eq_true rfl) rfl hR trivial ?_
    refine jm_E_eq (x := (7, [some (jm_r 7 0), some (jm_i a0), some (jm_i a1), none], [jm_i v8, jm_r 7 0], h8)) rfl ?_
    refine jm_E_n 1 (x' := (if v8 = 0 then 10 else 8, [some (jm_r 7 0), some (jm_i a0), some (jm_i a1), none], [jm_r 7 0], h8)) rfl ?_
    refine jm_E_ite (fun hc => ?_) (fun hc => ?_)
    · replace H := H.1 hc
      refine jm_E_n 1 (x' := (11, [some (jm_r 7 0), some (jm_i a0), some (jm_i a1), none], [jm_i 0, jm_r 7 0], h8)) rfl ?_
      obtain ⟨v9, h9, hR, H⟩ := H
      refine jm_E_call rfl (Nat.le_of_ble_eq_true rfl) (Nat.le_of_ble_eq_true rfl) rfl hR trivial ?_
      refine jm_E_eq (x := (12, [some (jm_r 7 0), some (jm_i a0), some (jm_i a1), none], [jm_i v9], h9)) rfl ?_
      refine jm_E_n 3 (x' := (if v9 = 0 then 19 else 15, [some (jm_r 7 0), some (jm_i a0), some (jm_i a1), some (jm_i v9)], [], h9)) rfl ?_
      refine jm_E_ite (fun hc => ?_) (fun hc => ?_)
      · replace H := H.1 hc
        refine jm_E_n 1 (x' := (20, [some (jm_r 7 0), some (jm_i a0), some (jm_i a1), some (jm_i v9)], [jm_r 7 0], h9)) rfl ?_
        obtain ⟨h10, hR, H⟩ := H
        refine jm_E_call rfl (Nat.le_of_ble_eq_true rfl) (Nat.le_of_ble_eq_true rfl) rfl hR trivial ?_
        refine jm_E_eq (x := (21, [some (jm_r 7 0), some (jm_i a0), some (jm_i a1), some (jm_i v9)], [], h10)) rfl ?_
        refine jm_E_n 6 (x' := (27, [some (jm_r 7 0), some (jm_i a0), some (jm_i a1), some (jm_i v9)], [jm_i a1, jm_r 0 0, jm_r 5 0, jm_r 7 0], h10)) rfl ?_
        obtain ⟨v11, h11, hR, H⟩ := H
        refine jm_E_call rfl (Nat.le_of_ble_eq_true rfl) (Nat.le_of_ble_eq_true rfl) rfl hR trivial ?_
        refine jm_E_eq (x := (28, [some (jm_r 7 0), some (jm_i a0), some (jm_i a1), some (jm_i v9)], [jm_i v11, jm_r 7 0], h11)) rfl ?_
        refine jm_E_n 2 (x' := (if v11 < a0 then 32 else 30, [some (jm_r 7 0), some (jm_i a0), some (jm_i a1), some (jm_i v9)], [jm_r 7 0], h11)) rfl ?_
        refine jm_E_ite (fun hc => ?_) (fun hc => ?_)
        · replace H := H.1 hc
          refine jm_E_n 1 (x' := (33, [some (jm_r 7 0), some (jm_i a0), some (jm_i a1), some (jm_i v9)], [jm_i 0, jm_r 7 0], h11)) rfl ?_
          obtain ⟨v12, h12, hR, H⟩ := H
          refine jm_E_call rfl (Nat.le_of_ble_eq_true rfl) (Nat.le_of_ble_eq_true rfl) rfl hR trivial ?_
          refine jm_E_eq (x := (34, [some (jm_r 7 0), some (jm_i a0), some (jm_i a1), some (jm_i v9)], [jm_i v12], h12)) rfl ?_
          exact jm_E_ret rfl (by rw [H]; rfl)
        · replace H := H.2 hc
          refine jm_E_n 2 (x' := (33, [some (jm_r 7 0), some (jm_i a0), some (jm_i a1), some (jm_i v9)], [jm_i 1, jm_r 7 0], h11)) rfl ?_
          obtain ⟨v13, h13, hR, H⟩ := H
          refine jm_E_call rfl (Nat.le_of_ble_eq_true rfl) (Nat.le_of_ble_eq_true rfl) rfl hR trivial ?_
          refine jm_E_eq (x := (34, [some (jm_r 7 0), some (jm_i a0), some (jm_i a1), some (jm_i v9)], [jm_i v13], h13)) rfl ?_
          exact jm_E_ret rfl (by rw [H]; rfl)
      · replace H := H.2 hc
        refine jm_E_n 2 (x' := (17, [some (jm_r 7 0), some (jm_i a0), some (jm_i a1), some (jm_i v9)], [jm_i v9, jm_r 7 0], h9)) rfl ?_
        obtain ⟨v14, h14, hR, H⟩ := H
        refine jm_E_call rfl (Nat.le_of_ble_eq_true rfl) (Nat.le_of_ble_eq_true rfl) rfl hR trivial ?_
        refine jm_E_eq (x := (18, [some (jm_r 7 0), some (jm_i a0), some (jm_i a1), some (jm_i v9)], [jm_i v14], h14)) rfl ?_
        exact jm_E_ret rfl (by rw [H]; rfl)
    · replace H := H.2 hc
      refine jm_E_n 2 (x' := (11, [some (jm_r 7 0), some (jm_i a0), some (jm_i a1), none], [jm_i 1, jm_r 7 0], h8)) rfl ?_
      obtain ⟨v15, h15, hR, H⟩ := H
      refine jm_E_call rfl (Nat.le_of_ble_eq_true rfl) (Nat.le_of_ble_eq_true rfl) rfl hR trivial ?_
      refine jm_E_eq (x := (12, [some (jm_r 7 0), some (jm_i a0), some (jm_i a1), none], [jm_i v15], h15)) rfl ?_
      refine jm_E_n 3 (x' := (if v15 = 0 then 19 else 15, [some (jm_r 7 0), some (jm_i a0), some (jm_i a1), some (jm_i v15)], [], h15)) rfl ?_
      refine jm_E_ite (fun hc => ?_) (fun hc => ?_)
      · replace H := H.1 hc
        refine jm_E_n 1 (x' := (20, [some (jm_r 7 0), some (jm_i a0), some (jm_i a1), some (jm_i v15)], [jm_r 7 0], h15)) rfl ?_
        obtain ⟨h16, hR, H⟩ := H
        refine jm_E_call rfl (Nat.le_of_ble_eq_true rfl) (Nat.le_of_ble_eq_true rfl) rfl hR trivial ?_
        refine jm_E_eq (x := (21, [some (jm_r 7 0), some (jm_i a0), some (jm_i a1), some (jm_i v15)], [], h16)) rfl ?_
        refine jm_E_n 6 (x' := (27, [some (jm_r 7 0), some (jm_i a0), some (jm_i a1), some (jm_i v15)], [jm_i a1, jm_r 0 0, jm_r 5 0, jm_r 7 0], h16)) rfl ?_
        obtain ⟨v17, h17, hR, H⟩ := H
        refine jm_E_call rfl (Nat.le_of_ble_eq_true rfl) (Nat.le_of_ble_eq_true rfl) rfl hR trivial ?_
        refine jm_E_eq (x := (28, [some (jm_r 7 0), some (jm_i a0), some (jm_i a1), some (jm_i v15)], [jm_i v17, jm_r 7 0], h17)) rfl ?_
        refine jm_E_n 2 (x' := (if v17 < a0 then 32 else 30, [some (jm_r 7 0), some (jm_i a0), some (jm_i a1), some (jm_i v15)], [jm_r 7 0], h17)) rfl ?_
        refine jm_E_ite (fun hc => ?_) (fun hc => ?_)
        · replace H := H.1 hc
          refine jm_E_n 1 (x' := (33, [some (jm_r 7 0), some (jm_i a0), some (jm_i a1), some (jm_i v15)], [jm_i 0, jm_r 7 0], h17)) rfl ?_
          obtain ⟨v18, h18, hR, H⟩ := H
          refine jm_E_call rfl (Nat.le_of_ble_eq_true rfl) (Nat.le_of_ble_eq_true rfl) rfl hR trivial ?_
          refine jm_E_eq (x := (34, [some (jm_r 7 0), some (jm_i a0), some (jm_i a1), some (jm_i v15)], [jm_i v18], h18)) rfl ?_
          exact jm_E_ret rfl (by rw [H]; rfl)
        · replace H := H.2 hc
          refine jm_E_n 2 (x' := (33, [some (jm_r 7 0), some (jm_i a0), some (jm_i a1), some (jm_i v15)], [jm_i 1, jm_r 7 0], h17)) rfl ?_
          obtain ⟨v19, h19, hR, H⟩ := H
          refine jm_E_call rfl (Nat.le_of_ble_eq_true rfl) (Nat.le_of_ble_eq_true rfl) rfl hR trivial ?_
          refine jm_E_eq (x := (34, [some (jm_r 7 0), some (jm_i a0), some (jm_i a1), some (jm_i v15)], [jm_i v19], h19)) rfl ?_
          exact jm_E_ret rfl (by rw [H]; rfl)
      · replace H := H.2 hc
        refine jm_E_n 2 (x' := (17, [some (jm_r 7 0), some (jm_i a0), some (jm_i a1), some (jm_i v15)], [jm_i v15, jm_r 7 0], h15)) rfl ?_
        obtain ⟨v20, h20, hR, H⟩ := H
        refine jm_E_call rfl (Nat.le_of_ble_eq_true rfl) (Nat.le_of_ble_eq_true rfl) rfl hR trivial ?_
        refine jm_E_eq (x := (18, [some (jm_r 7 0), some (jm_i a0), some (jm_i a1), some (jm_i v15)], [jm_i v20], h20)) rfl ?_
        exact jm_E_ret rfl (by rw [H]; rfl)
set_option maxRecDepth 100000 in
theorem wp_Clock_add_12 {x0 : Nat} {x1 : Int32} {x2 : Int32} {x3 : Int32} {x4 : Int32} {h : jm_H} {r : jm_Rs} (H :
  (x4 ≤ 0 →
    jm_in x3 8 ∧
    jm_in x3 8 ∧
    r = (some (jm_i x3), (jm_sI (jm_sI (jm_sI h 10 x0 x3.toNatClampNeg x1) 11 x0 x3.toNatClampNeg x2) 0 x0 3 ((h.1 0 x0 3) + 1)))) ∧
  (¬ (x4 ≤ 0) →
    jm_in (x4 - 1) 8 ∧
    ((h.1 11 x0 ((x4 - 1).toNatClampNeg)) ≤ x2 →
      jm_in x3 8 ∧
      jm_in x3 8 ∧
      r = (some (jm_i x3), (jm_sI (jm_sI (jm_sI h 10 x0 x3.toNatClampNeg x1) 11 x0 x3.toNatClampNeg x2) 0 x0 3 ((h.1 0 x0 3) + 1)))) ∧
    (¬ ((h.1 11 x0 ((x4 - 1).toNatClampNeg)) ≤ x2) →
      jm_in (x4 - 1) 8 ∧
      jm_in x4 8 ∧
      jm_in (x4 - 1) 8 ∧
      jm_in x4 8 ∧
      l_Clock_add_12 x0 x1 x2 (x4 - 1) (x4 + (-1)) (jm_sI (jm_sI h 10 x0 x4.toNatClampNeg (h.1 10 x0 ((x4 - 1).toNatClampNeg))) 11 x0 x4.toNatClampNeg (h.1 11 x0 ((x4 - 1).toNatClampNeg))) r))) : l_Clock_add_12 x0 x1 x2 x3 x4 h r := by
  refine jm_E_n 2 (x' := (if x4 ≤ 0 then 48 else 14, [some (jm_r 0 x0), some (jm_i x1), some (jm_i x2), some (jm_i x3), some (jm_i x4)], [], h)) rfl ?_
  refine jm_E_ite (fun hc => ?_) (fun hc => ?_)
  · replace H := H.1 hc
    refine jm_E_n 4 (x' := (52, [some (jm_r 0 x0), some (jm_i x1), some (jm_i x2), some (jm_i x3), some (jm_i x4)], [jm_i x1, jm_i x3, jm_r 10 x0], h)) rfl ?_
    refine jm_E_iast rfl rfl H.1 ?_
    replace H := H.2
    refine jm_E_eq (x := (53, [some (jm_r 0 x0), some (jm_i x1), some (jm_i x2), some (jm_i x3), some (jm_i x4)], [], (jm_sI h 10 x0 x3.toNatClampNeg x1))) rfl ?_
    refine jm_E_n 4 (x' := (57, [some (jm_r 0 x0), some (jm_i x1), some (jm_i x2), some (jm_i x3), some (jm_i x4)], [jm_i x2, jm_i x3, jm_r 11 x0], (jm_sI h 10 x0 x3.toNatClampNeg x1))) rfl ?_
    refine jm_E_iast rfl rfl H.1 ?_
    replace H := H.2
    refine jm_E_eq (x := (58, [some (jm_r 0 x0), some (jm_i x1), some (jm_i x2), some (jm_i x3), some (jm_i x4)], [], (jm_sI (jm_sI h 10 x0 x3.toNatClampNeg x1) 11 x0 x3.toNatClampNeg x2))) rfl ?_
    refine jm_E_n 7 (x' := (65, [some (jm_r 0 x0), some (jm_i x1), some (jm_i x2), some (jm_i x3), some (jm_i x4)], [jm_i x3], (jm_sI (jm_sI (jm_sI h 10 x0 x3.toNatClampNeg x1) 11 x0 x3.toNatClampNeg x2) 0 x0 3 ((h.1 0 x0 3) + 1)))) rfl ?_
    exact jm_E_ret rfl (by rw [H]; rfl)
  · replace H := H.2 hc
    refine jm_E_n 5 (x' := (19, [some (jm_r 0 x0), some (jm_i x1), some (jm_i x2), some (jm_i x3), some (jm_i x4)], [jm_i (x4 - 1), jm_r 11 x0], h)) rfl ?_
    refine jm_E_iald rfl rfl H.1 ?_
    replace H := H.2
    refine jm_E_eq (x := (20, [some (jm_r 0 x0), some (jm_i x1), some (jm_i x2), some (jm_i x3), some (jm_i x4)], [jm_i (h.1 11 x0 ((x4 - 1).toNatClampNeg))], h)) rfl ?_
    refine jm_E_n 2 (x' := (if (h.1 11 x0 ((x4 - 1).toNatClampNeg)) ≤ x2 then 48 else 22, [some (jm_r 0 x0), some (jm_i x1), some (jm_i x2), some (jm_i x3), some (jm_i x4)], [], h)) rfl ?_
    refine jm_E_ite (fun hc => ?_) (fun hc => ?_)
    · replace H := H.1 hc
      refine jm_E_n 4 (x' := (52, [some (jm_r 0 x0), some (jm_i x1), some (jm_i x2), some (jm_i x3), some (jm_i x4)], [jm_i x1, jm_i x3, jm_r 10 x0], h)) rfl ?_
      refine jm_E_iast rfl rfl H.1 ?_
      replace H := H.2
      refine jm_E_eq (x := (53, [some (jm_r 0 x0), some (jm_i x1), some (jm_i x2), some (jm_i x3), some (jm_i x4)], [], (jm_sI h 10 x0 x3.toNatClampNeg x1))) rfl ?_
      refine jm_E_n 4 (x' := (57, [some (jm_r 0 x0), some (jm_i x1), some (jm_i x2), some (jm_i x3), some (jm_i x4)], [jm_i x2, jm_i x3, jm_r 11 x0], (jm_sI h 10 x0 x3.toNatClampNeg x1))) rfl ?_
      refine jm_E_iast rfl rfl H.1 ?_
      replace H := H.2
      refine jm_E_eq (x := (58, [some (jm_r 0 x0), some (jm_i x1), some (jm_i x2), some (jm_i x3), some (jm_i x4)], [], (jm_sI (jm_sI h 10 x0 x3.toNatClampNeg x1) 11 x0 x3.toNatClampNeg x2))) rfl ?_
      refine jm_E_n 7 (x' := (65, [some (jm_r 0 x0), some (jm_i x1), some (jm_i x2), some (jm_i x3), some (jm_i x4)], [jm_i x3], (jm_sI (jm_sI (jm_sI h 10 x0 x3.toNatClampNeg x1) 11 x0 x3.toNatClampNeg x2) 0 x0 3 ((h.1 0 x0 3) + 1)))) rfl ?_
      exact jm_E_ret rfl (by rw [H]; rfl)
    · replace H := H.2 hc
      refine jm_E_n 8 (x' := (30, [some (jm_r 0 x0), some (jm_i x1), some (jm_i x2), some (jm_i x3), some (jm_i x4)], [jm_i (x4 - 1), jm_r 10 x0, jm_i x4, jm_r 10 x0], h)) rfl ?_
      refine jm_E_iald rfl rfl H.1 ?_
      replace H := H.2
      refine jm_E_eq (x := (31, [some (jm_r 0 x0), some (jm_i x1), some (jm_i x2), some (jm_i x3), some (jm_i x4)], [jm_i (h.1 10 x0 ((x4 - 1).toNatClampNeg)), jm_i x4, jm_r 10 x0], h)) rfl ?_
      refine jm_E_iast rfl rfl H.1 ?_
      replace H := H.2
      refine jm_E_eq (x := (32, [some (jm_r 0 x0), some (jm_i x1), some (jm_i x2), some (jm_i x3), some (jm_i x4)], [], (jm_sI h 10 x0 x4.toNatClampNeg (h.1 10 x0 ((x4 - 1).toNatClampNeg))))) rfl ?_
      refine jm_E_n 8 (x' := (40, [some (jm_r 0 x0), some (jm_i x1), some (jm_i x2), some (jm_i x3), some (jm_i x4)], [jm_i (x4 - 1), jm_r 11 x0, jm_i x4, jm_r 11 x0], (jm_sI h 10 x0 x4.toNatClampNeg (h.1 10 x0 ((x4 - 1).toNatClampNeg))))) rfl ?_
      refine jm_E_iald rfl rfl H.1 ?_
      replace H := H.2
      refine jm_E_eq (x := (41, [some (jm_r 0 x0), some (jm_i x1), some (jm_i x2), some (jm_i x3), some (jm_i x4)], [jm_i (h.1 11 x0 ((x4 - 1).toNatClampNeg)), jm_i x4, jm_r 11 x0], (jm_sI h 10 x0 x4.toNatClampNeg (h.1 10 x0 ((x4 - 1).toNatClampNeg))))) rfl ?_
      refine jm_E_iast rfl rfl H.1 ?_
      replace H := H.2
      refine jm_E_eq (x := (42, [some (jm_r 0 x0), some (jm_i x1), some (jm_i x2), some (jm_i x3), some (jm_i x4)], [], (jm_sI (jm_sI h 10 x0 x4.toNatClampNeg (h.1 10 x0 ((x4 - 1).toNatClampNeg))) 11 x0 x4.toNatClampNeg (h.1 11 x0 ((x4 - 1).toNatClampNeg))))) rfl ?_
      refine jm_E_n 6 (x' := (12, [some (jm_r 0 x0), some (jm_i x1), some (jm_i x2), some (jm_i (x4 - 1)), some (jm_i (x4 + (-1)))], [], (jm_sI (jm_sI h 10 x0 x4.toNatClampNeg (h.1 10 x0 ((x4 - 1).toNatClampNeg))) 11 x0 x4.toNatClampNeg (h.1 11 x0 ((x4 - 1).toNatClampNeg))))) rfl ?_
      exact H
set_option maxRecDepth 100000 in
theorem wp_Clock_add {o : Nat} {a0 : Int32} {a1 : Int32} {h : jm_H} {r : jm_Rs} (H :
  ((h.1 0 o 3) < 8 →
    l_Clock_add_12 o a0 a1 (h.1 0 o 3) (h.1 0 o 3) h r) ∧
  (¬ ((h.1 0 o 3) < 8) →
    r = (some (jm_i (-1)), h))) : jm_R 206 [jm_r 0 o, jm_i a0, jm_i a1] h r := by
  refine jm_R_of hz_206 (Nat.le_of_ble_eq_true rfl) ?_
  show jm_E cod_206 (0, [some (jm_r 0 o), some (jm_i a0), some (jm_i a1), none, none], [], h) r
  refine jm_E_n 4 (x' := (if (h.1 0 o 3) < 8 then 6 else 4, [some (jm_r 0 o), some (jm_i a0), some (jm_i a1), none, none], [], h)) rfl ?_
  refine jm_E_ite (fun hc => ?_) (fun hc => ?_)
  · replace H := H.1 hc
    refine jm_E_n 6 (x' := (12, [some (jm_r 0 o), some (jm_i a0), some (jm_i a1), some (jm_i (h.1 0 o 3)), some (jm_i (h.1 0 o 3))], [], h)) rfl ?_
    exact H
  · replace H := H.2 hc
    refine jm_E_n 1 (x' := (5, [some (jm_r 0 o), some (jm_i a0), some (jm_i a1), none, none], [jm_i (-1)], h)) rfl ?_
    exact jm_E_ret rfl (by rw [H]; rfl)
set_option maxRecDepth 100000 in
theorem wp_FR_take {a0 : Int32} {a1 : Int32} {h : jm_H} {r : jm_Rs} (H :
  ∃ (v1 : Int32) (h1 : jm_H), m_FR_isNeed a0 h v1 h1 ∧
  (v1 = 0 →
    ∃ (v2 : Int32) (h2 : jm_H), m_FR_clockRefusal 0 h1 v2 h2 ∧
    (v2 = 0 →
      ((h2.1 0 0 3) < 8 →
        ∃ h3 : jm_H, m_FR_surveyAhead h2 h3 ∧
        ∃ (v4 : Int32) (h4 : jm_H), m_Supply_leftFor 0 a1 h3 v4 h4 ∧
        (a0 ≤ v4 →
          ∃ (v5 : Int32) (h5 : jm_H), m_Clock_add 0 a0 a1 h4 v5 h5 ∧
          ∃ (v6 : Int32) (h6 : jm_H), m_FR_answered v5 h5 v6 h6 ∧
          r = (some (jm_i v6), h6)) ∧
        (¬ (a0 ≤ v4) →
          ∃ (v7 : Int32) (h7 : jm_H), m_FR_refused 5 h4 v7 h7 ∧
          r = (some (jm_i v7), h7))) ∧
      (¬ ((h2.1 0 0 3) < 8) →
        ∃ (v8 : Int32) (h8 : jm_H), m_FR_refused 3 h2 v8 h8 ∧
        r = (some (jm_i v8), h8))) ∧
    (¬ (v2 = 0) →
      ∃ (v9 : Int32) (h9 : jm_H), m_FR_refused v2 h2 v9 h9 ∧
      r = (some (jm_i v9), h9))) ∧
  (¬ (v1 = 0) →
    ∃ (v10 : Int32) (h10 : jm_H), m_FR_isDue a1 h1 v10 h10 ∧
    (v10 = 0 →
      ∃ (v11 : Int32) (h11 : jm_H), m_FR_clockRefusal 0 h10 v11 h11 ∧
      (v11 = 0 →
        ((h11.1 0 0 3) < 8 →
          ∃ h12 : jm_H, m_FR_surveyAhead h11 h12 ∧
          ∃ (v13 : Int32) (h13 : jm_H), m_Supply_leftFor 0 a1 h12 v13 h13 ∧
          (a0 ≤ v13 →
            ∃ (v14 : Int32) (h14 : jm_H), m_Clock_add 0 a0 a1 h13 v14 h14 ∧
            ∃ (v15 : Int32) (h15 : jm_H), m_FR_answered v14 h14 v15 h15 ∧
            r = (some (jm_i v15), h15)) ∧
          (¬ (a0 ≤ v13) →
            ∃ (v16 : Int32) (h16 : jm_H), m_FR_refused 5 h13 v16 h16 ∧
            r = (some (jm_i v16), h16))) ∧
        (¬ ((h11.1 0 0 3) < 8) →
          ∃ (v17 : Int32) (h17 : jm_H), m_FR_refused 3 h11 v17 h17 ∧
          r = (some (jm_i v17), h17))) ∧
      (¬ (v11 = 0) →
        ∃ (v18 : Int32) (h18 : jm_H), m_FR_refused v11 h11 v18 h18 ∧
        r = (some (jm_i v18), h18))) ∧
    (¬ (v10 = 0) →
      ∃ (v19 : Int32) (h19 : jm_H), m_FR_clockRefusal 1 h10 v19 h19 ∧
      (v19 = 0 →
        ((h19.1 0 0 3) < 8 →
          ∃ h20 : jm_H, m_FR_surveyAhead h19 h20 ∧
          ∃ (v21 : Int32) (h21 : jm_H), m_Supply_leftFor 0 a1 h20 v21 h21 ∧
          (a0 ≤ v21 →
            ∃ (v22 : Int32) (h22 : jm_H), m_Clock_add 0 a0 a1 h21 v22 h22 ∧
            ∃ (v23 : Int32) (h23 : jm_H), m_FR_answered v22 h22 v23 h23 ∧
            r = (some (jm_i v23), h23)) ∧
          (¬ (a0 ≤ v21) →
            ∃ (v24 : Int32) (h24 : jm_H), m_FR_refused 5 h21 v24 h24 ∧
            r = (some (jm_i v24), h24))) ∧
        (¬ ((h19.1 0 0 3) < 8) →
          ∃ (v25 : Int32) (h25 : jm_H), m_FR_refused 3 h19 v25 h25 ∧
          r = (some (jm_i v25), h25))) ∧
      (¬ (v19 = 0) →
        ∃ (v26 : Int32) (h26 : jm_H), m_FR_refused v19 h19 v26 h26 ∧
        r = (some (jm_i v26), h26))))) : jm_R 49 [jm_r 7 0, jm_i a0, jm_i a1] h r := by
  refine jm_R_of hz_49 (Nat.le_of_ble_eq_true rfl) ?_
  show jm_E cod_49 (0, [some (jm_r 7 0), some (jm_i a0), some (jm_i a1), none], [], h) r
  refine jm_E_n 2 (x' := (2, [some (jm_r 7 0), some (jm_i a0), some (jm_i a1), none], [jm_i a0, jm_r 7 0], h)) rfl ?_
  obtain ⟨v1, h1, hR, H⟩ := H
  refine jm_E_call rfl (Nat.le_of_ble_eq_true rfl) (Nat.le_of_ble_eq_true rfl) trivial hR trivial ?_
  refine jm_E_eq (x := (3, [some (jm_r 7 0), some (jm_i a0), some (jm_i a1), none], [jm_i v1, jm_r 7 0], h1)) rfl ?_
  refine jm_E_n 1 (x' := (if v1 = 0 then 10 else 4, [some (jm_r 7 0), some (jm_i a0), some (jm_i a1), none], [jm_r 7 0], h1)) rfl ?_
  refine jm_E_ite (fun hc => ?_) (fun hc => ?_)
  · replace H := H.1 hc
    refine jm_E_n 1 (x' := (11, [some (jm_r 7 0), some (jm_i a0), some (jm_i a1), none], [jm_i 0, jm_r 7 0], h1)) rfl ?_
    obtain ⟨v2, h2, hR, H⟩ := H
    refine jm_E_call rfl (Nat.le_of_ble_eq_true rfl) (Nat.le_of_ble_eq_true rfl) rfl hR trivial ?_
    refine jm_E_eq (x := (12, [some (jm_r 7 0), some (jm_i a0), some (jm_i a1), none], [jm_i v2], h2)) rfl ?_
    refine jm_E_n 3 (x' := (if v2 = 0 then 19 else 15, [some (jm_r 7 0), some (jm_i a0), some (jm_i a1), some (jm_i v2)], [], h2)) rfl ?_
    refine jm_E_ite (fun hc => ?_) (fun hc => ?_)
    · replace H := H.1 hc
      refine jm_E_n 5 (x' := (if (h2.1 0 0 3) < 8 then 28 else 24, [some (jm_r 7 0), some (jm_i a0), some (jm_i a1), some (jm_i v2)], [], h2)) rfl ?_
      refine jm_E_ite (fun hc => ?_) (fun hc => ?_)
      · replace H := H.1 hc
        refine jm_E_n 1 (x' := (29, [some (jm_r 7 0), some (jm_i a0), some (jm_i a1), some (jm_i v2)], [jm_r 7 0], h2)) rfl ?_
        obtain ⟨h3, hR, H⟩ := H
        refine jm_E_call rfl (Nat.le_of_ble_eq_true rfl) (Nat.le_of_ble_eq_true rfl) rfl hR trivial ?_
        refine jm_E_eq (x := (30, [some (jm_r 7 0), some (jm_i a0), some (jm_i a1), some (jm_i v2)], [], h3)) rfl ?_
        refine jm_E_n 5 (x' := (35, [some (jm_r 7 0), some (jm_i a0), some (jm_i a1), some (jm_i v2)], [jm_i a1, jm_r 0 0, jm_r 5 0], h3)) rfl ?_
        obtain ⟨v4, h4, hR, H⟩ := H
        refine jm_E_call rfl (Nat.le_of_ble_eq_true rfl) (Nat.le_of_ble_eq_true rfl) rfl hR trivial ?_
        refine jm_E_eq (x := (36, [some (jm_r 7 0), some (jm_i a0), some (jm_i a1), some (jm_i v2)], [jm_i v4], h4)) rfl ?_
        refine jm_E_n 2 (x' := (if a0 ≤ v4 then 42 else 38, [some (jm_r 7 0), some (jm_i a0), some (jm_i a1), some (jm_i v2)], [], h4)) rfl ?_
        refine jm_E_ite (fun hc => ?_) (fun hc => ?_)
        · replace H := H.1 hc
          refine jm_E_n 5 (x' := (47, [some (jm_r 7 0), some (jm_i a0), some (jm_i a1), some (jm_i v2)], [jm_i a1, jm_i a0, jm_r 0 0, jm_r 7 0], h4)) rfl ?_
          obtain ⟨v5, h5, hR, H⟩ := H
          refine jm_E_call rfl (Nat.le_of_ble_eq_true rfl) (Nat.le_of_ble_eq_true rfl) rfl hR trivial ?_
          refine jm_E_eq (x := (48, [some (jm_r 7 0), some (jm_i a0), some (jm_i a1), some (jm_i v2)], [jm_i v5, jm_r 7 0], h5)) rfl ?_
          obtain ⟨v6, h6, hR, H⟩ := H
          refine jm_E_call rfl (Nat.le_of_ble_eq_true rfl) (Nat.le_of_ble_eq_true rfl) rfl hR trivial ?_
          refine jm_E_eq (x := (49, [some (jm_r 7 0), some (jm_i a0), some (jm_i a1), some (jm_i v2)], [jm_i v6], h6)) rfl ?_
          exact jm_E_ret rfl (by rw [H]; rfl)
        · replace H := H.2 hc
          refine jm_E_n 2 (x' := (40, [some (jm_r 7 0), some (jm_i a0), some (jm_i a1), some (jm_i v2)], [jm_i 5, jm_r 7 0], h4)) rfl ?_
          obtain ⟨v7, h7, hR, H⟩ := H
          refine jm_E_call rfl (Nat.le_of_ble_eq_true rfl) (Nat.le_of_ble_eq_true rfl) rfl hR trivial ?_
          refine jm_E_eq (x := (41, [some (jm_r 7 0), some (jm_i a0), some (jm_i a1), some (jm_i v2)], [jm_i v7], h7)) rfl ?_
          exact jm_E_ret rfl (by rw [H]; rfl)
      · replace H := H.2 hc
        refine jm_E_n 2 (x' := (26, [some (jm_r 7 0), some (jm_i a0), some (jm_i a1), some (jm_i v2)], [jm_i 3, jm_r 7 0], h2)) rfl ?_
        obtain ⟨v8, h8, hR, H⟩ := H
        refine jm_E_call rfl (Nat.le_of_ble_eq_true rfl) (Nat.le_of_ble_eq_true rfl) rfl hR trivial ?_
        refine jm_E_eq (x := (27, [some (jm_r 7 0), some (jm_i a0), some (jm_i a1), some (jm_i v2)], [jm_i v8], h8)) rfl ?_
        exact jm_E_ret rfl (by rw [H]; rfl)
    · replace H := H.2 hc
      refine jm_E_n 2 (x' := (17, [some (jm_r 7 0), some (jm_i a0), some (jm_i a1), some (jm_i v2)], [jm_i v2, jm_r 7 0], h2)) rfl ?_
      obtain ⟨v9, h9, hR, H⟩ := H
      refine jm_E_call rfl (Nat.le_of_ble_eq_true rfl) (Nat.le_of_ble_eq_true rfl) rfl hR trivial ?_
      refine jm_E_eq (x := (18, [some (jm_r 7 0), some (jm_i a0), some (jm_i a1), some (jm_i v2)], [jm_i v9], h9)) rfl ?_
      exact jm_E_ret rfl (by rw [H]; rfl)
  · replace H := H.2 hc
    refine jm_E_n 2 (x' := (6, [some (jm_r 7 0), some (jm_i a0), some (jm_i a1), none], [jm_i a1, jm_r 7 0, jm_r 7 0], h1)) rfl ?_
    obtain ⟨v10, h10, hR, H⟩ := H
    refine jm_E_call rfl (Nat.le_of_ble_eq_true rfl) (Nat.le_of_ble_eq_true rfl) rfl hR trivial ?_
    refine jm_E_eq (x := (7, [some (jm_r 7 0), some (jm_i a0), some (jm_i a1), none], [jm_i v10, jm_r 7 0], h10)) rfl ?_
    refine jm_E_n 1 (x' := (if v10 = 0 then 10 else 8, [some (jm_r 7 0), some (jm_i a0), some (jm_i a1), none], [jm_r 7 0], h10)) rfl ?_
    refine jm_E_ite (fun hc => ?_) (fun hc => ?_)
    · replace H := H.1 hc
      refine jm_E_n 1 (x' := (11, [some (jm_r 7 0), some (jm_i a0), some (jm_i a1), none], [jm_i 0, jm_r 7 0], h10)) rfl ?_
      obtain ⟨v11, h11, hR, H⟩ := H
      refine jm_E_call rfl (Nat.le_of_ble_eq_true rfl) (Nat.le_of_ble_eq_true rfl) rfl hR trivial ?_
      refine jm_E_eq (x := (12, [some (jm_r 7 0), some (jm_i a0), some (jm_i a1), none], [jm_i v11], h11)) rfl ?_
      refine jm_E_n 3 (x' := (if v11 = 0 then 19 else 15, [some (jm_r 7 0), some (jm_i a0), some (jm_i a1), some (jm_i v11)], [], h11)) rfl ?_
      refine jm_E_ite (fun hc => ?_) (fun hc => ?_)
      · replace H := H.1 hc
        refine jm_E_n 5 (x' := (if (h11.1 0 0 3) < 8 then 28 else 24, [some (jm_r 7 0), some (jm_i a0), some (jm_i a1), some (jm_i v11)], [], h11)) rfl ?_
        refine jm_E_ite (fun hc => ?_) (fun hc => ?_)
        · replace H := H.1 hc
          refine jm_E_n 1 (x' := (29, [some (jm_r 7 0), some (jm_i a0), some (jm_i a1), some (jm_i v11)], [jm_r 7 0], h11)) rfl ?_
          obtain ⟨h12, hR, H⟩ := H
          refine jm_E_call rfl (Nat.le_of_ble_eq_true rfl) (Nat.le_of_ble_eq_true rfl) rfl hR trivial ?_
          refine jm_E_eq (x := (30, [some (jm_r 7 0), some (jm_i a0), some (jm_i a1), some (jm_i v11)], [], h12)) rfl ?_
          refine jm_E_n 5 (x' := (35, [some (jm_r 7 0), some (jm_i a0), some (jm_i a1), some (jm_i v11)], [jm_i a1, jm_r 0 0, jm_r 5 0], h12)) rfl ?_
          obtain ⟨v13, h13, hR, H⟩ := H
          refine jm_E_call rfl (Nat.le_of_ble_eq_true rfl) (Nat.le_of_ble_eq_true rfl) rfl hR trivial ?_
          refine jm_E_eq (x := (36, [some (jm_r 7 0), some (jm_i a0), some (jm_i a1), some (jm_i v11)], [jm_i v13], h13)) rfl ?_
          refine jm_E_n 2 (x' := (if a0 ≤ v13 then 42 else 38, [some (jm_r 7 0), some (jm_i a0), some (jm_i a1), some (jm_i v11)], [], h13)) rfl ?_
          refine jm_E_ite (fun hc => ?_) (fun hc => ?_)
          · replace H := H.1 hc
            refine jm_E_n 5 (x' := (47, [some (jm_r 7 0), some (jm_i a0), some (jm_i a1), some (jm_i v11)], [jm_i a1, jm_i a0, jm_r 0 0, jm_r 7 0], h13)) rfl ?_
            obtain ⟨v14, h14, hR, H⟩ := H
            refine jm_E_call rfl (Nat.le_of_ble_eq_true rfl) (Nat.le_of_ble_eq_true rfl) rfl hR trivial ?_
            refine jm_E_eq (x := (48, [some (jm_r 7 0), some (jm_i a0), some (jm_i a1), some (jm_i v11)], [jm_i v14, jm_r 7 0], h14)) rfl ?_
            obtain ⟨v15, h15, hR, H⟩ := H
            refine jm_E_call rfl (Nat.le_of_ble_eq_true rfl) (Nat.le_of_ble_eq_true rfl) rfl hR trivial ?_
            refine jm_E_eq (x := (49, [some (jm_r 7 0), some (jm_i a0), some (jm_i a1), some (jm_i v11)], [jm_i v15], h15)) rfl ?_
            exact jm_E_ret rfl (by rw [H]; rfl)
          · replace H := H.2 hc
            refine jm_E_n 2 (x' := (40, [some (jm_r 7 0), some (jm_i a0), some (jm_i a1), some (jm_i v11)], [jm_i 5, jm_r 7 0], h13)) rfl ?_
            obtain ⟨v16, h16, hR, H⟩ := H
            refine jm_E_call rfl (Nat.le_of_ble_eq_true rfl) (Nat.le_of_ble_eq_true rfl) rfl hR trivial ?_
            refine jm_E_eq (x := (41, [some (jm_r 7 0), some (jm_i a0), some (jm_i a1), some (jm_i v11)], [jm_i v16], h16)) rfl ?_
            exact jm_E_ret rfl (by rw [H]; rfl)
        · replace H := H.2 hc
          refine jm_E_n 2 (x' := (26, [some (jm_r 7 0), some (jm_i a0), some (jm_i a1), some (jm_i v11)], [jm_i 3, jm_r 7 0], h11)) rfl ?_
          obtain ⟨v17, h17, hR, H⟩ := H
          refine jm_E_call rfl (Nat.le_of_ble_eq_true rfl) (Nat.le_of_ble_eq_true rfl) rfl hR trivial ?_
          refine jm_E_eq (x := (27, [some (jm_r 7 0), some (jm_i a0), some (jm_i a1), some (jm_i v11)], [jm_i v17], h17)) rfl ?_
          exact jm_E_ret rfl (by rw [H]; rfl)
      · replace H := H.2 hc
        refine jm_E_n 2 (x' := (17, [some (jm_r 7 0), some (jm_i a0), some (jm_i a1), some (jm_i v11)], [jm_i v11, jm_r 7 0], h11)) rfl ?_
        obtain ⟨v18, h18, hR, H⟩ := H
        refine jm_E_call rfl (Nat.le_of_ble_eq_true rfl) (Nat.le_of_ble_eq_true rfl) rfl hR trivial ?_
        refine jm_E_eq (x := (18, [some (jm_r 7 0), some (jm_i a0), some (jm_i a1), some (jm_i v11)], [jm_i v18], h18)) rfl ?_
        exact jm_E_ret rfl (by rw [H]; rfl)
    · replace H := H.2 hc
      refine jm_E_n 2 (x' := (11, [some (jm_r 7 0), some (jm_i a0), some (jm_i a1), none], [jm_i 1, jm_r 7 0], h10)) rfl ?_
      obtain ⟨v19, h19, hR, H⟩ := H
      refine jm_E_call rfl (Nat.le_of_ble_eq_true rfl) (Nat.le_of_ble_eq_true rfl) rfl hR trivial ?_
      refine jm_E_eq (x := (12, [some (jm_r 7 0), some (jm_i a0), some (jm_i a1), none], [jm_i v19], h19)) rfl ?_
      refine jm_E_n 3 (x' := (if v19 = 0 then 19 else 15, [some (jm_r 7 0), some (jm_i a0), some (jm_i a1), some (jm_i v19)], [], h19)) rfl ?_
      refine jm_E_ite (fun hc => ?_) (fun hc => ?_)
      · replace H := H.1 hc
        refine jm_E_n 5 (x' := (if (h19.1 0 0 3) < 8 then 28 else 24, [some (jm_r 7 0), some (jm_i a0), some (jm_i a1), some (jm_i v19)], [], h19)) rfl ?_
        refine jm_E_ite (fun hc => ?_) (fun hc => ?_)
        · replace H := H.1 hc
          refine jm_E_n 1 (x' := (29, [some (jm_r 7 0), some (jm_i a0), some (jm_i a1), some (jm_i v19)], [jm_r 7 0], h19)) rfl ?_
          obtain ⟨h20, hR, H⟩ := H
          refine jm_E_call rfl (Nat.le_of_ble_eq_true rfl) (Nat.le_of_ble_eq_true rfl) rfl hR trivial ?_
          refine jm_E_eq (x := (30, [some (jm_r 7 0), some (jm_i a0), some (jm_i a1), some (jm_i v19)], [], h20)) rfl ?_
          refine jm_E_n 5 (x' := (35, [some (jm_r 7 0), some (jm_i a0), some (jm_i a1), some (jm_i v19)], [jm_i a1, jm_r 0 0, jm_r 5 0], h20)) rfl ?_
          obtain ⟨v21, h21, hR, H⟩ := H
          refine jm_E_call rfl (Nat.le_of_ble_eq_true rfl) (Nat.le_of_ble_eq_true rfl) rfl hR trivial ?_
          refine jm_E_eq (x := (36, [some (jm_r 7 0), some (jm_i a0), some (jm_i a1), some (jm_i v19)], [jm_i v21], h21)) rfl ?_
          refine jm_E_n 2 (x' := (if a0 ≤ v21 then 42 else 38, [some (jm_r 7 0), some (jm_i a0), some (jm_i a1), some (jm_i v19)], [], h21)) rfl ?_
          refine jm_E_ite (fun hc => ?_) (fun hc => ?_)
          · replace H := H.1 hc
            refine jm_E_n 5 (x' := (47, [some (jm_r 7 0), some (jm_i a0), some (jm_i a1), some (jm_i v19)], [jm_i a1, jm_i a0, jm_r 0 0, jm_r 7 0], h21)) rfl ?_
            obtain ⟨v22, h22, hR, H⟩ := H
            refine jm_E_call rfl (Nat.le_of_ble_eq_true rfl) (Nat.le_of_ble_eq_true rfl) rfl hR trivial ?_
            refine jm_E_eq (x := (48, [some (jm_r 7 0), some (jm_i a0), some (jm_i a1), some (jm_i v19)], [jm_i v22, jm_r 7 0], h22)) rfl ?_
            obtain ⟨v23, h23, hR, H⟩ := H
            refine jm_E_call rfl (Nat.le_of_ble_eq_true rfl) (Nat.le_of_ble_eq_true rfl) rfl hR trivial ?_
            refine jm_E_eq (x := (49, [some (jm_r 7 0), some (jm_i a0), some (jm_i a1), some (jm_i v19)], [jm_i v23], h23)) rfl ?_
            exact jm_E_ret rfl (by rw [H]; rfl)
          · replace H := H.2 hc
            refine jm_E_n 2 (x' := (40, [some (jm_r 7 0), some (jm_i a0), some (jm_i a1), some (jm_i v19)], [jm_i 5, jm_r 7 0], h21)) rfl ?_
            obtain ⟨v24, h24, hR, H⟩ := H
            refine jm_E_call rfl (Nat.le_of_ble_eq_true rfl) (Nat.le_of_ble_eq_true rfl) rfl hR trivial ?_
            refine jm_E_eq (x := (41, [some (jm_r 7 0), some (jm_i a0), some (jm_i a1), some (jm_i v19)], [jm_i v24], h24)) rfl ?_
            exact jm_E_ret rfl (by rw [H]; rfl)
        · replace H := H.2 hc
          refine jm_E_n 2 (x' := (26, [some (jm_r 7 0), some (jm_i a0), some (jm_i a1), some (jm_i v19)], [jm_i 3, jm_r 7 0], h19)) rfl ?_
          obtain ⟨v25, h25, hR, H⟩ := H
          refine jm_E_call rfl (Nat.le_of_ble_eq_true rfl) (Nat.le_of_ble_eq_true rfl) rfl hR trivial ?_
          refine jm_E_eq (x := (27, [some (jm_r 7 0), some (jm_i a0), some (jm_i a1), some (jm_i v19)], [jm_i v25], h25)) rfl ?_
          exact jm_E_ret rfl (by rw [H]; rfl)
      · replace H := H.2 hc
        refine jm_E_n 2 (x' := (17, [some (jm_r 7 0), some (jm_i a0), some (jm_i a1), some (jm_i v19)], [jm_i v19, jm_r 7 0], h19)) rfl ?_
        obtain ⟨v26, h26, hR, H⟩ := H
        refine jm_E_call rfl (Nat.le_of_ble_eq_true rfl) (Nat.le_of_ble_eq_true rfl) rfl hR trivial ?_
        refine jm_E_eq (x := (18, [some (jm_r 7 0), some (jm_i a0), some (jm_i a1), some (jm_i v19)], [jm_i v26], h26)) rfl ?_
        exact jm_E_ret rfl (by rw [H]; rfl)
set_option maxRecDepth 100000 in
theorem wp_FR_soonest_15 {x1 : Int32} {x3 : Int32} {h : jm_H} {r : jm_Rs} (H :
  (400 < x3 →
    ∃ (v5 : Int32) (h5 : jm_H), m_FR_answered (-2) h v5 h5 ∧
    r = (some (jm_i v5), h5)) ∧
  (¬ (400 < x3) →
    ∃ (v6 : Int32) (h6 : jm_H), m_Supply_upTo x3 h v6 h6 ∧
    (v6 < x1 →
      l_FR_soonest_15 x1 (x3 + 1) h6 r) ∧
    (¬ (v6 < x1) →
      ∃ (v7 : Int32) (h7 : jm_H), m_Supply_leftFor 0 ((h6.1 0 0 0) + x3) h6 v7 h7 ∧
      (v7 < x1 →
        l_FR_soonest_15 x1 (x3 + 1) h7 r) ∧
      (¬ (v7 < x1) →
        ∃ (v8 : Int32) (h8 : jm_H), m_FR_answered ((h7.1 0 0 0) + x3) h7 v8 h8 ∧
        r = (some (jm_i v8), h8))))) : l_FR_soonest_15 x1 x3 h r := by
  refine jm_E_n 3 (x' := (if 400 < x3 then 46 else 18, [some (jm_r 7 0), some (jm_i x1), none, some (jm_i x3)], [], h)) rfl ?_
  refine jm_E_ite (fun hc => ?_) (fun hc => ?_)
  · replace H := H.1 hc
    refine jm_E_n 2 (x' := (48, [some (jm_r 7 0), some (jm_i x1), none, some (jm_i x3)], [jm_i (-2), jm_r 7 0], h)) rfl ?_
    obtain ⟨v5, h5, hR, H⟩ := H
    refine jm_E_call rfl (Nat.le_of_ble_eq_true rfl) (Nat.le_of_ble_eq_true rfl) rfl hR trivial ?_
    refine jm_E_eq (x := (49, [some (jm_r 7 0), some (jm_i x1), none, some (jm_i x3)], [jm_i v5], h5)) rfl ?_
    exact jm_E_ret rfl (by rw [H]; rfl)
  · replace H := H.2 hc
    refine jm_E_n 3 (x' := (21, [some (jm_r 7 0), some (jm_i x1), none, some (jm_i x3)], [jm_i x3, jm_r 5 0], h)) rfl ?_
    obtain ⟨v6, h6, hR, H⟩ := H
    refine jm_E_call rfl (Nat.le_of_ble_eq_true rfl) (Nat.le_of_ble_eq_true rfl) rfl hR trivial ?_
    refine jm_E_eq (x := (22, [some (jm_r 7 0), some (jm_i x1), none, some (jm_i x3)], [jm_i v6], h6)) rfl ?_
    refine jm_E_n 2 (x' := (if v6 < x1 then 44 else 24, [some (jm_r 7 0), some (jm_i x1), none, some (jm_i x3)], [], h6)) rfl ?_
    refine jm_E_ite (fun hc => ?_) (fun hc => ?_)
    · replace H := H.1 hc
      refine jm_E_n 2 (x' := (15, [some (jm_r 7 0), some (jm_i x1), none, some (jm_i (x3 + 1))], [], h6)) rfl ?_
      exact H
    · replace H := H.2 hc
      refine jm_E_n 9 (x' := (33, [some (jm_r 7 0), some (jm_i x1), none, some (jm_i x3)], [jm_i ((h6.1 0 0 0) + x3), jm_r 0 0, jm_r 5 0], h6)) rfl ?_
      obtain ⟨v7, h7, hR, H⟩ := H
      refine jm_E_call rfl (Nat.le_of_ble_eq_true rfl) (Nat.le_of_ble_eq_true rfl) rfl hR trivial ?_
      refine jm_E_eq (x := (34, [some (jm_r 7 0), some (jm_i x1), none, some (jm_i x3)], [jm_i v7], h7)) rfl ?_
      refine jm_E_n 2 (x' := (if v7 < x1 then 44 else 36, [some (jm_r 7 0), some (jm_i x1), none, some (jm_i x3)], [], h7)) rfl ?_
      refine jm_E_ite (fun hc => ?_) (fun hc => ?_)
      · replace H := H.1 hc
        refine jm_E_n 2 (x' := (15, [some (jm_r 7 0), some (jm_i x1), none, some (jm_i (x3 + 1))], [], h7)) rfl ?_
        exact H
      · replace H := H.2 hc
        refine jm_E_n 6 (x' := (42, [some (jm_r 7 0), some (jm_i x1), none, some (jm_i x3)], [jm_i ((h7.1 0 0 0) + x3), jm_r 7 0], h7)) rfl ?_
        obtain ⟨v8, h8, hR, H⟩ := H
        refine jm_E_call rfl (Nat.le_of_ble_eq_true rfl) (Nat.le_of_ble_eq_true rfl) rfl hR trivial ?_
        refine jm_E_eq (x := (43, [some (jm_r 7 0), some (jm_i x1), none, some (jm_i x3)], [jm_i v8], h8)) rfl ?_
        exact jm_E_ret rfl (by rw [H]; rfl)
set_option maxRecDepth 100000 in
theorem wp_FR_soonest {a0 : Int32} {h : jm_H} {r : jm_Rs} (H :
  ∃ (v1 : Int32) (h1 : jm_H), m_FR_isNeed a0 h v1 h1 ∧
  ∃ (v2 : Int32) (h2 : jm_H), m_FR_clockRefusal v1 h1 v2 h2 ∧
  (v2 = 0 →
    ∃ h3 : jm_H, m_FR_surveyAhead h2 h3 ∧
    l_FR_soonest_15 a0 1 h3 r) ∧
  (¬ (v2 = 0) →
    ∃ (v4 : Int32) (h4 : jm_H), m_FR_refused v2 h2 v4 h4 ∧
    r = (some (jm_i v4), h4))) : jm_R 50 [jm_r 7 0, jm_i a0] h r := by
  refine jm_R_of hz_50 (Nat.le_of_ble_eq_true rfl) ?_
  show jm_E cod_50 (0, [some (jm_r 7 0), some (jm_i a0), none, none], [], h) r
  refine jm_E_n 2 (x' := (2, [some (jm_r 7 0), some (jm_i a0), none, none], [jm_i a0, jm_r 7 0], h)) rfl ?_
  obtain ⟨v1, h1, hR, H⟩ := H
  refine jm_E_call rfl (Nat.le_of_ble_eq_true rfl) (Nat.le_of_ble_eq_true rfl) trivial hR trivial ?_
  refine jm_E_eq (x := (3, [some (jm_r 7 0), some (jm_i a0), none, none], [jm_i v1, jm_r 7 0], h1)) rfl ?_
  obtain ⟨v2, h2, hR, H⟩ := H
  refine jm_E_call rfl (Nat.le_of_ble_eq_true rfl) (Nat.le_of_ble_eq_true rfl) rfl hR trivial ?_
  refine jm_E_eq (x := (4, [some (jm_r 7 0), some (jm_i a0), none, none], [jm_i v2], h2)) rfl ?_
  refine jm_E_n 3 (x' := (if v2 = 0 then 11 else 7, [some (jm_r 7 0), some (jm_i a0), some (jm_i v2), none], [], h2)) rfl ?_
  refine jm_E_ite (fun hc => ?_) (fun hc => ?_)
  · replace H := H.1 hc
    refine jm_E_n 1 (x' := (12, [some (jm_r 7 0), some (jm_i a0), some (jm_i v2), none], [jm_r 7 0], h2)) rfl ?_
    obtain ⟨h3, hR, H⟩ := H
    refine jm_E_call rfl (Nat.le_of_ble_eq_true rfl) (Nat.le_of_ble_eq_true rfl) rfl hR trivial ?_
    refine jm_E_eq (x := (13, [some (jm_r 7 0), some (jm_i a0), some (jm_i v2), none], [], h3)) rfl ?_
    refine jm_E_n 2 (x' := (15, [some (jm_r 7 0), some (jm_i a0), some (jm_i v2), some (jm_i 1)], [], h3)) rfl ?_
    exact jm_E_weak (jm_le_s (jm_le_s (jm_le_n (jm_le_s jm_le_nil)))) H
  · replace H := H.2 hc
    refine jm_E_n 2 (x' := (9, [some (jm_r 7 0), some (jm_i a0), some (jm_i v2), none], [jm_i v2, jm_r 7 0], h2)) rfl ?_
    obtain ⟨v4, h4, hR, H⟩ := H
    refine jm_E_call rfl (Nat.le_of_ble_eq_true rfl) (Nat.le_of_ble_eq_true rfl) rfl hR trivial ?_
    refine jm_E_eq (x := (10, [some (jm_r 7 0), some (jm_i a0), some (jm_i v2), none], [jm_i v4], h4)) rfl ?_
    exact jm_E_ret rfl (by rw [H]; rfl)
set_option maxRecDepth 100000 in
theorem wp_FR_greatest {a0 : Int32} {h : jm_H} {r : jm_Rs} (H :
  ∃ (v1 : Int32) (h1 : jm_H), m_FR_isDue a0 h v1 h1 ∧
  ∃ (v2 : Int32) (h2 : jm_H), m_FR_clockRefusal v1 h1 v2 h2 ∧
  (v2 = 0 →
    ∃ h3 : jm_H, m_FR_surveyAhead h2 h3 ∧
    ∃ (v4 : Int32) (h4 : jm_H), m_Supply_leftFor 0 a0 h3 v4 h4 ∧
    ∃ (v5 : Int32) (h5 : jm_H), m_FR_answered (if (0 : Int32) < (if (400 : Int32) < v4 then 400 else v4) then (if (400 : Int32) < v4 then 400 else v4) else 0) h4 v5 h5 ∧
    r = (some (jm_i v5), h5)) ∧
  (¬ (v2 = 0) →
    ∃ (v6 : Int32) (h6 : jm_H), m_FR_refused v2 h2 v6 h6 ∧
    r = (some (jm_i v6), h6))) : jm_R 51 [jm_r 7 0, jm_i a0] h r := by
  refine jm_R_of hz_51 (Nat.le_of_ble_eq_true rfl) ?_
  show jm_E cod_51 (0, [some (jm_r 7 0), some (jm_i a0), none, none], [], h) r
  refine jm_E_n 3 (x' := (3, [some (jm_r 7 0), some (jm_i a0), none, none], [jm_i a0, jm_r 7 0, jm_r 7 0], h)) rfl ?_
  obtain ⟨v1, h1, hR, H⟩ := H
  refine jm_E_call rfl (Nat.le_of_ble_eq_true rfl) (Nat.le_of_ble_eq_true rfl) rfl hR trivial ?_
  refine jm_E_eq (x := (4, [some (jm_r 7 0), some (jm_i a0), none, none], [jm_i v1, jm_r 7 0], h1)) rfl ?_
  obtain ⟨v2, h2, hR, H⟩ := H
  refine jm_E_call rfl (Nat.le_of_ble_eq_true rfl) (Nat.le_of_ble_eq_true rfl) rfl hR trivial ?_
  refine jm_E_eq (x := (5, [some (jm_r 7 0), some (jm_i a0), none, none], [jm_i v2], h2)) rfl ?_
  refine jm_E_n 3 (x' := (if v2 = 0 then 12 else 8, [some (jm_r 7 0), some (jm_i a0), some (jm_i v2), none], [], h2)) rfl ?_
  refine jm_E_ite (fun hc => ?_) (fun hc => ?_)
  · replace H := H.1 hc
    refine jm_E_n 1 (x' := (13, [some (jm_r 7 0), some (jm_i a0), some (jm_i v2), none], [jm_r 7 0], h2)) rfl ?_
    obtain ⟨h3, hR, H⟩ := H
    refine jm_E_call rfl (Nat.le_of_ble_eq_true rfl) (Nat.le_of_ble_eq_true rfl) rfl hR trivial ?_
    refine jm_E_eq (x := (14, [some (jm_r 7 0), some (jm_i a0), some (jm_i v2), none], [], h3)) rfl ?_
    refine jm_E_n 5 (x' := (19, [some (jm_r 7 0), some (jm_i a0), some (jm_i v2), none], [jm_i a0, jm_r 0 0, jm_r 5 0], h3)) rfl ?_
    obtain ⟨v4, h4, hR, H⟩ := H
    refine jm_E_call rfl (Nat.le_of_ble_eq_true rfl) (Nat.le_of_ble_eq_true rfl) rfl hR trivial ?_
    refine jm_E_eq (x := (20, [some (jm_r 7 0), some (jm_i a0), some (jm_i v2), none], [jm_i v4], h4)) rfl ?_
    refine jm_E_n 7 (x' := (27, [some (jm_r 7 0), some (jm_i a0), some (jm_i v2), some (jm_i v4)], [jm_i (if (0 : Int32) < (if (400 : Int32) < v4 then 400 else v4) then (if (400 : Int32) < v4 then 400 else v4) else 0), jm_r 7 0], h4)) rfl ?_
    obtain ⟨v5, h5, hR, H⟩ := H
    refine jm_E_call rfl (Nat.le_of_ble_eq_true rfl) (Nat.le_of_ble_eq_true rfl) rfl hR trivial ?_
    refine jm_E_eq (x := (28, [some (jm_r 7 0), some (jm_i a0), some (jm_i v2), some (jm_i v4)], [jm_i v5], h5)) rfl ?_
    exact jm_E_ret rfl (by rw [H]; rfl)
  · replace H := H.2 hc
    refine jm_E_n 2 (x' := (10, [some (jm_r 7 0), some (jm_i a0), some (jm_i v2), none], [jm_i v2, jm_r 7 0], h2)) rfl ?_
    obtain ⟨v6, h6, hR, H⟩ := H
    refine jm_E_call rfl (Nat.le_of_ble_eq_true rfl) (Nat.le_of_ble_eq_true rfl) rfl hR trivial ?_
    refine jm_E_eq (x := (11, [some (jm_r 7 0), some (jm_i a0), some (jm_i v2), none], [jm_i v6], h6)) rfl ?_
    exact jm_E_ret rfl (by rw [H]; rfl)
set_option maxRecDepth 100000 in
theorem wp_Supply_margin {a0 : Nat} {h : jm_H} {r : jm_Rs} (H :
  ∃ (v1 : Int32) (h1 : jm_H), m_Supply_leastMargin a0 0 h v1 h1 ∧
  r = (some (jm_i v1), h1)) : jm_R 255 [jm_r 5 0, jm_r 0 a0] h r := by
  refine jm_R_of hz_255 (Nat.le_of_ble_eq_true rfl) ?_
  show jm_E cod_255 (0, [some (jm_r 5 0), some (jm_r 0 a0)], [], h) r
  refine jm_E_n 3 (x' := (3, [some (jm_r 5 0), some (jm_r 0 a0)], [jm_i 0, jm_r 0 a0, jm_r 5 0], h)) rfl ?_
  obtain ⟨v1, h1, hR, H⟩ := H
  refine jm_E_call rfl (Nat.le_of_ble_eq_true rfl) (Nat.le_of_ble_eq_true rfl) rfl hR trivial ?_
  refine jm_E_eq (x := (4, [some (jm_r 5 0), some (jm_r 0 a0)], [jm_i v1], h1)) rfl ?_
  exact jm_E_ret rfl (by rw [H]; rfl)
set_option maxRecDepth 100000 in
theorem wp_FR_spareNow  {h : jm_H} {r : jm_Rs} (H :
  ∃ h1 : jm_H, m_FR_surveyAhead h h1 ∧
  jm_in (h1.1 0 0 1) 3 ∧
  jm_in (h1.1 0 0 2) 24 ∧
  ∃ (v2 : Int32) (h2 : jm_H), m_Supply_margin 0 h1 v2 h2 ∧
  r = (some (jm_i (if (0 : Int32) < (if v2 < (h1.1 19 (3 * 0 + (h1.1 0 0 1).toNatClampNeg) ((h1.1 0 0 2).toNatClampNeg)) then v2 else (h1.1 19 (3 * 0 + (h1.1 0 0 1).toNatClampNeg) ((h1.1 0 0 2).toNatClampNeg))) then (if v2 < (h1.1 19 (3 * 0 + (h1.1 0 0 1).toNatClampNeg) ((h1.1 0 0 2).toNatClampNeg)) then v2 else (h1.1 19 (3 * 0 + (h1.1 0 0 1).toNatClampNeg) ((h1.1 0 0 2).toNatClampNeg))) else 0)), h2)) : jm_R 70 [jm_r 7 0] h r := by
  refine jm_R_of hz_70 (Nat.le_of_ble_eq_true rfl) ?_
  show jm_E cod_70 (0, [some (jm_r 7 0), none], [], h) r
  refine jm_E_n 1 (x' := (1, [some (jm_r 7 0), none], [jm_r 7 0], h)) rfl ?_
  obtain ⟨h1, hR, H⟩ := H
  refine jm_E_call rfl (Nat.le_of_ble_eq_true rfl) (Nat.le_of_ble_eq_true rfl) rfl hR trivial ?_
  refine jm_E_eq (x := (2, [some (jm_r 7 0), none], [], h1)) rfl ?_
  refine jm_E_n 5 (x' := (7, [some (jm_r 7 0), none], [jm_i (h1.1 0 0 1), jm_r 32 0], h1)) rfl ?_
  refine jm_E_aald rfl rfl H.1 ?_
  replace H := H.2
  refine jm_E_eq (x := (8, [some (jm_r 7 0), none], [jm_r 6 (3 * 0 + (h1.1 0 0 1).toNatClampNeg)], h1)) rfl ?_
  refine jm_E_n 5 (x' := (13, [some (jm_r 7 0), none], [jm_i (h1.1 0 0 2), jm_r 19 (3 * 0 + (h1.1 0 0 1).toNatClampNeg)], h1)) rfl ?_
  refine jm_E_iald rfl rfl H.1 ?_
  replace H := H.2
  refine jm_E_eq (x := (14, [some (jm_r 7 0), none], [jm_i (h1.1 19 (3 * 0 + (h1.1 0 0 1).toNatClampNeg) ((h1.1 0 0 2).toNatClampNeg))], h1)) rfl ?_
  refine jm_E_n 7 (x' := (21, [some (jm_r 7 0), some (jm_i (h1.1 19 (3 * 0 + (h1.1 0 0 1).toNatClampNeg) ((h1.1 0 0 2).toNatClampNeg)))], [jm_r 0 0, jm_r 5 0, jm_i (h1.1 19 (3 * 0 + (h1.1 0 0 1).toNatClampNeg) ((h1.1 0 0 2).toNatClampNeg)), jm_i 0], h1)) rfl ?_
  obtain ⟨v2, h2, hR, H⟩ := H
  refine jm_E_call rfl (Nat.le_of_ble_eq_true rfl) (Nat.le_of_ble_eq_true rfl) rfl hR trivial ?_
  refine jm_E_eq (x := (22, [some (jm_r 7 0), some (jm_i (h1.1 19 (3 * 0 + (h1.1 0 0 1).toNatClampNeg) ((h1.1 0 0 2).toNatClampNeg)))], [jm_i v2, jm_i (h1.1 19 (3 * 0 + (h1.1 0 0 1).toNatClampNeg) ((h1.1 0 0 2).toNatClampNeg)), jm_i 0], h2)) rfl ?_
  refine jm_E_n 2 (x' := (24, [some (jm_r 7 0), some (jm_i (h1.1 19 (3 * 0 + (h1.1 0 0 1).toNatClampNeg) ((h1.1 0 0 2).toNatClampNeg)))], [jm_i (if (0 : Int32) < (if v2 < (h1.1 19 (3 * 0 + (h1.1 0 0 1).toNatClampNeg) ((h1.1 0 0 2).toNatClampNeg)) then v2 else (h1.1 19 (3 * 0 + (h1.1 0 0 1).toNatClampNeg) ((h1.1 0 0 2).toNatClampNeg))) then (if v2 < (h1.1 19 (3 * 0 + (h1.1 0 0 1).toNatClampNeg) ((h1.1 0 0 2).toNatClampNeg)) then v2 else (h1.1 19 (3 * 0 + (h1.1 0 0 1).toNatClampNeg) ((h1.1 0 0 2).toNatClampNeg))) else 0)], h2)) rfl ?_
  exact jm_E_ret rfl (by rw [H]; rfl)
set_option maxRecDepth 100000 in
theorem wp_FR_spare  {h : jm_H} {r : jm_Rs} (H :
  ∃ (v1 : Int32) (h1 : jm_H), m_FR_clockRefusal 1 h v1 h1 ∧
  (v1 = 0 →
    ∃ (v2 : Int32) (h2 : jm_H), m_FR_spareNow h1 v2 h2 ∧
    ∃ (v3 : Int32) (h3 : jm_H), m_FR_answered v2 h2 v3 h3 ∧
    r = (some (jm_i v3), h3)) ∧
  (¬ (v1 = 0) →
    ∃ (v4 : Int32) (h4 : jm_H), m_FR_refused v1 h1 v4 h4 ∧
    r = (some (jm_i v4), h4))) : jm_R 52 [jm_r 7 0] h r := by
  refine jm_R_of hz_52 (Nat.le_of_ble_eq_true rfl) ?_
  show jm_E cod_52 (0, [some (jm_r 7 0), none], [], h) r
  refine jm_E_n 2 (x' := (2, [some (jm_r 7 0), none], [jm_i 1, jm_r 7 0], h)) rfl ?_
  obtain ⟨v1, h1, hR, H⟩ := H
  refine jm_E_call rfl (Nat.le_of_ble_eq_true rfl) (Nat.le_of_ble_eq_true rfl) rfl hR trivial ?_
  refine jm_E_eq (x := (3, [some (jm_r 7 0), none], [jm_i v1], h1)) rfl ?_
  refine jm_E_n 3 (x' := (if v1 = 0 then 10 else 6, [some (jm_r 7 0), some (jm_i v1)], [], h1)) rfl ?_
  refine jm_E_ite (fun hc => ?_) (fun hc => ?_)
  · replace H := H.1 hc
    refine jm_E_n 2 (x' := (12, [some (jm_r 7 0), some (jm_i v1)], [jm_r 7 0, jm_r 7 0], h1)) rfl ?_
    obtain ⟨v2, h2, hR, H⟩ := H
    refine jm_E_call rfl (Nat.le_of_ble_eq_true rfl) (Nat.le_of_ble_eq_true rfl) rfl hR trivial ?_
    refine jm_E_eq (x := (13, [some (jm_r 7 0), some (jm_i v1)], [jm_i v2, jm_r 7 0], h2)) rfl ?_
    obtain ⟨v3, h3, hR, H⟩ := H
    refine jm_E_call rfl (Nat.le_of_ble_eq_true rfl) (Nat.le_of_ble_eq_true rfl) rfl hR trivial ?_
    refine jm_E_eq (x := (14, [some (jm_r 7 0), some (jm_i v1)], [jm_i v3], h3)) rfl ?_
    exact jm_E_ret rfl (by rw [H]; rfl)
  · replace H := H.2 hc
    refine jm_E_n 2 (x' := (8, [some (jm_r 7 0), some (jm_i v1)], [jm_i v1, jm_r 7 0], h1)) rfl ?_
    obtain ⟨v4, h4, hR, H⟩ := H
    refine jm_E_call rfl (Nat.le_of_ble_eq_true rfl) (Nat.le_of_ble_eq_true rfl) rfl hR trivial ?_
    refine jm_E_eq (x := (9, [some (jm_r 7 0), some (jm_i v1)], [jm_i v4], h4)) rfl ?_
    refine jm_E_n 1 (x' := (14, [some (jm_r 7 0), some (jm_i v1)], [jm_i v4], h4)) rfl ?_
    exact jm_E_ret rfl (by rw [H]; rfl)
set_option maxRecDepth 100000 in
theorem wp_Clock_noteDone {o : Nat} {a0 : Int32} {h : jm_H} {r : jm_Rs} (H :
  ((h.1 0 o 9) = (-2) →
    r = (none, (jm_sI (jm_sI h 0 o 4 ((h.1 0 o 4) + 1)) 0 o 9 a0))) ∧
  (¬ ((h.1 0 o 9) = (-2)) →
    ((h.1 0 o 9) ≤ a0 →
      r = (none, (jm_sI h 0 o 4 ((h.1 0 o 4) + 1)))) ∧
    (¬ ((h.1 0 o 9) ≤ a0) →
      r = (none, (jm_sI (jm_sI h 0 o 4 ((h.1 0 o 4) + 1)) 0 o 9 a0))))) : jm_R 208 [jm_r 0 o, jm_i a0] h r := by
  refine jm_R_of hz_208 (Nat.le_of_ble_eq_true rfl) ?_
  show jm_E cod_208 (0, [some (jm_r 0 o), some (jm_i a0)], [], h) r
  refine jm_E_n 10 (x' := (if (h.1 0 o 9) = (-2) then 14 else 10, [some (jm_r 0 o), some (jm_i a0)], [], (jm_sI h 0 o 4 ((h.1 0 o 4) + 1)))) rfl ?_
  refine jm_E_ite (fun hc => ?_) (fun hc => ?_)
  · replace H := H.1 hc
    refine jm_E_n 3 (x' := (17, [some (jm_r 0 o), some (jm_i a0)], [], (jm_sI (jm_sI h 0 o 4 ((h.1 0 o 4) + 1)) 0 o 9 a0))) rfl ?_
    exact jm_E_ret rfl (by rw [H]; rfl)
  · replace H := H.2 hc
    refine jm_E_n 4 (x' := (if (h.1 0 o 9) ≤ a0 then 17 else 14, [some (jm_r 0 o), some (jm_i a0)], [], (jm_sI h 0 o 4 ((h.1 0 o 4) + 1)))) rfl ?_
    refine jm_E_ite (fun hc => ?_) (fun hc => ?_)
    · replace H := H.1 hc
      exact jm_E_ret rfl (by rw [H]; rfl)
    · replace H := H.2 hc
      refine jm_E_n 3 (x' := (17, [some (jm_r 0 o), some (jm_i a0)], [], (jm_sI (jm_sI h 0 o 4 ((h.1 0 o 4) + 1)) 0 o 9 a0))) rfl ?_
      exact jm_E_ret rfl (by rw [H]; rfl)
set_option maxRecDepth 100000 in
theorem wp_Clock_removeFirst_2 {x0 : Nat} {x1 : Int32} {x2 : Int32} {h : jm_H} {r : jm_Rs} (H :
  ((h.1 0 x0 3) ≤ x2 →
    r = (none, (jm_sI h 0 x0 3 ((h.1 0 x0 3) - x1)))) ∧
  (¬ ((h.1 0 x0 3) ≤ x2) →
    jm_in x2 8 ∧
    jm_in (x2 - x1) 8 ∧
    jm_in x2 8 ∧
    jm_in (x2 - x1) 8 ∧
    l_Clock_removeFirst_2 x0 x1 (x2 + 1) (jm_sI (jm_sI h 10 x0 ((x2 - x1).toNatClampNeg) (h.1 10 x0 x2.toNatClampNeg)) 11 x0 ((x2 - x1).toNatClampNeg) (h.1 11 x0 x2.toNatClampNeg)) r)) : l_Clock_removeFirst_2 x0 x1 x2 h r := by
  refine jm_E_n 4 (x' := (if (h.1 0 x0 3) ≤ x2 then 28 else 6, [some (jm_r 0 x0), some (jm_i x1), some (jm_i x2)], [], h)) rfl ?_
  refine jm_E_ite (fun hc => ?_) (fun hc => ?_)
  · replace H := H.1 hc
    refine jm_E_n 6 (x' := (34, [some (jm_r 0 x0), some (jm_i x1), some (jm_i x2)], [], (jm_sI h 0 x0 3 ((h.1 0 x0 3) - x1)))) rfl ?_
    exact jm_E_ret rfl (by rw [H]; rfl)
  · replace H := H.2 hc
    refine jm_E_n 8 (x' := (14, [some (jm_r 0 x0), some (jm_i x1), some (jm_i x2)], [jm_i x2, jm_r 10 x0, jm_i (x2 - x1), jm_r 10 x0], h)) rfl ?_
    refine jm_E_iald rfl rfl H.1 ?_
    replace H := H.2
    refine jm_E_eq (x := (15, [some (jm_r 0 x0), some (jm_i x1), some (jm_i x2)], [jm_i (h.1 10 x0 x2.toNatClampNeg), jm_i (x2 - x1), jm_r 10 x0], h)) rfl ?_
    refine jm_E_iast rfl rfl H.1 ?_
    replace H := H.2
    refine jm_E_eq (x := (16, [some (jm_r 0 x0), some (jm_i x1), some (jm_i x2)], [], (jm_sI h 10 x0 ((x2 - x1).toNatClampNeg) (h.1 10 x0 x2.toNatClampNeg)))) rfl ?_
    refine jm_E_n 8 (x' := (24, [some (jm_r 0 x0), some (jm_i x1), some (jm_i x2)], [jm_i x2, jm_r 11 x0, jm_i (x2 - x1), jm_r 11 x0], (jm_sI h 10 x0 ((x2 - x1).toNatClampNeg) (h.1 10 x0 x2.toNatClampNeg)))) rfl ?_
    refine jm_E_iald rfl rfl H.1 ?_
    replace H := H.2
    refine jm_E_eq (x := (25, [some (jm_r 0 x0), some (jm_i x1), some (jm_i x2)], [jm_i (h.1 11 x0 x2.toNatClampNeg), jm_i (x2 - x1), jm_r 11 x0], (jm_sI h 10 x0 ((x2 - x1).toNatClampNeg) (h.1 10 x0 x2.toNatClampNeg)))) rfl ?_
    refine jm_E_iast rfl rfl H.1 ?_
    replace H := H.2
    refine jm_E_eq (x := (26, [some (jm_r 0 x0), some (jm_i x1), some (jm_i x2)], [], (jm_sI (jm_sI h 10 x0 ((x2 - x1).toNatClampNeg) (h.1 10 x0 x2.toNatClampNeg)) 11 x0 ((x2 - x1).toNatClampNeg) (h.1 11 x0 x2.toNatClampNeg)))) rfl ?_
    refine jm_E_n 2 (x' := (2, [some (jm_r 0 x0), some (jm_i x1), some (jm_i (x2 + 1))], [], (jm_sI (jm_sI h 10 x0 ((x2 - x1).toNatClampNeg) (h.1 10 x0 x2.toNatClampNeg)) 11 x0 ((x2 - x1).toNatClampNeg) (h.1 11 x0 x2.toNatClampNeg)))) rfl ?_
    exact H
set_option maxRecDepth 100000 in
theorem wp_Clock_removeFirst {o : Nat} {a0 : Int32} {h : jm_H} {r : jm_Rs} (H :
  l_Clock_removeFirst_2 o a0 a0 h r) : jm_R 209 [jm_r 0 o, jm_i a0] h r := by
  refine jm_R_of hz_209 (Nat.le_of_ble_eq_true rfl) ?_
  show jm_E cod_209 (0, [some (jm_r 0 o), some (jm_i a0), none], [], h) r
  refine jm_E_n 2 (x' := (2, [some (jm_r 0 o), some (jm_i a0), some (jm_i a0)], [], h)) rfl ?_
  exact H
set_option maxRecDepth 100000 in
theorem wp_Clock_switchIfTime {o : Nat} {h : jm_H} {r : jm_Rs} (H :
  ∃ (v1 : Int32) (h1 : jm_H), m_Clock_hasSwitch o h v1 h1 ∧
  (v1 = 0 →
    r = (none, h1)) ∧
  (¬ (v1 = 0) →
    ((h1.1 0 o 8) = (h1.1 0 o 0) →
      r = (none, (jm_sI (jm_sI (jm_sI (jm_sI h1 0 o 1 (h1.1 0 o 7)) 0 o 2 0) 0 o 7 (-2)) 0 o 8 (-2)))) ∧
    (¬ ((h1.1 0 o 8) = (h1.1 0 o 0)) →
      r = (none, h1)))) : jm_R 210 [jm_r 0 o] h r := by
  refine jm_R_of hz_210 (Nat.le_of_ble_eq_true rfl) ?_
  show jm_E cod_210 (0, [some (jm_r 0 o)], [], h) r
  refine jm_E_n 1 (x' := (1, [some (jm_r 0 o)], [jm_r 0 o], h)) rfl ?_
  obtain ⟨v1, h1, hR, H⟩ := H
  refine jm_E_call rfl (Nat.le_of_ble_eq_true rfl) (Nat.le_of_ble_eq_true rfl) rfl hR trivial ?_
  refine jm_E_eq (x := (2, [some (jm_r 0 o)], [jm_i v1], h1)) rfl ?_
  refine jm_E_n 1 (x' := (if v1 = 0 then 21 else 3, [some (jm_r 0 o)], [], h1)) rfl ?_
  refine jm_E_ite (fun hc => ?_) (fun hc => ?_)
  · replace H := H.1 hc
    exact jm_E_ret rfl (by rw [H]; rfl)
  · replace H := H.2 hc
    refine jm_E_n 5 (x' := (if (h1.1 0 o 8) = (h1.1 0 o 0) then 8 else 21, [some (jm_r 0 o)], [], h1)) rfl ?_
    refine jm_E_ite (fun hc => ?_) (fun hc => ?_)
    · replace H := H.1 hc
      refine jm_E_n 13 (x' := (21, [some (jm_r 0 o)], [], (jm_sI (jm_sI (jm_sI (jm_sI h1 0 o 1 (h1.1 0 o 7)) 0 o 2 0) 0 o 7 (-2)) 0 o 8 (-2)))) rfl ?_
      exact jm_E_ret rfl (by rw [H]; rfl)
    · replace H := H.2 hc
      exact jm_E_ret rfl (by rw [H]; rfl)
set_option maxRecDepth 100000 in
theorem wp_Clock_advance_26 {x0 : Nat} {x4 : Int32} {x5 : Int32} {x6 : Int32} {h : jm_H} {r : jm_Rs} (H :
  ((h.1 0 x0 3) ≤ x6 →
    ∃ h1 : jm_H, m_Clock_removeFirst x0 x5 h h1 ∧
    ∃ h2 : jm_H, m_Clock_switchIfTime x0 h1 h2 ∧
    r = (none, h2)) ∧
  (¬ ((h.1 0 x0 3) ≤ x6) →
    jm_in x6 8 ∧
    jm_in x6 8 ∧
    jm_in x6 8 ∧
    jm_in x6 8 ∧
    (((jm_sI h 10 x0 x6.toNatClampNeg ((h.1 10 x0 x6.toNatClampNeg) - (if (h.1 10 x0 x6.toNatClampNeg) < x4 then (h.1 10 x0 x6.toNatClampNeg) else x4))).1 10 x0 x6.toNatClampNeg) = 0 →
      jm_in x6 8 ∧
      ∃ h3 : jm_H, m_Clock_noteDone x0 ((h.1 11 x0 x6.toNatClampNeg) - (h.1 0 x0 0)) (jm_sI h 10 x0 x6.toNatClampNeg ((h.1 10 x0 x6.toNatClampNeg) - (if (h.1 10 x0 x6.toNatClampNeg) < x4 then (h.1 10 x0 x6.toNatClampNeg) else x4))) h3 ∧
      l_Clock_advance_26 x0 (x4 - (if (h.1 10 x0 x6.toNatClampNeg) < x4 then (h.1 10 x0 x6.toNatClampNeg) else x4)) (x5 + 1) (x6 + 1) h3 r) ∧
    (¬ (((jm_sI h 10 x0 x6.toNatClampNeg ((h.1 10 x0 x6.toNatClampNeg) - (if (h.1 10 x0 x6.toNatClampNeg) < x4 then (h.1 10 x0 x6.toNatClampNeg) else x4))).1 10 x0 x6.toNatClampNeg) = 0) →
      l_Clock_advance_26 x0 (x4 - (if (h.1 10 x0 x6.toNatClampNeg) < x4 then (h.1 10 x0 x6.toNatClampNeg) else x4)) x5 (x6 + 1) (jm_sI h 10 x0 x6.toNatClampNeg ((h.1 10 x0 x6.toNatClampNeg) - (if (h.1 10 x0 x6.toNatClampNeg) < x4 then (h.1 10 x0 x6.toNatClampNeg) else x4))) r))) : l_Clock_advance_26 x0 x4 x5 x6 h r := by
  refine jm_E_n 4 (x' := (if (h.1 0 x0 3) ≤ x6 then 66 else 30, [some (jm_r 0 x0), none, none, none, some (jm_i x4), some (jm_i x5), some (jm_i x6), none], [], h)) rfl ?_
  refine jm_E_ite (fun hc => ?_) (fun hc => ?_)
  · replace H := H.1 hc
    refine jm_E_n 2 (x' := (68, [some (jm_r 0 x0), none, none, none, some (jm_i x4), some (jm_i x5), some (jm_i x6), none], [jm_i x5, jm_r 0 x0], h)) rfl ?_
    obtain ⟨h1, hR, H⟩ := H
    refine jm_E_call rfl (Nat.le_of_ble_eq_true rfl) (Nat.le_of_ble_eq_true rfl) rfl hR trivial ?_
    refine jm_E_eq (x := (69, [some (jm_r 0 x0), none, none, none, some (jm_i x4), some (jm_i x5), some (jm_i x6), none], [], h1)) rfl ?_
    refine jm_E_n 1 (x' := (70, [some (jm_r 0 x0), none, none, none, some (jm_i x4), some (jm_i x5), some (jm_i x6), none], [jm_r 0 x0], h1)) rfl ?_
    obtain ⟨h2, hR, H⟩ := H
    refine jm_E_call rfl (Nat.le_of_ble_eq_true rfl) (Nat.le_of_ble_eq_true rfl) rfl hR trivial ?_
    refine jm_E_eq (x := (71, [some (jm_r 0 x0), none, none, none, some (jm_i x4), some (jm_i x5), some (jm_i x6), none], [], h2)) rfl ?_
    exact jm_E_ret rfl (by rw [H]; rfl)
  · replace H := H.2 hc
    refine jm_E_n 4 (x' := (34, [some (jm_r 0 x0), none, none, none, some (jm_i x4), some (jm_i x5), some (jm_i x6), none], [jm_i x6, jm_r 10 x0, jm_i x4], h)) rfl ?_
    refine jm_E_iald rfl rfl H.1 ?_
    replace H := H.2
    refine jm_E_eq (x := (35, [some (jm_r 0 x0), none, none, none, some (jm_i x4), some (jm_i x5), some (jm_i x6), none], [jm_i (h.1 10 x0 x6.toNatClampNeg), jm_i x4], h)) rfl ?_
    refine jm_E_n 6 (x' := (41, [some (jm_r 0 x0), none, none, none, some (jm_i x4), some (jm_i x5), some (jm_i x6), some (jm_i (if (h.1 10 x0 x6.toNatClampNeg) < x4 then (h.1 10 x0 x6.toNatClampNeg) else x4))], [jm_i x6, jm_r 10 x0, jm_i x6, jm_r 10 x0], h)) rfl ?_
    refine jm_E_iald rfl rfl H.1 ?_
    replace H := H.2
    refine jm_E_eq (x := (42, [some (jm_r 0 x0), none, none, none, some (jm_i x4), some (jm_i x5), some (jm_i x6), some (jm_i (if (h.1 10 x0 x6.toNatClampNeg) < x4 then (h.1 10 x0 x6.toNatClampNeg) else x4))], [jm_i (h.1 10 x0 x6.toNatClampNeg), jm_i x6, jm_r 10 x0], h)) rfl ?_
    refine jm_E_n 2 (x' := (44, [some (jm_r 0 x0), none, none, none, some (jm_i x4), some (jm_i x5), some (jm_i x6), some (jm_i (if (h.1 10 x0 x6.toNatClampNeg) < x4 then (h.1 10 x0 x6.toNatClampNeg) else x4))], [jm_i ((h.1 10 x0 x6.toNatClampNeg) - (if (h.1 10 x0 x6.toNatClampNeg) < x4 then (h.1 10 x0 x6.toNatClampNeg) else x4)), jm_i x6, jm_r 10 x0], h)) rfl ?_
    refine jm_E_iast rfl rfl H.1 ?_
    replace H := H.2
    refine jm_E_eq (x := (45, [some (jm_r 0 x0), none, none, none, some (jm_i x4), some (jm_i x5), some (jm_i x6), some (jm_i (if (h.1 10 x0 x6.toNatClampNeg) < x4 then (h.1 10 x0 x6.toNatClampNeg) else x4))], [], (jm_sI h 10 x0 x6.toNatClampNeg ((h.1 10 x0 x6.toNatClampNeg) - (if (h.1 10 x0 x6.toNatClampNeg) < x4 then (h.1 10 x0 x6.toNatClampNeg) else x4))))) rfl ?_
    refine jm_E_n 7 (x' := (52, [some (jm_r 0 x0), none, none, none, some (jm_i (x4 - (if (h.1 10 x0 x6.toNatClampNeg) < x4 then (h.1 10 x0 x6.toNatClampNeg) else x4))), some (jm_i x5), some (jm_i x6), some (jm_i (if (h.1 10 x0 x6.toNatClampNeg) < x4 then (h.1 10 x0 x6.toNatClampNeg) else x4))], [jm_i x6, jm_r 10 x0], (jm_sI h 10 x0 x6.toNatClampNeg ((h.1 10 x0 x6.toNatClampNeg) - (if (h.1 10 x0 x6.toNatClampNeg) < x4 then (h.1 10 x0 x6.toNatClampNeg) else x4))))) rfl ?_
    refine jm_E_iald rfl rfl H.1 ?_
    replace H := H.2
    refine jm_E_eq (x := (53, [some (jm_r 0 x0), none, none, none, some (jm_i (x4 - (if (h.1 10 x0 x6.toNatClampNeg) < x4 then (h.1 10 x0 x6.toNatClampNeg) else x4))), some (jm_i x5), some (jm_i x6), some (jm_i (if (h.1 10 x0 x6.toNatClampNeg) < x4 then (h.1 10 x0 x6.toNatClampNeg) else x4))], [jm_i ((jm_sI h 10 x0 x6.toNatClampNeg ((h.1 10 x0 x6.toNatClampNeg) - (if (h.1 10 x0 x6.toNatClampNeg) < x4 then (h.1 10 x0 x6.toNatClampNeg) else x4))).1 10 x0 x6.toNatClampNeg)], (jm_sI h 10 x0 x6.toNatClampNeg ((h.1 10 x0 x6.toNatClampNeg) - (if (h.1 10 x0 x6.toNatClampNeg) < x4 then (h.1 10 x0 x6.toNatClampNeg) else x4))))) rfl ?_
    refine jm_E_n 1 (x' := (if ((jm_sI h 10 x0 x6.toNatClampNeg ((h.1 10 x0 x6.toNatClampNeg) - (if (h.1 10 x0 x6.toNatClampNeg) < x4 then (h.1 10 x0 x6.toNatClampNeg) else x4))).1 10 x0 x6.toNatClampNeg) = 0 then 54 else 64, [some (jm_r 0 x0), none, none, none, some (jm_i (x4 - (if (h.1 10 x0 x6.toNatClampNeg) < x4 then (h.1 10 x0 x6.toNatClampNeg) else x4))), some (jm_i x5), some (jm_i x6), some (jm_i (if (h.1 10 x0 x6.toNatClampNeg) < x4 then (h.1 10 x0 x6.toNatClampNeg) else x4))], [], (jm_sI h 10 x0 x6.toNatClampNeg ((h.1 10 x0 x6.toNatClampNeg) - (if (h.1 10 x0 x6.toNatClampNeg) < x4 then (h.1 10 x0 x6.toNatClampNeg) else x4))))) rfl ?_
    refine jm_E_ite (fun hc => ?_) (fun hc => ?_)
    · replace H := H.1 hc
      refine jm_E_n 4 (x' := (58, [some (jm_r 0 x0), none, none, none, some (jm_i (x4 - (if (h.1 10 x0 x6.toNatClampNeg) < x4 then (h.1 10 x0 x6.toNatClampNeg) else x4))), some (jm_i x5), some (jm_i x6), some (jm_i (if (h.1 10 x0 x6.toNatClampNeg) < x4 then (h.1 10 x0 x6.toNatClampNeg) else x4))], [jm_i x6, jm_r 11 x0, jm_r 0 x0], (jm_sI h 10 x0 x6.toNatClampNeg ((h.1 10 x0 x6.toNatClampNeg) - (if (h.1 10 x0 x6.toNatClampNeg) < x4 then (h.1 10 x0 x6.toNatClampNeg) else x4))))) rfl ?_
      refine jm_E_iald rfl rfl H.1 ?_
      replace H := H.2
      refine jm_E_eq (x := (59, [some (jm_r 0 x0), none, none, none, some (jm_i (x4 - (if (h.1 10 x0 x6.toNatClampNeg) < x4 then (h.1 10 x0 x6.toNatClampNeg) else x4))), some (jm_i x5), some (jm_i x6), some (jm_i (if (h.1 10 x0 x6.toNatClampNeg) < x4 then (h.1 10 x0 x6.toNatClampNeg) else x4))], [jm_i (h.1 11 x0 x6.toNatClampNeg), jm_r 0 x0], (jm_sI h 10 x0 x6.toNatClampNeg ((h.1 10 x0 x6.toNatClampNeg) - (if (h.1 10 x0 x6.toNatClampNeg) < x4 then (h.1 10 x0 x6.toNatClampNeg) else x4))))) rfl ?_
      refine jm_E_n 3 (x' := (62, [some (jm_r 0 x0), none, none, none, some (jm_i (x4 - (if (h.1 10 x0 x6.toNatClampNeg) < x4 then (h.1 10 x0 x6.toNatClampNeg) else x4))), some (jm_i x5), some (jm_i x6), some (jm_i (if (h.1 10 x0 x6.toNatClampNeg) < x4 then (h.1 10 x0 x6.toNatClampNeg) else x4))], [jm_i ((h.1 11 x0 x6.toNatClampNeg) - (h.1 0 x0 0)), jm_r 0 x0], (jm_sI h 10 x0 x6.toNatClampNeg ((h.1 10 x0 x6.toNatClampNeg) - (if (h.1 10 x0 x6.toNatClampNeg) < x4 then (h.1 10 x0 x6.toNatClampNeg) else x4))))) rfl ?_
      obtain ⟨h3, hR, H⟩ := H
      refine jm_E_call rfl (Nat.le_of_ble_eq_true rfl) (Nat.le_of_ble_eq_true rfl) rfl hR trivial ?_
      refine jm_E_eq (x := (63, [some (jm_r 0 x0), none, none, none, some (jm_i (x4 - (if (h.1 10 x0 x6.toNatClampNeg) < x4 then (h.1 10 x0 x6.toNatClampNeg) else x4))), some (jm_i x5), some (jm_i x6), some (jm_i (if (h.1 10 x0 x6.toNatClampNeg) < x4 then (h.1 10 x0 x6.toNatClampNeg) else x4))], [], h3)) rfl ?_
      refine jm_E_n 3 (x' := (26, [some (jm_r 0 x0), none, none, none, some (jm_i (x4 - (if (h.1 10 x0 x6.toNatClampNeg) < x4 then (h.1 10 x0 x6.toNatClampNeg) else x4))), some (jm_i (x5 + 1)), some (jm_i (x6 + 1)), some (jm_i (if (h.1 10 x0 x6.toNatClampNeg) < x4 then (h.1 10 x0 x6.toNatClampNeg) else x4))], [], h3)) rfl ?_
      exact jm_E_weak (jm_le_s (jm_le_n (jm_le_n (jm_le_n (jm_le_s (jm_le_s (jm_le_s (jm_le_n jm_le_nil)))))))) H
    · replace H := H.2 hc
      refine jm_E_n 2 (x' := (26, [some (jm_r 0 x0), none, none, none, some (jm_i (x4 - (if (h.1 10 x0 x6.toNatClampNeg) < x4 then (h.1 10 x0 x6.toNatClampNeg) else x4))), some (jm_i x5), some (jm_i (x6 + 1)), some (jm_i (if (h.1 10 x0 x6.toNatClampNeg) < x4 then (h.1 10 x0 x6.toNatClampNeg) else x4))], [], (jm_sI h 10 x0 x6.toNatClampNeg ((h.1 10 x0 x6.toNatClampNeg) - (if (h.1 10 x0 x6.toNatClampNeg) < x4 then (h.1 10 x0 x6.toNatClampNeg) else x4))))) rfl ?_
      exact jm_E_weak (jm_le_s (jm_le_n (jm_le_n (jm_le_n (jm_le_s (jm_le_s (jm_le_s (jm_le_n jm_le_nil)))))))) H
set_option maxRecDepth 100000 in
theorem wp_Clock_advance {o : Nat} {a0 : Int32} {a1 : Int32} {a2 : Int32} {h : jm_H} {r : jm_Rs} (H :
  (a2 ≤ ((h.1 0 o 2) + 1) →
    l_Clock_advance_26 o a0 0 0 (jm_sI (jm_sI h 0 o 0 ((h.1 0 o 0) + a1)) 0 o 2 0) r) ∧
  (¬ (a2 ≤ ((h.1 0 o 2) + 1)) →
    l_Clock_advance_26 o a0 0 0 (jm_sI (jm_sI h 0 o 0 ((h.1 0 o 0) + a1)) 0 o 2 ((h.1 0 o 2) + 1)) r)) : jm_R 207 [jm_r 0 o, jm_i a0, jm_i a1, jm_i a2] h r := by
  refine jm_R_of hz_207 (Nat.le_of_ble_eq_true rfl) ?_
  show jm_E cod_207 (0, [some (jm_r 0 o), some (jm_i a0), some (jm_i a1), some (jm_i a2), none, none, none, none], [], h) r
  refine jm_E_n 13 (x' := (if a2 ≤ ((h.1 0 o 2) + 1) then 18 else 13, [some (jm_r 0 o), some (jm_i a0), some (jm_i a1), some (jm_i a2), none, none, none, none], [jm_r 0 o], (jm_sI h 0 o 0 ((h.1 0 o 0) + a1)))) rfl ?_
  refine jm_E_ite (fun hc => ?_) (fun hc => ?_)
  · replace H := H.1 hc
    refine jm_E_n 8 (x' := (26, [some (jm_r 0 o), some (jm_i a0), some (jm_i a1), some (jm_i a2), some (jm_i a0), some (jm_i 0), some (jm_i 0), none], [], (jm_sI (jm_sI h 0 o 0 ((h.1 0 o 0) + a1)) 0 o 2 0))) rfl ?_
    exact jm_E_weak (jm_le_s (jm_le_n (jm_le_n (jm_le_n (jm_le_s (jm_le_s (jm_le_s (jm_le_n jm_le_nil)))))))) H
  · replace H := H.2 hc
    refine jm_E_n 12 (x' := (26, [some (jm_r 0 o), some (jm_i a0), some (jm_i a1), some (jm_i a2), some (jm_i a0), some (jm_i 0), some (jm_i 0), none], [], (jm_sI (jm_sI h 0 o 0 ((h.1 0 o 0) + a1)) 0 o 2 ((h.1 0 o 2) + 1)))) rfl ?_
    exact jm_E_weak (jm_le_s (jm_le_n (jm_le_n (jm_le_n (jm_le_s (jm_le_s (jm_le_s (jm_le_n jm_le_nil)))))))) H
set_option maxRecDepth 100000 in
theorem wp_FR_goThroughFrame {a0 : Int32} {h : jm_H} {r : jm_Rs} (H :
  jm_in (h.1 0 0 1) 3 ∧
  jm_in (h.1 0 0 2) 24 ∧
  ∃ h1 : jm_H, m_Clock_advance 0 ((h.1 19 (3 * 0 + (h.1 0 0 1).toNatClampNeg) ((h.1 0 0 2).toNatClampNeg)) - a0) (h.1 1 (3 * 0 + (h.1 0 0 1).toNatClampNeg) 0) (h.1 1 (3 * 0 + (h.1 0 0 1).toNatClampNeg) 2) h h1 ∧
  r = (none, h1)) : jm_R 71 [jm_r 7 0, jm_i a0] h r := by
  refine jm_R_of hz_71 (Nat.le_of_ble_eq_true rfl) ?_
  show jm_E cod_71 (0, [some (jm_r 7 0), some (jm_i a0), none], [], h) r
  refine jm_E_n 5 (x' := (5, [some (jm_r 7 0), some (jm_i a0), none], [jm_i (h.1 0 0 1), jm_r 32 0], h)) rfl ?_
  refine jm_E_aald rfl rfl H.1 ?_
  replace H := H.2
  refine jm_E_eq (x := (6, [some (jm_r 7 0), some (jm_i a0), none], [jm_r 6 (3 * 0 + (h.1 0 0 1).toNatClampNeg)], h)) rfl ?_
  refine jm_E_n 9 (x' := (15, [some (jm_r 7 0), some (jm_i a0), some (jm_r 1 (3 * 0 + (h.1 0 0 1).toNatClampNeg))], [jm_i (h.1 0 0 2), jm_r 19 (3 * 0 + (h.1 0 0 1).toNatClampNeg), jm_r 0 0], h)) rfl ?_
  refine jm_E_iald rfl rfl H.1 ?_
  replace H := H.2
  refine jm_E_eq (x := (16, [some (jm_r 7 0), some (jm_i a0), some (jm_r 1 (3 * 0 + (h.1 0 0 1).toNatClampNeg))], [jm_i (h.1 19 (3 * 0 + (h.1 0 0 1).toNatClampNeg) ((h.1 0 0 2).toNatClampNeg)), jm_r 0 0], h)) rfl ?_
  refine jm_E_n 6 (x' := (22, [some (jm_r 7 0), some (jm_i a0), some (jm_r 1 (3 * 0 + (h.1 0 0 1).toNatClampNeg))], [jm_i (h.1 1 (3 * 0 + (h.1 0 0 1).toNatClampNeg) 2), jm_i (h.1 1 (3 * 0 + (h.1 0 0 1).toNatClampNeg) 0), jm_i ((h.1 19 (3 * 0 + (h.1 0 0 1).toNatClampNeg) ((h.1 0 0 2).toNatClampNeg)) - a0), jm_r 0 0], h)) rfl ?_
  obtain ⟨h1, hR, H⟩ := H
  refine jm_E_call rfl (Nat.le_of_ble_eq_true rfl) (Nat.le_of_ble_eq_true rfl) rfl hR trivial ?_
  refine jm_E_eq (x := (23, [some (jm_r 7 0), some (jm_i a0), some (jm_r 1 (3 * 0 + (h.1 0 0 1).toNatClampNeg))], [], h1)) rfl ?_
  exact jm_E_ret rfl (by rw [H]; rfl)
set_option maxRecDepth 100000 in
theorem wp_FR_step {a0 : Int32} {h : jm_H} {r : jm_Rs} (H :
  (a0 < 0 →
    ∃ (v1 : Int32) (h1 : jm_H), m_FR_clockRefusal 0 h v1 h1 ∧
    (v1 = 0 →
      (a0 = 0 →
        ∃ h2 : jm_H, m_FR_goThroughFrame 0 (jm_sI (jm_sI h1 0 0 5 ((h1.1 0 0 5) + 0)) 0 0 6 ((h1.1 0 0 6) + (a0 - 0))) h2 ∧
        ∃ (v3 : Int32) (h3 : jm_H), m_FR_answered 0 h2 v3 h3 ∧
        r = (some (jm_i v3), h3)) ∧
      (¬ (a0 = 0) →
        ∃ (v4 : Int32) (h4 : jm_H), m_FR_spareNow h1 v4 h4 ∧
        ∃ h5 : jm_H, m_FR_goThroughFrame (if v4 < a0 then v4 else a0) (jm_sI (jm_sI h4 0 0 5 ((h4.1 0 0 5) + (if v4 < a0 then v4 else a0))) 0 0 6 ((h4.1 0 0 6) + (a0 - (if v4 < a0 then v4 else a0)))) h5 ∧
        ∃ (v6 : Int32) (h6 : jm_H), m_FR_answered (if v4 < a0 then v4 else a0) h5 v6 h6 ∧
        r = (some (jm_i v6), h6))) ∧
    (¬ (v1 = 0) →
      ∃ (v7 : Int32) (h7 : jm_H), m_FR_refused v1 h1 v7 h7 ∧
      r = (some (jm_i v7), h7))) ∧
  (¬ (a0 < 0) →
    (99 < a0 →
      ∃ (v8 : Int32) (h8 : jm_H), m_FR_clockRefusal 0 h v8 h8 ∧
      (v8 = 0 →
        (a0 = 0 →
          ∃ h9 : jm_H, m_FR_goThroughFrame 0 (jm_sI (jm_sI h8 0 0 5 ((h8.1 0 0 5) + 0)) 0 0 6 ((h8.1 0 0 6) + (a0 - 0))) h9 ∧
          ∃ (v10 : Int32) (h10 : jm_H), m_FR_answered 0 h9 v10 h10 ∧
          r = (some (jm_i v10), h10)) ∧
        (¬ (a0 = 0) →
          ∃ (v11 : Int32) (h11 : jm_H), m_FR_spareNow h8 v11 h11 ∧
          ∃ h12 : jm_H, m_FR_goThroughFrame (if v11 < a0 then v11 else a0) (jm_sI (jm_sI h11 0 0 5 ((h11.1 0 0 5) + (if v11 < a0 then v11 else a0))) 0 0 6 ((h11.1 0 0 6) + (a0 - (if v11 < a0 then v11 else a0)))) h12 ∧
          ∃ (v13 : Int32) (h13 : jm_H), m_FR_answered (if v11 < a0 then v11 else a0) h12 v13 h13 ∧
          r = (some (jm_i v13), h13))) ∧
      (¬ (v8 = 0) →
        ∃ (v14 : Int32) (h14 : jm_H), m_FR_refused v8 h8 v14 h14 ∧
        r = (some (jm_i v14), h14))) ∧
    (¬ (99 < a0) →
      ∃ (v15 : Int32) (h15 : jm_H), m_FR_clockRefusal 1 h v15 h15 ∧
      (v15 = 0 →
        (a0 = 0 →
          ∃ h16 : jm_H, m_FR_goThroughFrame 0 (jm_sI (jm_sI h15 0 0 5 ((h15.1 0 0 5) + 0)) 0 0 6 ((h15.1 0 0 6) + (a0 - 0))) h16 ∧
          ∃ (v17 : Int32) (h17 : jm_H), m_FR_answered 0 h16 v17 h17 ∧
          r = (some (jm_i v17), h17)) ∧
        (¬ (a0 = 0) →
          ∃ (v18 : Int32) (h18 : jm_H), m_FR_spareNow h15 v18 h18 ∧
          ∃ h19 : jm_H, m_FR_goThroughFrame (if v18 < a0 then v18 else a0) (jm_sI (jm_sI h18 0 0 5 ((h18.1 0 0 5) + (if v18 < a0 then v18 else a0))) 0 0 6 ((h18.1 0 0 6) + (a0 - (if v18 < a0 then v18 else a0)))) h19 ∧
          ∃ (v20 : Int32) (h20 : jm_H), m_FR_answered (if v18 < a0 then v18 else a0) h19 v20 h20 ∧
          r = (some (jm_i v20), h20))) ∧
      (¬ (v15 = 0) →
        ∃ (v21 : Int32) (h21 : jm_H), m_FR_refused v15 h15 v21 h21 ∧
        r = (some (jm_i v21), h21))))) : jm_R 53 [jm_r 7 0, jm_i a0] h r := by
  refine jm_R_of hz_53 (Nat.le_of_ble_eq_true rfl) ?_
  show jm_E cod_53 (0, [some (jm_r 7 0), some (jm_i a0), none, none], [], h) r
  refine jm_E_n 3 (x' := (if a0 < 0 then 8 else 3, [some (jm_r 7 0), some (jm_i a0), none, none], [jm_r 7 0], h)) rfl ?_
  refine jm_E_ite (fun hc => ?_) (fun hc => ?_)
  · replace H := H.1 hc
    refine jm_E_n 1 (x' := (9, [some (jm_r 7 0), some (jm_i a0), none, none], [jm_i 0, jm_r 7 0], h)) rfl ?_
    obtain ⟨v1, h1, hR, H⟩ := H
    refine jm_E_call rfl (Nat.le_of_ble_eq_true rfl) (Nat.le_of_ble_eq_true rfl) rfl hR trivial ?_
    refine jm_E_eq (x := (10, [some (jm_r 7 0), some (jm_i a0), none, none], [jm_i v1], h1)) rfl ?_
    refine jm_E_n 3 (x' := (if v1 = 0 then 17 else 13, [some (jm_r 7 0), some (jm_i a0), some (jm_i v1), none], [], h1)) rfl ?_
    refine jm_E_ite (fun hc => ?_) (fun hc => ?_)
    · replace H := H.1 hc
      refine jm_E_n 2 (x' := (if a0 = 0 then 19 else 21, [some (jm_r 7 0), some (jm_i a0), some (jm_i v1), none], [], h1)) rfl ?_
      refine jm_E_ite (fun hc => ?_) (fun hc => ?_)
      · replace H := H.1 hc
        refine jm_E_n 21 (x' := (44, [some (jm_r 7 0), some (jm_i a0), some (jm_i v1), some (jm_i 0)], [jm_i 0, jm_r 7 0], (jm_sI (jm_sI h1 0 0 5 ((h1.1 0 0 5) + 0)) 0 0 6 ((h1.1 0 0 6) + (a0 - 0))))) rfl ?_
        obtain ⟨h2, hR, H⟩ := H
        refine jm_E_call rfl (Nat.le_of_ble_eq_true rfl) (Nat.le_of_ble_eq_true rfl) rfl hR trivial ?_
        refine jm_E_eq (x := (45, [some (jm_r 7 0), some (jm_i a0), some (jm_i v1), some (jm_i 0)], [], h2)) rfl ?_
        refine jm_E_n 2 (x' := (47, [some (jm_r 7 0), some (jm_i a0), some (jm_i v1), some (jm_i 0)], [jm_i 0, jm_r 7 0], h2)) rfl ?_
        obtain ⟨v3, h3, hR, H⟩ := H
        refine jm_E_call rfl (Nat.le_of_ble_eq_true rfl) (Nat.le_of_ble_eq_true rfl) rfl hR trivial ?_
        refine jm_E_eq (x := (48, [some (jm_r 7 0), some (jm_i a0), some (jm_i v1), some (jm_i 0)], [jm_i v3], h3)) rfl ?_
        exact jm_E_ret rfl (by rw [H]; rfl)
      · replace H := H.2 hc
        refine jm_E_n 2 (x' := (23, [some (jm_r 7 0), some (jm_i a0), some (jm_i v1), none], [jm_r 7 0, jm_i a0], h1)) rfl ?_
        obtain ⟨v4, h4, hR, H⟩ := H
        refine jm_E_call rfl (Nat.le_of_ble_eq_true rfl) (Nat.le_of_ble_eq_true rfl) rfl hR trivial ?_
        refine jm_E_eq (x := (24, [some (jm_r 7 0), some (jm_i a0), some (jm_i v1), none], [jm_i v4, jm_i a0], h4)) rfl ?_
        refine jm_E_n 20 (x' := (44, [some (jm_r 7 0), some (jm_i a0), some (jm_i v1), some (jm_i (if v4 < a0 then v4 else a0))], [jm_i (if v4 < a0 then v4 else a0), jm_r 7 0], (jm_sI (jm_sI h4 0 0 5 ((h4.1 0 0 5) + (if v4 < a0 then v4 else a0))) 0 0 6 ((h4.1 0 0 6) + (a0 - (if v4 < a0 then v4 else a0)))))) rfl ?_
        obtain ⟨h5, hR, H⟩ := H
        refine jm_E_call rfl (Nat.le_of_ble_eq_true rfl) (Nat.le_of_ble_eq_true rfl) rfl hR trivial ?_
        refine jm_E_eq (x := (45, [some (jm_r 7 0), some (jm_i a0), some (jm_i v1), some (jm_i (if v4 < a0 then v4 else a0))], [], h5)) rfl ?_
        refine jm_E_n 2 (x' := (47, [some (jm_r 7 0), some (jm_i a0), some (jm_i v1), some (jm_i (if v4 < a0 then v4 else a0))], [jm_i (if v4 < a0 then v4 else a0), jm_r 7 0], h5)) rfl ?_
        obtain ⟨v6, h6, hR, H⟩ := H
        refine jm_E_call rfl (Nat.le_of_ble_eq_true rfl) (Nat.le_of_ble_eq_true rfl) rfl hR trivial ?_
        refine jm_E_eq (x := (48, [some (jm_r 7 0), some (jm_i a0), some (jm_i v1), some (jm_i (if v4 < a0 then v4 else a0))], [jm_i v6], h6)) rfl ?_
        exact jm_E_ret rfl (by rw [H]; rfl)
    · replace H := H.2 hc
      refine jm_E_n 2 (x' := (15, [some (jm_r 7 0), some (jm_i a0), some (jm_i v1), none], [jm_i v1, jm_r 7 0], h1)) rfl ?_
      obtain ⟨v7, h7, hR, H⟩ := H
      refine jm_E_call rfl (Nat.le_of_ble_eq_true rfl) (Nat.le_of_ble_eq_true rfl) rfl hR trivial ?_
      refine jm_E_eq (x := (16, [some (jm_r 7 0), some (jm_i a0), some (jm_i v1), none], [jm_i v7], h7)) rfl ?_
      exact jm_E_ret rfl (by rw [H]; rfl)
  · replace H := H.2 hc
    refine jm_E_n 3 (x' := (if 99 < a0 then 8 else 6, [some (jm_r 7 0), some (jm_i a0), none, none], [jm_r 7 0], h)) rfl ?_
    refine jm_E_ite (fun hc => ?_) (fun hc => ?_)
    · replace H := H.1 hc
      refine jm_E_n 1 (x' := (9, [some (jm_r 7 0), some (jm_i a0), none, none], [jm_i 0, jm_r 7 0], h)) rfl ?_
      obtain ⟨v8, h8, hR, H⟩ := H
      refine jm_E_call rfl (Nat.le_of_ble_eq_true rfl) (Nat.le_of_ble_eq_true rfl) rfl hR trivial ?_
      refine jm_E_eq (x := (10, [some (jm_r 7 0), some (jm_i a0), none, none], [jm_i v8], h8)) rfl ?_
      refine jm_E_n 3 (x' := (if v8 = 0 then 17 else 13, [some (jm_r 7 0), some (jm_i a0), some (jm_i v8), none], [], h8)) rfl ?_
      refine jm_E_ite (fun hc => ?_) (fun hc => ?_)
      · replace H := H.1 hc
        refine jm_E_n 2 (x' := (if a0 = 0 then 19 else 21, [some (jm_r 7 0), some (jm_i a0), some (jm_i v8), none], [], h8)) rfl ?_
        refine jm_E_ite (fun hc => ?_) (fun hc => ?_)
        · replace H := H.1 hc
          refine jm_E_n 21 (x' := (44, [some (jm_r 7 0), some (jm_i a0), some (jm_i v8), some (jm_i 0)], [jm_i 0, jm_r 7 0], (jm_sI (jm_sI h8 0 0 5 ((h8.1 0 0 5) + 0)) 0 0 6 ((h8.1 0 0 6) + (a0 - 0))))) rfl ?_
          obtain ⟨h9, hR, H⟩ := H
          refine jm_E_call rfl (Nat.le_of_ble_eq_true rfl) (Nat.le_of_ble_eq_true rfl) rfl hR trivial ?_
          refine jm_E_eq (x := (45, [some (jm_r 7 0), some (jm_i a0), some (jm_i v8), some (jm_i 0)], [], h9)) rfl ?_
          refine jm_E_n 2 (x' := (47, [some (jm_r 7 0), some (jm_i a0), some (jm_i v8), some (jm_i 0)], [jm_i 0, jm_r 7 0], h9)) rfl ?_
          obtain ⟨v10, h10, hR, H⟩ := H
          refine jm_E_call rfl (Nat.le_of_ble_eq_true rfl) (Nat.le_of_ble_eq_true rfl) rfl hR trivial ?_
          refine jm_E_eq (x := (48, [some (jm_r 7 0), some (jm_i a0), some (jm_i v8), some (jm_i 0)], [jm_i v10], h10)) rfl ?_
          exact jm_E_ret rfl (by rw [H]; rfl)
        · replace H := H.2 hc
          refine jm_E_n 2 (x' := (23, [some (jm_r 7 0), some (jm_i a0), some (jm_i v8), none], [jm_r 7 0, jm_i a0], h8)) rfl ?_
          obtain ⟨v11, h11, hR, H⟩ := H
          refine jm_E_call rfl (Nat.le_of_ble_eq_true rfl) (Nat.le_of_ble_eq_true rfl) rfl hR trivial ?_
          refine jm_E_eq (x := (24, [some (jm_r 7 0), some (jm_i a0), some (jm_i v8), none], [jm_i v11, jm_i a0], h11)) rfl ?_
          refine jm_E_n 20 (x' := (44, [some (jm_r 7 0), some (jm_i a0), some (jm_i v8), some (jm_i (if v11 < a0 then v11 else a0))], [jm_i (if v11 < a0 then v11 else a0), jm_r 7 0], (jm_sI (jm_sI h11 0 0 5 ((h11.1 0 0 5) + (if v11 < a0 then v11 else a0))) 0 0 6 ((h11.1 0 0 6) + (a0 - (if v11 < a0 then v11 else a0)))))) rfl ?_
          obtain ⟨h12, hR, H⟩ := H
          refine jm_E_call rfl (Nat.le_of_ble_eq_true rfl) (Nat.le_of_ble_eq_true rfl) rfl hR trivial ?_
          refine jm_E_eq (x := (45, [some (jm_r 7 0), some (jm_i a0), some (jm_i v8), some (jm_i (if v11 < a0 then v11 else a0))], [], h12)) rfl ?_
          refine jm_E_n 2 (x' := (47, [some (jm_r 7 0), some (jm_i a0), some (jm_i v8), some (jm_i (if v11 < a0 then v11 else a0))], [jm_i (if v11 < a0 then v11 else a0), jm_r 7 0], h12)) rfl ?_
          obtain ⟨v13, h13, hR, H⟩ := H
          refine jm_E_call rfl (Nat.le_of_ble_eq_true rfl) (Nat.le_of_ble_eq_true rfl) rfl hR trivial ?_
          refine jm_E_eq (x := (48, [some (jm_r 7 0), some (jm_i a0), some (jm_i v8), some (jm_i (if v11 < a0 then v11 else a0))], [jm_i v13], h13)) rfl ?_
          exact jm_E_ret rfl (by rw [H]; rfl)
      · replace H := H.2 hc
        refine jm_E_n 2 (x' := (15, [some (jm_r 7 0), some (jm_i a0), some (jm_i v8), none], [jm_i v8, jm_r 7 0], h8)) rfl ?_
        obtain ⟨v14, h14, hR, H⟩ := H
        refine jm_E_call rfl (Nat.le_of_ble_eq_true rfl) (Nat.le_of_ble_eq_true rfl) rfl hR trivial ?_
        refine jm_E_eq (x := (16, [some (jm_r 7 0), some (jm_i a0), some (jm_i v8), none], [jm_i v14], h14)) rfl ?_
        exact jm_E_ret rfl (by rw [H]; rfl)
    · replace H := H.2 hc
      refine jm_E_n 2 (x' := (9, [some (jm_r 7 0), some (jm_i a0), none, none], [jm_i 1, jm_r 7 0], h)) rfl ?_
      obtain ⟨v15, h15, hR, H⟩ := H
      refine jm_E_call rfl (Nat.le_of_ble_eq_true rfl) (Nat.le_of_ble_eq_true rfl) rfl hR trivial ?_
      refine jm_E_eq (x := (10, [some (jm_r 7 0), some (jm_i a0), none, none], [jm_i v15], h15)) rfl ?_
      refine jm_E_n 3 (x' := (if v15 = 0 then 17 else 13, [some (jm_r 7 0), some (jm_i a0), some (jm_i v15), none], [], h15)) rfl ?_
      refine jm_E_ite (fun hc => ?_) (fun hc => ?_)
      · replace H := H.1 hc
        refine jm_E_n 2 (x' := (if a0 = 0 then 19 else 21, [some (jm_r 7 0), some (jm_i a0), some (jm_i v15), none], [], h15)) rfl ?_
        refine jm_E_ite (fun hc => ?_) (fun hc => ?_)
        · replace H := H.1 hc
          refine jm_E_n 21 (x' := (44, [some (jm_r 7 0), some (jm_i a0), some (jm_i v15), some (jm_i 0)], [jm_i 0, jm_r 7 0], (jm_sI (jm_sI h15 0 0 5 ((h15.1 0 0 5) + 0)) 0 0 6 ((h15.1 0 0 6) + (a0 - 0))))) rfl ?_
          obtain ⟨h16, hR, H⟩ := H
          refine jm_E_call rfl (Nat.le_of_ble_eq_true rfl) (Nat.le_of_ble_eq_true rfl) rfl hR trivial ?_
          refine jm_E_eq (x := (45, [some (jm_r 7 0), some (jm_i a0), some (jm_i v15), some (jm_i 0)], [], h16)) rfl ?_
          refine jm_E_n 2 (x' := (47, [some (jm_r 7 0), some (jm_i a0), some (jm_i v15), some (jm_i 0)], [jm_i 0, jm_r 7 0], h16)) rfl ?_
          obtain ⟨v17, h17, hR, H⟩ := H
          refine jm_E_call rfl (Nat.le_of_ble_eq_true rfl) (Nat.le_of_ble_eq_true rfl) rfl hR trivial ?_
          refine jm_E_eq (x := (48, [some (jm_r 7 0), some (jm_i a0), some (jm_i v15), some (jm_i 0)], [jm_i v17], h17)) rfl ?_
          exact jm_E_ret rfl (by rw [H]; rfl)
        · replace H := H.2 hc
          refine jm_E_n 2 (x' := (23, [some (jm_r 7 0), some (jm_i a0), some (jm_i v15), none], [jm_r 7 0, jm_i a0], h15)) rfl ?_
          obtain ⟨v18, h18, hR, H⟩ := H
          refine jm_E_call rfl (Nat.le_of_ble_eq_true rfl) (Nat.le_of_ble_eq_true rfl) rfl hR trivial ?_
          refine jm_E_eq (x := (24, [some (jm_r 7 0), some (jm_i a0), some (jm_i v15), none], [jm_i v18, jm_i a0], h18)) rfl ?_
          refine jm_E_n 20 (x' := (44, [some (jm_r 7 0), some (jm_i a0), some (jm_i v15), some (jm_i (if v18 < a0 then v18 else a0))], [jm_i (if v18 < a0 then v18 else a0), jm_r 7 0], (jm_sI (jm_sI h18 0 0 5 ((h18.1 0 0 5) + (if v18 < a0 then v18 else a0))) 0 0 6 ((h18.1 0 0 6) + (a0 - (if v18 < a0 then v18 else a0)))))) rfl ?_
          obtain ⟨h19, hR, H⟩ := H
          refine jm_E_call rfl (Nat.le_of_ble_eq_true rfl) (Nat.le_of_ble_eq_true rfl) rfl hR trivial ?_
          refine jm_E_eq (x := (45, [some (jm_r 7 0), some (jm_i a0), some (jm_i v15), some (jm_i (if v18 < a0 then v18 else a0))], [], h19)) rfl ?_
          refine jm_E_n 2 (x' := (47, [some (jm_r 7 0), some (jm_i a0), some (jm_i v15), some (jm_i (if v18 < a0 then v18 else a0))], [jm_i (if v18 < a0 then v18 else a0), jm_r 7 0], h19)) rfl ?_
          obtain ⟨v20, h20, hR, H⟩ := H
          refine jm_E_call rfl (Nat.le_of_ble_eq_true rfl) (Nat.le_of_ble_eq_true rfl) rfl hR trivial ?_
          refine jm_E_eq (x := (48, [some (jm_r 7 0), some (jm_i a0), some (jm_i v15), some (jm_i (if v18 < a0 then v18 else a0))], [jm_i v20], h20)) rfl ?_
          exact jm_E_ret rfl (by rw [H]; rfl)
      · replace H := H.2 hc
        refine jm_E_n 2 (x' := (15, [some (jm_r 7 0), some (jm_i a0), some (jm_i v15), none], [jm_i v15, jm_r 7 0], h15)) rfl ?_
        obtain ⟨v21, h21, hR, H⟩ := H
        refine jm_E_call rfl (Nat.le_of_ble_eq_true rfl) (Nat.le_of_ble_eq_true rfl) rfl hR trivial ?_
        refine jm_E_eq (x := (16, [some (jm_r 7 0), some (jm_i a0), some (jm_i v15), none], [jm_i v21], h21)) rfl ?_
        exact jm_E_ret rfl (by rw [H]; rfl)
set_option maxRecDepth 100000 in
theorem wp_FR_run_24 {x1 : Int32} {x3 : Int32} {x4 : Int32} {h : jm_H} {r : jm_Rs} (H :
  (x1 ≤ x4 →
    ∃ (v7 : Int32) (h7 : jm_H), m_FR_answered ((h.1 0 0 4) - x3) h v7 h7 ∧
    r = (some (jm_i v7), h7)) ∧
  (¬ (x1 ≤ x4) →
    ∃ h8 : jm_H, m_FR_goThroughFrame 0 h h8 ∧
    l_FR_run_24 x1 x3 (x4 + 1) h8 r)) : l_FR_run_24 x1 x3 x4 h r := by
  refine jm_E_n 3 (x' := (if x1 ≤ x4 then 32 else 27, [some (jm_r 7 0), some (jm_i x1), none, some (jm_i x3), some (jm_i x4)], [], h)) rfl ?_
  refine jm_E_ite (fun hc => ?_) (fun hc => ?_)
  · replace H := H.1 hc
    refine jm_E_n 6 (x' := (38, [some (jm_r 7 0), some (jm_i x1), none, some (jm_i x3), some (jm_i x4)], [jm_i ((h.1 0 0 4) - x3), jm_r 7 0], h)) rfl ?_
    obtain ⟨v7, h7, hR, H⟩ := H
    refine jm_E_call rfl (Nat.le_of_ble_eq_true rfl) (Nat.le_of_ble_eq_true rfl) rfl hR trivial ?_
    refine jm_E_eq (x := (39, [some (jm_r 7 0), some (jm_i x1), none, some (jm_i x3), some (jm_i x4)], [jm_i v7], h7)) rfl ?_
    exact jm_E_ret rfl (by rw [H]; rfl)
  · replace H := H.2 hc
    refine jm_E_n 2 (x' := (29, [some (jm_r 7 0), some (jm_i x1), none, some (jm_i x3), some (jm_i x4)], [jm_i 0, jm_r 7 0], h)) rfl ?_
    obtain ⟨h8, hR, H⟩ := H
    refine jm_E_call rfl (Nat.le_of_ble_eq_true rfl) (Nat.le_of_ble_eq_true rfl) rfl hR trivial ?_
    refine jm_E_eq (x := (30, [some (jm_r 7 0), some (jm_i x1), none, some (jm_i x3), some (jm_i x4)], [], h8)) rfl ?_
    refine jm_E_n 2 (x' := (24, [some (jm_r 7 0), some (jm_i x1), none, some (jm_i x3), some (jm_i (x4 + 1))], [], h8)) rfl ?_
    exact H
set_option maxRecDepth 100000 in
theorem wp_FR_run {a0 : Int32} {h : jm_H} {r : jm_Rs} (H :
  (a0 < 1 →
    ∃ (v1 : Int32) (h1 : jm_H), m_FR_clockRefusal 0 h v1 h1 ∧
    (v1 = 0 →
      l_FR_run_24 a0 (h1.1 0 0 4) 0 h1 r) ∧
    (¬ (v1 = 0) →
      ∃ (v2 : Int32) (h2 : jm_H), m_FR_refused v1 h1 v2 h2 ∧
      r = (some (jm_i v2), h2))) ∧
  (¬ (a0 < 1) →
    (100 < a0 →
      ∃ (v3 : Int32) (h3 : jm_H), m_FR_clockRefusal 0 h v3 h3 ∧
      (v3 = 0 →
        l_FR_run_24 a0 (h3.1 0 0 4) 0 h3 r) ∧
      (¬ (v3 = 0) →
        ∃ (v4 : Int32) (h4 : jm_H), m_FR_refused v3 h3 v4 h4 ∧
        r = (some (jm_i v4), h4))) ∧
    (¬ (100 < a0) →
      ∃ (v5 : Int32) (h5 : jm_H), m_FR_clockRefusal 1 h v5 h5 ∧
      (v5 = 0 →
        l_FR_run_24 a0 (h5.1 0 0 4) 0 h5 r) ∧
      (¬ (v5 = 0) →
        ∃ (v6 : Int32) (h6 : jm_H), m_FR_refused v5 h5 v6 h6 ∧
        r = (some (jm_i v6), h6))))) : jm_R 54 [jm_r 7 0, jm_i a0] h r := by
  refine jm_R_of hz_54 (Nat.le_of_ble_eq_true rfl) ?_
  show jm_E cod_54 (0, [some (jm_r 7 0), some (jm_i a0), none, none, none], [], h) r
  refine jm_E_n 4 (x' := (if a0 < 1 then 9 else 4, [some (jm_r 7 0), some (jm_i a0), none, none, none], [jm_r 7 0], h)) rfl ?_
  refine jm_E_ite (fun hc => ?_) (fun hc => ?_)
  · replace H := H.1 hc
    refine jm_E_n 1 (x' := (10, [some (jm_r 7 0), some (jm_i a0), none, none, none], [jm_i 0, jm_r 7 0], h)) rfl ?_
    obtain ⟨v1, h1, hR, H⟩ := H
    refine jm_E_call rfl (Nat.le_of_ble_eq_true rfl) (Nat.le_of_ble_eq_true rfl) rfl hR trivial ?_
    refine jm_E_eq (x := (11, [some (jm_r 7 0), some (jm_i a0), none, none, none], [jm_i v1], h1)) rfl ?_
    refine jm_E_n 3 (x' := (if v1 = 0 then 18 else 14, [some (jm_r 7 0), some (jm_i a0), some (jm_i v1), none, none], [], h1)) rfl ?_
    refine jm_E_ite (fun hc => ?_) (fun hc => ?_)
    · replace H := H.1 hc
      refine jm_E_n 6 (x' := (24, [some (jm_r 7 0), some (jm_i a0), some (jm_i v1), some (jm_i (h1.1 0 0 4)), some (jm_i 0)], [], h1)) rfl ?_
      exact jm_E_weak (jm_le_s (jm_le_s (jm_le_n (jm_le_s (jm_le_s jm_le_nil))))) H
    · replace H := H.2 hc
      refine jm_E_n 2 (x' := (16, [some (jm_r 7 0), some (jm_i a0), some (jm_i v1), none, none], [jm_i v1, jm_r 7 0], h1)) rfl ?_
      obtain ⟨v2, h2, hR, H⟩ := H
      refine jm_E_call rfl (Nat.le_of_ble_eq_true rfl) (Nat.le_of_ble_eq_true rfl) rfl hR trivial ?_
      refine jm_E_eq (x := (17, [some (jm_r 7 0), some (jm_i a0), some (jm_i v1), none, none], [jm_i v2], h2)) rfl ?_
      exact jm_E_ret rfl (by rw [H]; rfl)
  · replace H := H.2 hc
    refine jm_E_n 3 (x' := (if 100 < a0 then 9 else 7, [some (jm_r 7 0), some (jm_i a0), none, none, none], [jm_r 7 0], h)) rfl ?_
    refine jm_E_ite (fun hc => ?_) (fun hc => ?_)
    · replace H := H.1 hc
      refine jm_E_n 1 (x' := (10, [some (jm_r 7 0), some (jm_i a0), none, none, none], [jm_i 0, jm_r 7 0], h)) rfl ?_
      obtain ⟨v3, h3, hR, H⟩ := H
      refine jm_E_call rfl (Nat.le_of_ble_eq_true rfl) (Nat.le_of_ble_eq_true rfl) rfl hR trivial ?_
      refine jm_E_eq (x := (11, [some (jm_r 7 0), some (jm_i a0), none, none, none], [jm_i v3], h3)) rfl ?_
      refine jm_E_n 3 (x' := (if v3 = 0 then 18 else 14, [some (jm_r 7 0), some (jm_i a0), some (jm_i v3), none, none], [], h3)) rfl ?_
      refine jm_E_ite (fun hc => ?_) (fun hc => ?_)
      · replace H := H.1 hc
        refine jm_E_n 6 (x' := (24, [some (jm_r 7 0), some (jm_i a0), some (jm_i v3), some (jm_i (h3.1 0 0 4)), some (jm_i 0)], [], h3)) rfl ?_
        exact jm_E_weak (jm_le_s (jm_le_s (jm_le_n (jm_le_s (jm_le_s jm_le_nil))))) H
      · replace H := H.2 hc
        refine jm_E_n 2 (x' := (16, [some (jm_r 7 0), some (jm_i a0), some (jm_i v3), none, none], [jm_i v3, jm_r 7 0], h3)) rfl ?_
        obtain ⟨v4, h4, hR, H⟩ := H
        refine jm_E_call rfl (Nat.le_of_ble_eq_true rfl) (Nat.le_of_ble_eq_true rfl) rfl hR trivial ?_
        refine jm_E_eq (x := (17, [some (jm_r 7 0), some (jm_i a0), some (jm_i v3), none, none], [jm_i v4], h4)) rfl ?_
        exact jm_E_ret rfl (by rw [H]; rfl)
    · replace H := H.2 hc
      refine jm_E_n 2 (x' := (10, [some (jm_r 7 0), some (jm_i a0), none, none, none], [jm_i 1, jm_r 7 0], h)) rfl ?_
      obtain ⟨v5, h5, hR, H⟩ := H
      refine jm_E_call rfl (Nat.le_of_ble_eq_true rfl) (Nat.le_of_ble_eq_true rfl) rfl hR trivial ?_
      refine jm_E_eq (x := (11, [some (jm_r 7 0), some (jm_i a0), none, none, none], [jm_i v5], h5)) rfl ?_
      refine jm_E_n 3 (x' := (if v5 = 0 then 18 else 14, [some (jm_r 7 0), some (jm_i a0), some (jm_i v5), none, none], [], h5)) rfl ?_
      refine jm_E_ite (fun hc => ?_) (fun hc => ?_)
      · replace H := H.1 hc
        refine jm_E_n 6 (x' := (24, [some (jm_r 7 0), some (jm_i a0), some (jm_i v5), some (jm_i (h5.1 0 0 4)), some (jm_i 0)], [], h5)) rfl ?_
        exact jm_E_weak (jm_le_s (jm_le_s (jm_le_n (jm_le_s (jm_le_s jm_le_nil))))) H
      · replace H := H.2 hc
        refine jm_E_n 2 (x' := (16, [some (jm_r 7 0), some (jm_i a0), some (jm_i v5), none, none], [jm_i v5, jm_r 7 0], h5)) rfl ?_
        obtain ⟨v6, h6, hR, H⟩ := H
        refine jm_E_call rfl (Nat.le_of_ble_eq_true rfl) (Nat.le_of_ble_eq_true rfl) rfl hR trivial ?_
        refine jm_E_eq (x := (17, [some (jm_r 7 0), some (jm_i a0), some (jm_i v5), none, none], [jm_i v6], h6)) rfl ?_
        exact jm_E_ret rfl (by rw [H]; rfl)
