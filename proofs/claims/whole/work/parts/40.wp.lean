set_option maxRecDepth 100000 in
theorem wp_JArrays_fill_21_5 {x0 : Nat} {x1 : Int32} {x2 : Int32} {x3 : Int32} {h : jm_H} {r : jm_Rs} (H :
  (x3 ≤ x2 →
    r = (none, h)) ∧
  (¬ (x3 ≤ x2) →
    jm_in x2 24 ∧
    l_JArrays_fill_21_5 x0 x1 (x2 + 1) x3 (jm_sI h 21 x0 x2.toNatClampNeg x1) r)) : l_JArrays_fill_21_5 x0 x1 x2 x3 h r := by
  refine jm_E_n 3 (x' := (if x3 ≤ x2 then 14 else 8, [some (jm_r 21 x0), some (jm_i x1), some (jm_i x2), some (jm_i x3)], [], h)) rfl ?_
  refine jm_E_ite (fun hc => ?_) (fun hc => ?_)
  · replace H := H.1 hc
    exact jm_E_ret rfl (by rw [H]; rfl)
  · replace H := H.2 hc
    refine jm_E_n 3 (x' := (11, [some (jm_r 21 x0), some (jm_i x1), some (jm_i x2), some (jm_i x3)], [jm_i x1, jm_i x2, jm_r 21 x0], h)) rfl ?_
    refine jm_E_iast rfl rfl H.1 ?_
    replace H := H.2
    refine jm_E_eq (x := (12, [some (jm_r 21 x0), some (jm_i x1), some (jm_i x2), some (jm_i x3)], [], (jm_sI h 21 x0 x2.toNatClampNeg x1))) rfl ?_
    refine jm_E_n 2 (x' := (5, [some (jm_r 21 x0), some (jm_i x1), some (jm_i (x2 + 1)), some (jm_i x3)], [], (jm_sI h 21 x0 x2.toNatClampNeg x1))) rfl ?_
    exact H
set_option maxRecDepth 100000 in
theorem wp_JArrays_fill_21 {a0 : Nat} {a1 : Int32} {h : jm_H} {r : jm_Rs} (H :
  l_JArrays_fill_21_5 a0 a1 0 ((24 : Nat).toInt32) h r) : jm_R 0 [jm_r 21 a0, jm_i a1] h r := by
  refine jm_R_of hz_0 (Nat.le_of_ble_eq_true rfl) ?_
  show jm_E cod_0 (0, [some (jm_r 21 a0), some (jm_i a1), none, none], [], h) r
  refine jm_E_n 5 (x' := (5, [some (jm_r 21 a0), some (jm_i a1), some (jm_i 0), some (jm_i ((24 : Nat).toInt32))], [], h)) rfl ?_
  exact H
set_option maxRecDepth 100000 in
theorem wp_JDouble_isNaN {a0 : UInt64} {h : jm_H} {r : jm_Rs} (H :
  ((Op.cmpValue (FP.dcmp a0 a0) .l) = 0 →
    r = (some (jm_i 0), h)) ∧
  (¬ ((Op.cmpValue (FP.dcmp a0 a0) .l) = 0) →
    r = (some (jm_i 1), h))) : jm_R 1 [.inl (.double a0)] h r := by
  refine jm_R_of hz_1 (Nat.le_of_ble_eq_true rfl) ?_
  show jm_E cod_1 (0, [some (.inl (.double a0)), none], [], h) r
  refine jm_E_n 4 (x' := (if (Op.cmpValue (FP.dcmp a0 a0) .l) = 0 then 6 else 4, [some (.inl (.double a0)), none], [], h)) rfl ?_
  refine jm_E_ite (fun hc => ?_) (fun hc => ?_)
  · replace H := H.1 hc
    refine jm_E_n 1 (x' := (7, [some (.inl (.double a0)), none], [jm_i 0], h)) rfl ?_
    exact jm_E_ret rfl (by rw [H]; rfl)
  · replace H := H.2 hc
    refine jm_E_n 2 (x' := (7, [some (.inl (.double a0)), none], [jm_i 1], h)) rfl ?_
    exact jm_E_ret rfl (by rw [H]; rfl)
set_option maxRecDepth 100000 in
theorem wp_JDouble_doubleToLongBits {a0 : UInt64} {h : jm_H} {r : jm_Rs} (H :
  ∃ (v1 : Int32) (h1 : jm_H), m_JDouble_isNaN a0 h v1 h1 ∧
  (v1 = 0 →
    r = (some (.inl (.long a0.toInt64)), h1)) ∧
  (¬ (v1 = 0) →
    r = (some (.inl (.long 9221120237041090560)), h1))) : jm_R 2 [.inl (.double a0)] h r := by
  refine jm_R_of hz_2 (Nat.le_of_ble_eq_true rfl) ?_
  show jm_E cod_2 (0, [some (.inl (.double a0)), none], [], h) r
  refine jm_E_n 1 (x' := (1, [some (.inl (.double a0)), none], [.inl (.double a0)], h)) rfl ?_
  obtain ⟨v1, h1, hR, H⟩ := H
  refine jm_E_call rfl (Nat.le_of_ble_eq_true rfl) (Nat.le_of_ble_eq_true rfl) trivial hR trivial ?_
  refine jm_E_eq (x := (2, [some (.inl (.double a0)), none], [jm_i v1], h1)) rfl ?_
  refine jm_E_n 1 (x' := (if v1 = 0 then 3 else 6, [some (.inl (.double a0)), none], [], h1)) rfl ?_
  refine jm_E_ite (fun hc => ?_) (fun hc => ?_)
  · replace H := H.1 hc
    refine jm_E_n 2 (x' := (5, [some (.inl (.double a0)), none], [.inl (.long a0.toInt64)], h1)) rfl ?_
    exact jm_E_ret rfl (by rw [H]; rfl)
  · replace H := H.2 hc
    refine jm_E_n 1 (x' := (7, [some (.inl (.double a0)), none], [.inl (.long 9221120237041090560)], h1)) rfl ?_
    exact jm_E_ret rfl (by rw [H]; rfl)
set_option maxRecDepth 100000 in
theorem wp_JFloat_isNaN {a0 : UInt32} {h : jm_H} {r : jm_Rs} (H :
  ((Op.cmpValue (FP.fcmp a0 a0) .l) = 0 →
    r = (some (jm_i 0), h)) ∧
  (¬ ((Op.cmpValue (FP.fcmp a0 a0) .l) = 0) →
    r = (some (jm_i 1), h))) : jm_R 3 [.inl (.float a0)] h r := by
  refine jm_R_of hz_3 (Nat.le_of_ble_eq_true rfl) ?_
  show jm_E cod_3 (0, [some (.inl (.float a0))], [], h) r
  refine jm_E_n 4 (x' := (if (Op.cmpValue (FP.fcmp a0 a0) .l) = 0 then 6 else 4, [some (.inl (.float a0))], [], h)) rfl ?_
  refine jm_E_ite (fun hc => ?_) (fun hc => ?_)
  · replace H := H.1 hc
    refine jm_E_n 1 (x' := (7, [some (.inl (.float a0))], [jm_i 0], h)) rfl ?_
    exact jm_E_ret rfl (by rw [H]; rfl)
  · replace H := H.2 hc
    refine jm_E_n 2 (x' := (7, [some (.inl (.float a0))], [jm_i 1], h)) rfl ?_
    exact jm_E_ret rfl (by rw [H]; rfl)
set_option maxRecDepth 100000 in
theorem wp_JFloat_floatToIntBits {a0 : UInt32} {h : jm_H} {r : jm_Rs} (H :
  ∃ (v1 : Int32) (h1 : jm_H), m_JFloat_isNaN a0 h v1 h1 ∧
  (v1 = 0 →
    r = (some (jm_i a0.toInt32), h1)) ∧
  (¬ (v1 = 0) →
    r = (some (jm_i 2143289344), h1))) : jm_R 4 [.inl (.float a0)] h r := by
  refine jm_R_of hz_4 (Nat.le_of_ble_eq_true rfl) ?_
  show jm_E cod_4 (0, [some (.inl (.float a0))], [], h) r
  refine jm_E_n 1 (x' := (1, [some (.inl (.float a0))], [.inl (.float a0)], h)) rfl ?_
  obtain ⟨v1, h1, hR, H⟩ := H
  refine jm_E_call rfl (Nat.le_of_ble_eq_true rfl) (Nat.le_of_ble_eq_true rfl) trivial hR trivial ?_
  refine jm_E_eq (x := (2, [some (.inl (.float a0))], [jm_i v1], h1)) rfl ?_
  refine jm_E_n 1 (x' := (if v1 = 0 then 3 else 6, [some (.inl (.float a0))], [], h1)) rfl ?_
  refine jm_E_ite (fun hc => ?_) (fun hc => ?_)
  · replace H := H.1 hc
    refine jm_E_n 2 (x' := (5, [some (.inl (.float a0))], [jm_i a0.toInt32], h1)) rfl ?_
    exact jm_E_ret rfl (by rw [H]; rfl)
  · replace H := H.2 hc
    refine jm_E_n 1 (x' := (7, [some (.inl (.float a0))], [jm_i 2143289344], h1)) rfl ?_
    exact jm_E_ret rfl (by rw [H]; rfl)
set_option maxRecDepth 100000 in
theorem wp_Reader_append_2 {x1 : Int32} {x2 : Int32} {h : jm_H} {r : jm_Rs} (H :
  (x2 < 0 →
    r = (none, h)) ∧
  (¬ (x2 < 0) →
    (700 ≤ (h.1 4 0 1) →
      l_Reader_append_2 x1 (x2 + (-8)) h r) ∧
    (¬ (700 ≤ (h.1 4 0 1)) →
      jm_in (h.1 4 0 1) 700 ∧
      l_Reader_append_2 x1 (x2 + (-8)) (jm_sI (jm_sI h 29 0 ((h.1 4 0 1).toNatClampNeg) ((((x1.toUInt32 >>> (x2.toUInt32 &&& Int32.toUInt32 31)).toInt32).toInt8.toInt32).toInt8.toInt32)) 4 0 1 ((h.1 4 0 1) + 1)) r))) : l_Reader_append_2 x1 x2 h r := by
  refine jm_E_n 2 (x' := (if x2 < 0 then 25 else 4, [some (jm_r 4 0), some (jm_i x1), some (jm_i x2)], [], h)) rfl ?_
  refine jm_E_ite (fun hc => ?_) (fun hc => ?_)
  · replace H := H.1 hc
    exact jm_E_ret rfl (by rw [H]; rfl)
  · replace H := H.2 hc
    refine jm_E_n 4 (x' := (if 700 ≤ (h.1 4 0 1) then 23 else 8, [some (jm_r 4 0), some (jm_i x1), some (jm_i x2)], [], h)) rfl ?_
    refine jm_E_ite (fun hc => ?_) (fun hc => ?_)
    · replace H := H.1 hc
      refine jm_E_n 2 (x' := (2, [some (jm_r 4 0), some (jm_i x1), some (jm_i (x2 + (-8)))], [], h)) rfl ?_
      exact H
    · replace H := H.2 hc
      refine jm_E_n 8 (x' := (16, [some (jm_r 4 0), some (jm_i x1), some (jm_i x2)], [jm_i (((x1.toUInt32 >>> (x2.toUInt32 &&& Int32.toUInt32 31)).toInt32).toInt8.toInt32), jm_i (h.1 4 0 1), jm_r 29 0], h)) rfl ?_
      refine jm_E_bast rfl rfl H.1 ?_
      replace H := H.2
      refine jm_E_eq (x := (17, [some (jm_r 4 0), some (jm_i x1), some (jm_i x2)], [], (jm_sI h 29 0 ((h.1 4 0 1).toNatClampNeg) ((((x1.toUInt32 >>> (x2.toUInt32 &&& Int32.toUInt32 31)).toInt32).toInt8.toInt32).toInt8.toInt32)))) rfl ?_
      refine jm_E_n 8 (x' := (2, [some (jm_r 4 0), some (jm_i x1), some (jm_i (x2 + (-8)))], [], (jm_sI (jm_sI h 29 0 ((h.1 4 0 1).toNatClampNeg) ((((x1.toUInt32 >>> (x2.toUInt32 &&& Int32.toUInt32 31)).toInt32).toInt8.toInt32).toInt8.toInt32)) 4 0 1 ((h.1 4 0 1) + 1)))) rfl ?_
      exact H
set_option maxRecDepth 100000 in
theorem wp_Reader_append {a0 : Int32} {h : jm_H} {r : jm_Rs} (H :
  l_Reader_append_2 a0 24 h r) : jm_R 240 [jm_r 4 0, jm_i a0] h r := by
  refine jm_R_of hz_240 (Nat.le_of_ble_eq_true rfl) ?_
  show jm_E cod_240 (0, [some (jm_r 4 0), some (jm_i a0), none], [], h) r
  refine jm_E_n 2 (x' := (2, [some (jm_r 4 0), some (jm_i a0), some (jm_i 24)], [], h)) rfl ?_
  exact H
set_option maxRecDepth 100000 in
theorem wp_FR_feed {a0 : Int32} {a1 : Int32} {a2 : Int32} {a3 : Int32} {a4 : Int32} {h : jm_H} {r : jm_Rs} (H :
  ((h.1 4 0 1) ≤ 680 →
    ∃ h1 : jm_H, m_Reader_append a0 h h1 ∧
    ∃ h2 : jm_H, m_Reader_append a1 h1 h2 ∧
    ∃ h3 : jm_H, m_Reader_append a2 h2 h3 ∧
    ∃ h4 : jm_H, m_Reader_append a3 h3 h4 ∧
    ∃ h5 : jm_H, m_Reader_append a4 h4 h5 ∧
    r = (some (jm_i (h5.1 4 0 1)), h5)) ∧
  (¬ ((h.1 4 0 1) ≤ 680) →
    r = (some (jm_i (-1)), h))) : jm_R 5 [jm_r 7 0, jm_i a0, jm_i a1, jm_i a2, jm_i a3, jm_i a4] h r := by
  refine jm_R_of hz_5 (Nat.le_of_ble_eq_true rfl) ?_
  show jm_E cod_5 (0, [some (jm_r 7 0), some (jm_i a0), some (jm_i a1), some (jm_i a2), some (jm_i a3), some (jm_i a4)], [], h) r
  refine jm_E_n 5 (x' := (if (h.1 4 0 1) ≤ 680 then 7 else 5, [some (jm_r 7 0), some (jm_i a0), some (jm_i a1), some (jm_i a2), some (jm_i a3), some (jm_i a4)], [], h)) rfl ?_
  refine jm_E_ite (fun hc => ?_) (fun hc => ?_)
  · replace H := H.1 hc
    refine jm_E_n 3 (x' := (10, [some (jm_r 7 0), some (jm_i a0), some (jm_i a1), some (jm_i a2), some (jm_i a3), some (jm_i a4)], [jm_i a0, jm_r 4 0], h)) rfl ?_
    obtain ⟨h1, hR, H⟩ := H
    refine jm_E_call rfl (Nat.le_of_ble_eq_true rfl) (Nat.le_of_ble_eq_true rfl) rfl hR trivial ?_
    refine jm_E_eq (x := (11, [some (jm_r 7 0), some (jm_i a0), some (jm_i a1), some (jm_i a2), some (jm_i a3), some (jm_i a4)], [], h1)) rfl ?_
    refine jm_E_n 3 (x' := (14, [some (jm_r 7 0), some (jm_i a0), some (jm_i a1), some (jm_i a2), some (jm_i a3), some (jm_i a4)], [jm_i a1, jm_r 4 0], h1)) rfl ?_
    obtain ⟨h2, hR, H⟩ := H
    refine jm_E_call rfl (Nat.le_of_ble_eq_true rfl) (Nat.le_of_ble_eq_true rfl) rfl hR trivial ?_
    refine jm_E_eq (x := (15, [some (jm_r 7 0), some (jm_i a0), some (jm_i a1), some (jm_i a2), some (jm_i a3), some (jm_i a4)], [], h2)) rfl ?_
    refine jm_E_n 3 (x' := (18, [some (jm_r 7 0), some (jm_i a0), some (jm_i a1), some (jm_i a2), some (jm_i a3), some (jm_i a4)], [jm_i a2, jm_r 4 0], h2)) rfl ?_
    obtain ⟨h3, hR, H⟩ := H
    refine jm_E_call rfl (Nat.le_of_ble_eq_true rfl) (Nat.le_of_ble_eq_true rfl) rfl hR trivial ?_
    refine jm_E_eq (x := (19, [some (jm_r 7 0), some (jm_i a0), some (jm_i a1), some (jm_i a2), some (jm_i a3), some (jm_i a4)], [], h3)) rfl ?_
    refine jm_E_n 3 (x' := (22, [some (jm_r 7 0), some (jm_i a0), some (jm_i a1), some (jm_i a2), some (jm_i a3), some (jm_i a4)], [jm_i a3, jm_r 4 0], h3)) rfl ?_
    obtain ⟨h4, hR, H⟩ := H
    refine jm_E_call rfl (Nat.le_of_ble_eq_true rfl) (Nat.le_of_ble_eq_true rfl) rfl hR trivial ?_
    refine jm_E_eq (x := (23, [some (jm_r 7 0), some (jm_i a0), some (jm_i a1), some (jm_i a2), some (jm_i a3), some (jm_i a4)], [], h4)) rfl ?_
    refine jm_E_n 3 (x' := (26, [some (jm_r 7 0), some (jm_i a0), some (jm_i a1), some (jm_i a2), some (jm_i a3), some (jm_i a4)], [jm_i a4, jm_r 4 0], h4)) rfl ?_
    obtain ⟨h5, hR, H⟩ := H
    refine jm_E_call rfl (Nat.le_of_ble_eq_true rfl) (Nat.le_of_ble_eq_true rfl) rfl hR trivial ?_
    refine jm_E_eq (x := (27, [some (jm_r 7 0), some (jm_i a0), some (jm_i a1), some (jm_i a2), some (jm_i a3), some (jm_i a4)], [], h5)) rfl ?_
    refine jm_E_n 3 (x' := (30, [some (jm_r 7 0), some (jm_i a0), some (jm_i a1), some (jm_i a2), some (jm_i a3), some (jm_i a4)], [jm_i (h5.1 4 0 1)], h5)) rfl ?_
    exact jm_E_ret rfl (by rw [H]; rfl)
  · replace H := H.2 hc
    refine jm_E_n 1 (x' := (6, [some (jm_r 7 0), some (jm_i a0), some (jm_i a1), some (jm_i a2), some (jm_i a3), some (jm_i a4)], [jm_i (-1)], h)) rfl ?_
    exact jm_E_ret rfl (by rw [H]; rfl)
set_option maxRecDepth 100000 in
theorem wp_FR_refused {a0 : Int32} {h : jm_H} {r : jm_Rs} (H :
  r = (some (jm_i (-1)), (jm_sI h 7 0 8 a0))) : jm_R 9 [jm_r 7 0, jm_i a0] h r := by
  refine jm_R_of hz_9 (Nat.le_of_ble_eq_true rfl) ?_
  show jm_E cod_9 (0, [some (jm_r 7 0), some (jm_i a0)], [], h) r
  refine jm_E_n 4 (x' := (4, [some (jm_r 7 0), some (jm_i a0)], [jm_i (-1)], (jm_sI h 7 0 8 a0))) rfl ?_
  exact jm_E_ret rfl (by rw [H]; rfl)
set_option maxRecDepth 100000 in
theorem wp_Reader_signAt {a0 : Int32} {h : jm_H} {r : jm_Rs} (H :
  (a0 < 0 →
    r = (some (jm_i 0), h)) ∧
  (¬ (a0 < 0) →
    ((h.1 4 0 2) ≤ a0 →
      r = (some (jm_i 0), h)) ∧
    (¬ ((h.1 4 0 2) ≤ a0) →
      jm_in a0 700 ∧
      r = (some (jm_i ((h.1 29 0 a0.toNatClampNeg) &&& 255)), h)))) : jm_R 247 [jm_r 4 0, jm_i a0] h r := by
  refine jm_R_of hz_247 (Nat.le_of_ble_eq_true rfl) ?_
  show jm_E cod_247 (0, [some (jm_r 4 0), some (jm_i a0)], [], h) r
  refine jm_E_n 2 (x' := (if a0 < 0 then 13 else 2, [some (jm_r 4 0), some (jm_i a0)], [], h)) rfl ?_
  refine jm_E_ite (fun hc => ?_) (fun hc => ?_)
  · replace H := H.1 hc
    refine jm_E_n 1 (x' := (14, [some (jm_r 4 0), some (jm_i a0)], [jm_i 0], h)) rfl ?_
    exact jm_E_ret rfl (by rw [H]; rfl)
  · replace H := H.2 hc
    refine jm_E_n 4 (x' := (if (h.1 4 0 2) ≤ a0 then 13 else 6, [some (jm_r 4 0), some (jm_i a0)], [], h)) rfl ?_
    refine jm_E_ite (fun hc => ?_) (fun hc => ?_)
    · replace H := H.1 hc
      refine jm_E_n 1 (x' := (14, [some (jm_r 4 0), some (jm_i a0)], [jm_i 0], h)) rfl ?_
      exact jm_E_ret rfl (by rw [H]; rfl)
    · replace H := H.2 hc
      refine jm_E_n 3 (x' := (9, [some (jm_r 4 0), some (jm_i a0)], [jm_i a0, jm_r 29 0], h)) rfl ?_
      refine jm_E_bald rfl rfl H.1 ?_
      replace H := H.2
      refine jm_E_eq (x := (10, [some (jm_r 4 0), some (jm_i a0)], [jm_i (h.1 29 0 a0.toNatClampNeg)], h)) rfl ?_
      refine jm_E_n 3 (x' := (14, [some (jm_r 4 0), some (jm_i a0)], [jm_i ((h.1 29 0 a0.toNatClampNeg) &&& 255)], h)) rfl ?_
      exact jm_E_ret rfl (by rw [H]; rfl)
set_option maxRecDepth 100000 in
theorem wp_Reader_isLetter {a0 : Int32} {h : jm_H} {r : jm_Rs} (H :
  (a0 < 97 →
    r = (some (jm_i 0), h)) ∧
  (¬ (a0 < 97) →
    (122 < a0 →
      r = (some (jm_i 0), h)) ∧
    (¬ (122 < a0) →
      r = (some (jm_i 1), h)))) : jm_R 251 [jm_i a0] h r := by
  refine jm_R_of hz_251 (Nat.le_of_ble_eq_true rfl) ?_
  show jm_E cod_251 (0, [some (jm_i a0)], [], h) r
  refine jm_E_n 3 (x' := (if a0 < 97 then 8 else 3, [some (jm_i a0)], [], h)) rfl ?_
  refine jm_E_ite (fun hc => ?_) (fun hc => ?_)
  · replace H := H.1 hc
    refine jm_E_n 1 (x' := (9, [some (jm_i a0)], [jm_i 0], h)) rfl ?_
    exact jm_E_ret rfl (by rw [H]; rfl)
  · replace H := H.2 hc
    refine jm_E_n 3 (x' := (if 122 < a0 then 8 else 6, [some (jm_i a0)], [], h)) rfl ?_
    refine jm_E_ite (fun hc => ?_) (fun hc => ?_)
    · replace H := H.1 hc
      refine jm_E_n 1 (x' := (9, [some (jm_i a0)], [jm_i 0], h)) rfl ?_
      exact jm_E_ret rfl (by rw [H]; rfl)
    · replace H := H.2 hc
      refine jm_E_n 2 (x' := (9, [some (jm_i a0)], [jm_i 1], h)) rfl ?_
      exact jm_E_ret rfl (by rw [H]; rfl)
set_option maxRecDepth 100000 in
theorem wp_Reader_nextWord_0  {h : jm_H} {r : jm_Rs} (H :
  ((h.1 4 0 2) ≤ (h.1 4 0 3) →
    (7 < ((h.1 4 0 3) - (h.1 4 0 5)) →
      r = (none, (jm_sI h 4 0 4 0))) ∧
    (¬ (7 < ((h.1 4 0 3) - (h.1 4 0 5))) →
      r = (none, (jm_sI h 4 0 4 1)))) ∧
  (¬ ((h.1 4 0 2) ≤ (h.1 4 0 3)) →
    ∃ (v1 : Int32) (h1 : jm_H), m_Reader_signAt (h.1 4 0 3) h v1 h1 ∧
    ∃ (v2 : Int32) (h2 : jm_H), m_Reader_isLetter v1 h1 v2 h2 ∧
    (v2 = 0 →
      (7 < ((h2.1 4 0 3) - (h2.1 4 0 5)) →
        r = (none, (jm_sI h2 4 0 4 0))) ∧
      (¬ (7 < ((h2.1 4 0 3) - (h2.1 4 0 5))) →
        r = (none, (jm_sI h2 4 0 4 1)))) ∧
    (¬ (v2 = 0) →
      l_Reader_nextWord_0 (jm_sI h2 4 0 3 ((h2.1 4 0 3) + 1)) r))) : l_Reader_nextWord_0  h r := by
  refine jm_E_n 5 (x' := (if (h.1 4 0 2) ≤ (h.1 4 0 3) then 18 else 5, [some (jm_r 4 0)], [], h)) rfl ?_
  refine jm_E_ite (fun hc => ?_) (fun hc => ?_)
  · replace H := H.1 hc
    refine jm_E_n 8 (x' := (if 7 < ((h.1 4 0 3) - (h.1 4 0 5)) then 28 else 26, [some (jm_r 4 0)], [jm_r 4 0], h)) rfl ?_
    refine jm_E_ite (fun hc => ?_) (fun hc => ?_)
    · replace H := H.1 hc
      refine jm_E_n 2 (x' := (30, [some (jm_r 4 0)], [], (jm_sI h 4 0 4 0))) rfl ?_
      exact jm_E_ret rfl (by rw [H]; rfl)
    · replace H := H.2 hc
      refine jm_E_n 3 (x' := (30, [some (jm_r 4 0)], [], (jm_sI h 4 0 4 1))) rfl ?_
      exact jm_E_ret rfl (by rw [H]; rfl)
  · replace H := H.2 hc
    refine jm_E_n 3 (x' := (8, [some (jm_r 4 0)], [jm_i (h.1 4 0 3), jm_r 4 0], h)) rfl ?_
    obtain ⟨v1, h1, hR, H⟩ := H
    refine jm_E_call rfl (Nat.le_of_ble_eq_true rfl) (Nat.le_of_ble_eq_true rfl) rfl hR trivial ?_
    refine jm_E_eq (x := (9, [some (jm_r 4 0)], [jm_i v1], h1)) rfl ?_
    obtain ⟨v2, h2, hR, H⟩ := H
    refine jm_E_call rfl (Nat.le_of_ble_eq_true rfl) (Nat.le_of_ble_eq_true rfl) trivial hR trivial ?_
    refine jm_E_eq (x := (10, [some (jm_r 4 0)], [jm_i v2], h2)) rfl ?_
    refine jm_E_n 1 (x' := (if v2 = 0 then 18 else 11, [some (jm_r 4 0)], [], h2)) rfl ?_
    refine jm_E_ite (fun hc => ?_) (fun hc => ?_)
    · replace H := H.1 hc
      refine jm_E_n 8 (x' := (if 7 < ((h2.1 4 0 3) - (h2.1 4 0 5)) then 28 else 26, [some (jm_r 4 0)], [jm_r 4 0], h2)) rfl ?_
      refine jm_E_ite (fun hc => ?_) (fun hc => ?_)
      · replace H := H.1 hc
        refine jm_E_n 2 (x' := (30, [some (jm_r 4 0)], [], (jm_sI h2 4 0 4 0))) rfl ?_
        exact jm_E_ret rfl (by rw [H]; rfl)
      · replace H := H.2 hc
        refine jm_E_n 3 (x' := (30, [some (jm_r 4 0)], [], (jm_sI h2 4 0 4 1))) rfl ?_
        exact jm_E_ret rfl (by rw [H]; rfl)
    · replace H := H.2 hc
      refine jm_E_n 7 (x' := (0, [some (jm_r 4 0)], [], (jm_sI h2 4 0 3 ((h2.1 4 0 3) + 1)))) rfl ?_
      exact H
set_option maxRecDepth 100000 in
theorem wp_Reader_nextWord  {h : jm_H} {r : jm_Rs} (H :
  l_Reader_nextWord_0 h r) : jm_R 249 [jm_r 4 0] h r := by
  refine jm_R_of hz_249 (Nat.le_of_ble_eq_true rfl) ?_
  show jm_E cod_249 (0, [some (jm_r 4 0)], [], h) r
  exact H
set_option maxRecDepth 100000 in
theorem wp_Reader_isDigit {a0 : Int32} {h : jm_H} {r : jm_Rs} (H :
  (a0 < 48 →
    r = (some (jm_i 0), h)) ∧
  (¬ (a0 < 48) →
    (57 < a0 →
      r = (some (jm_i 0), h)) ∧
    (¬ (57 < a0) →
      r = (some (jm_i 1), h)))) : jm_R 252 [jm_i a0] h r := by
  refine jm_R_of hz_252 (Nat.le_of_ble_eq_true rfl) ?_
  show jm_E cod_252 (0, [some (jm_i a0)], [], h) r
  refine jm_E_n 3 (x' := (if a0 < 48 then 8 else 3, [some (jm_i a0)], [], h)) rfl ?_
  refine jm_E_ite (fun hc => ?_) (fun hc => ?_)
  · replace H := H.1 hc
    refine jm_E_n 1 (x' := (9, [some (jm_i a0)], [jm_i 0], h)) rfl ?_
    exact jm_E_ret rfl (by rw [H]; rfl)
  · replace H := H.2 hc
    refine jm_E_n 3 (x' := (if 57 < a0 then 8 else 6, [some (jm_i a0)], [], h)) rfl ?_
    refine jm_E_ite (fun hc => ?_) (fun hc => ?_)
    · replace H := H.1 hc
      refine jm_E_n 1 (x' := (9, [some (jm_i a0)], [jm_i 0], h)) rfl ?_
      exact jm_E_ret rfl (by rw [H]; rfl)
    · replace H := H.2 hc
      refine jm_E_n 2 (x' := (9, [some (jm_i a0)], [jm_i 1], h)) rfl ?_
      exact jm_E_ret rfl (by rw [H]; rfl)
set_option maxRecDepth 100000 in
theorem wp_Reader_nextWhole_3  {h : jm_H} {r : jm_Rs} (H :
  ((h.1 4 0 2) ≤ (h.1 4 0 3) →
    (3 < ((h.1 4 0 3) - (h.1 4 0 5)) →
      r = (none, (jm_sI h 4 0 4 0))) ∧
    (¬ (3 < ((h.1 4 0 3) - (h.1 4 0 5))) →
      r = (none, (jm_sI h 4 0 4 2)))) ∧
  (¬ ((h.1 4 0 2) ≤ (h.1 4 0 3)) →
    ∃ (v1 : Int32) (h1 : jm_H), m_Reader_signAt (h.1 4 0 3) h v1 h1 ∧
    ∃ (v2 : Int32) (h2 : jm_H), m_Reader_isDigit v1 h1 v2 h2 ∧
    (v2 = 0 →
      (3 < ((h2.1 4 0 3) - (h2.1 4 0 5)) →
        r = (none, (jm_sI h2 4 0 4 0))) ∧
      (¬ (3 < ((h2.1 4 0 3) - (h2.1 4 0 5))) →
        r = (none, (jm_sI h2 4 0 4 2)))) ∧
    (¬ (v2 = 0) →
      ∃ (v3 : Int32) (h3 : jm_H), m_Reader_signAt (h2.1 4 0 3) h2 v3 h3 ∧
      l_Reader_nextWhole_3 (jm_sI (jm_sI h3 4 0 6 (((h2.1 4 0 6) * 10) + (v3 - 48))) 4 0 3 ((h3.1 4 0 3) + 1)) r))) : l_Reader_nextWhole_3  h r := by
  refine jm_E_n 5 (x' := (if (h.1 4 0 2) ≤ (h.1 4 0 3) then 34 else 8, [some (jm_r 4 0)], [], h)) rfl ?_
  refine jm_E_ite (fun hc => ?_) (fun hc => ?_)
  · replace H := H.1 hc
    refine jm_E_n 8 (x' := (if 3 < ((h.1 4 0 3) - (h.1 4 0 5)) then 44 else 42, [some (jm_r 4 0)], [jm_r 4 0], h)) rfl ?_
    refine jm_E_ite (fun hc => ?_) (fun hc => ?_)
    · replace H := H.1 hc
      refine jm_E_n 2 (x' := (46, [some (jm_r 4 0)], [], (jm_sI h 4 0 4 0))) rfl ?_
      exact jm_E_ret rfl (by rw [H]; rfl)
    · replace H := H.2 hc
      refine jm_E_n 3 (x' := (46, [some (jm_r 4 0)], [], (jm_sI h 4 0 4 2))) rfl ?_
      exact jm_E_ret rfl (by rw [H]; rfl)
  · replace H := H.2 hc
    refine jm_E_n 3 (x' := (11, [some (jm_r 4 0)], [jm_i (h.1 4 0 3), jm_r 4 0], h)) rfl ?_
    obtain ⟨v1, h1, hR, H⟩ := H
    refine jm_E_call rfl (Nat.le_of_ble_eq_true rfl) (Nat.le_of_ble_eq_true rfl) rfl hR trivial ?_
    refine jm_E_eq (x := (12, [some (jm_r 4 0)], [jm_i v1], h1)) rfl ?_
    obtain ⟨v2, h2, hR, H⟩ := H
    refine jm_E_call rfl (Nat.le_of_ble_eq_true rfl) (Nat.le_of_ble_eq_true rfl) trivial hR trivial ?_
    refine jm_E_eq (x := (13, [some (jm_r 4 0)], [jm_i v2], h2)) rfl ?_
    refine jm_E_n 1 (x' := (if v2 = 0 then 34 else 14, [some (jm_r 4 0)], [], h2)) rfl ?_
    refine jm_E_ite (fun hc => ?_) (fun hc => ?_)
    · replace H := H.1 hc
      refine jm_E_n 8 (x' := (if 3 < ((h2.1 4 0 3) - (h2.1 4 0 5)) then 44 else 42, [some (jm_r 4 0)], [jm_r 4 0], h2)) rfl ?_
      refine jm_E_ite (fun hc => ?_) (fun hc => ?_)
      · replace H := H.1 hc
        refine jm_E_n 2 (x' := (46, [some (jm_r 4 0)], [], (jm_sI h2 4 0 4 0))) rfl ?_
        exact jm_E_ret rfl (by rw [H]; rfl)
      · replace H := H.2 hc
        refine jm_E_n 3 (x' := (46, [some (jm_r 4 0)], [], (jm_sI h2 4 0 4 2))) rfl ?_
        exact jm_E_ret rfl (by rw [H]; rfl)
    · replace H := H.2 hc
      refine jm_E_n 8 (x' := (22, [some (jm_r 4 0)], [jm_i (h2.1 4 0 3), jm_r 4 0, jm_i ((h2.1 4 0 6) * 10), jm_r 4 0], h2)) rfl ?_
      obtain ⟨v3, h3, hR, H⟩ := H
      refine jm_E_call rfl (Nat.le_of_ble_eq_true rfl) (Nat.le_of_ble_eq_true rfl) rfl hR trivial ?_
      refine jm_E_eq (x := (23, [some (jm_r 4 0)], [jm_i v3, jm_i ((h2.1 4 0 6) * 10), jm_r 4 0], h3)) rfl ?_
      refine jm_E_n 11 (x' := (3, [some (jm_r 4 0)], [], (jm_sI (jm_sI h3 4 0 6 (((h2.1 4 0 6) * 10) + (v3 - 48))) 4 0 3 ((h3.1 4 0 3) + 1)))) rfl ?_
      exact H
set_option maxRecDepth 100000 in
theorem wp_Reader_nextWhole  {h : jm_H} {r : jm_Rs} (H :
  l_Reader_nextWhole_3 (jm_sI h 4 0 6 0) r) : jm_R 250 [jm_r 4 0] h r := by
  refine jm_R_of hz_250 (Nat.le_of_ble_eq_true rfl) ?_
  show jm_E cod_250 (0, [some (jm_r 4 0)], [], h) r
  refine jm_E_n 3 (x' := (3, [some (jm_r 4 0)], [], (jm_sI h 4 0 6 0))) rfl ?_
  exact H
set_option maxRecDepth 100000 in
theorem wp_Reader_next_0  {h : jm_H} {r : jm_Rs} (H :
  ((h.1 4 0 2) ≤ (h.1 4 0 3) →
    ((h.1 4 0 3) < (h.1 4 0 2) →
      ∃ (v1 : Int32) (h1 : jm_H), m_Reader_signAt (h.1 4 0 3) (jm_sI h 4 0 5 (h.1 4 0 3)) v1 h1 ∧
      (v1 = 59 →
        r = (none, (jm_sI (jm_sI h1 4 0 4 3) 4 0 3 ((h1.1 4 0 3) + 1)))) ∧
      (¬ (v1 = 59) →
        ∃ (v2 : Int32) (h2 : jm_H), m_Reader_signAt (h1.1 4 0 3) h1 v2 h2 ∧
        ∃ (v3 : Int32) (h3 : jm_H), m_Reader_isLetter v2 h2 v3 h3 ∧
        (v3 = 0 →
          ∃ (v4 : Int32) (h4 : jm_H), m_Reader_signAt (h3.1 4 0 3) h3 v4 h4 ∧
          ∃ (v5 : Int32) (h5 : jm_H), m_Reader_isDigit v4 h4 v5 h5 ∧
          (v5 = 0 →
            r = (none, (jm_sI h5 4 0 4 0))) ∧
          (¬ (v5 = 0) →
            ∃ h6 : jm_H, m_Reader_nextWhole h5 h6 ∧
            r = (none, h6))) ∧
        (¬ (v3 = 0) →
          ∃ h7 : jm_H, m_Reader_nextWord h3 h7 ∧
          r = (none, h7)))) ∧
    (¬ ((h.1 4 0 3) < (h.1 4 0 2)) →
      r = (none, (jm_sI (jm_sI h 4 0 5 (h.1 4 0 3)) 4 0 4 4)))) ∧
  (¬ ((h.1 4 0 2) ≤ (h.1 4 0 3)) →
    ∃ (v8 : Int32) (h8 : jm_H), m_Reader_signAt (h.1 4 0 3) h v8 h8 ∧
    (v8 = 32 →
      l_Reader_next_0 (jm_sI h8 4 0 3 ((h8.1 4 0 3) + 1)) r) ∧
    (¬ (v8 = 32) →
      ((h8.1 4 0 3) < (h8.1 4 0 2) →
        ∃ (v9 : Int32) (h9 : jm_H), m_Reader_signAt (h8.1 4 0 3) (jm_sI h8 4 0 5 (h8.1 4 0 3)) v9 h9 ∧
        (v9 = 59 →
          r = (none, (jm_sI (jm_sI h9 4 0 4 3) 4 0 3 ((h9.1 4 0 3) + 1)))) ∧
        (¬ (v9 = 59) →
          ∃ (v10 : Int32) (h10 : jm_H), m_Reader_signAt (h9.1 4 0 3) h9 v10 h10 ∧
          ∃ (v11 : Int32) (h11 : jm_H), m_Reader_isLetter v10 h10 v11 h11 ∧
          (v11 = 0 →
            ∃ (v12 : Int32) (h12 : jm_H), m_Reader_signAt (h11.1 4 0 3) h11 v12 h12 ∧
            ∃ (v13 : Int32) (h13 : jm_H), m_Reader_isDigit v12 h12 v13 h13 ∧
            (v13 = 0 →
              r = (none, (jm_sI h13 4 0 4 0))) ∧
            (¬ (v13 = 0) →
              ∃ h14 : jm_H, m_Reader_nextWhole h13 h14 ∧
              r = (none, h14))) ∧
          (¬ (v11 = 0) →
            ∃ h15 : jm_H, m_Reader_nextWord h11 h15 ∧
            r = (none, h15)))) ∧
      (¬ ((h8.1 4 0 3) < (h8.1 4 0 2)) →
        r = (none, (jm_sI (jm_sI h8 4 0 5 (h8.1 4 0 3)) 4 0 4 4)))))) : l_Reader_next_0  h r := by
  refine jm_E_n 5 (x' := (if (h.1 4 0 2) ≤ (h.1 4 0 3) then 18 else 5, [some (jm_r 4 0)], [], h)) rfl ?_
  refine jm_E_ite (fun hc => ?_) (fun hc => ?_)
  · replace H := H.1 hc
    refine jm_E_n 9 (x' := (if (h.1 4 0 3) < (h.1 4 0 2) then 31 else 27, [some (jm_r 4 0)], [], (jm_sI h 4 0 5 (h.1 4 0 3)))) rfl ?_
    refine jm_E_ite (fun hc => ?_) (fun hc => ?_)
    · replace H := H.1 hc
      refine jm_E_n 3 (x' := (34, [some (jm_r 4 0)], [jm_i (h.1 4 0 3), jm_r 4 0], (jm_sI h 4 0 5 (h.1 4 0 3)))) rfl ?_
      obtain ⟨v1, h1, hR, H⟩ := H
      refine jm_E_call rfl (Nat.le_of_ble_eq_true rfl) (Nat.le_of_ble_eq_true rfl) rfl hR trivial ?_
      refine jm_E_eq (x := (35, [some (jm_r 4 0)], [jm_i v1], h1)) rfl ?_
      refine jm_E_n 2 (x' := (if v1 = 59 then 37 else 47, [some (jm_r 4 0)], [], h1)) rfl ?_
      refine jm_E_ite (fun hc => ?_) (fun hc => ?_)
      · replace H := H.1 hc
        refine jm_E_n 10 (x' := (68, [some (jm_r 4 0)], [], (jm_sI (jm_sI h1 4 0 4 3) 4 0 3 ((h1.1 4 0 3) + 1)))) rfl ?_
        exact jm_E_ret rfl (by rw [H]; rfl)
      · replace H := H.2 hc
        refine jm_E_n 3 (x' := (50, [some (jm_r 4 0)], [jm_i (h1.1 4 0 3), jm_r 4 0], h1)) rfl ?_
        obtain ⟨v2, h2, hR, H⟩ := H
        refine jm_E_call rfl (Nat.le_of_ble_eq_true rfl) (Nat.le_of_ble_eq_true rfl) rfl hR trivial ?_
        refine jm_E_eq (x := (51, [some (jm_r 4 0)], [jm_i v2], h2)) rfl ?_
        obtain ⟨v3, h3, hR, H⟩ := H
        refine jm_E_call rfl (Nat.le_of_ble_eq_true rfl) (Nat.le_of_ble_eq_true rfl) trivial hR trivial ?_
        refine jm_E_eq (x := (52, [some (jm_r 4 0)], [jm_i v3], h3)) rfl ?_
        refine jm_E_n 1 (x' := (if v3 = 0 then 56 else 53, [some (jm_r 4 0)], [], h3)) rfl ?_
        refine jm_E_ite (fun hc => ?_) (fun hc => ?_)
        · replace H := H.1 hc
          refine jm_E_n 3 (x' := (59, [some (jm_r 4 0)], [jm_i (h3.1 4 0 3), jm_r 4 0], h3)) rfl ?_
          obtain ⟨v4, h4, hR, H⟩ := H
          refine jm_E_call rfl (Nat.le_of_ble_eq_true rfl) (Nat.le_of_ble_eq_true rfl) rfl hR trivial ?_
          refine jm_E_eq (x := (60, [some (jm_r 4 0)], [jm_i v4], h4)) rfl ?_
          obtain ⟨v5, h5, hR, H⟩ := H
          refine jm_E_call rfl (Nat.le_of_ble_eq_true rfl) (Nat.le_of_ble_eq_true rfl) trivial hR trivial ?_
          refine jm_E_eq (x := (61, [some (jm_r 4 0)], [jm_i v5], h5)) rfl ?_
          refine jm_E_n 1 (x' := (if v5 = 0 then 65 else 62, [some (jm_r 4 0)], [], h5)) rfl ?_
          refine jm_E_ite (fun hc => ?_) (fun hc => ?_)
          · replace H := H.1 hc
            refine jm_E_n 3 (x' := (68, [some (jm_r 4 0)], [], (jm_sI h5 4 0 4 0))) rfl ?_
            exact jm_E_ret rfl (by rw [H]; rfl)
          · replace H := H.2 hc
            refine jm_E_n 1 (x' := (63, [some (jm_r 4 0)], [jm_r 4 0], h5)) rfl ?_
            obtain ⟨h6, hR, H⟩ := H
            refine jm_E_call rfl (Nat.le_of_ble_eq_true rfl) (Nat.le_of_ble_eq_true rfl) rfl hR trivial ?_
            refine jm_E_eq (x := (64, [some (jm_r 4 0)], [], h6)) rfl ?_
            refine jm_E_n 1 (x' := (68, [some (jm_r 4 0)], [], h6)) rfl ?_
            exact jm_E_ret rfl (by rw [H]; rfl)
        · replace H := H.2 hc
          refine jm_E_n 1 (x' := (54, [some (jm_r 4 0)], [jm_r 4 0], h3)) rfl ?_
          obtain ⟨h7, hR, H⟩ := H
          refine jm_E_call rfl (Nat.le_of_ble_eq_true rfl) (Nat.le_of_ble_eq_true rfl) rfl hR trivial ?_
          refine jm_E_eq (x := (55, [some (jm_r 4 0)], [], h7)) rfl ?_
          refine jm_E_n 1 (x' := (68, [some (jm_r 4 0)], [], h7)) rfl ?_
          exact jm_E_ret rfl (by rw [H]; rfl)
    · replace H := H.2 hc
      refine jm_E_n 4 (x' := (68, [some (jm_r 4 0)], [], (jm_sI (jm_sI h 4 0 5 (h.1 4 0 3)) 4 0 4 4))) rfl ?_
      exact jm_E_ret rfl (by rw [H]; rfl)
  · replace H := H.2 hc
    refine jm_E_n 3 (x' := (8, [some (jm_r 4 0)], [jm_i (h.1 4 0 3), jm_r 4 0], h)) rfl ?_
    obtain ⟨v8, h8, hR, H⟩ := H
    refine jm_E_call rfl (Nat.le_of_ble_eq_true rfl) (Nat.le_of_ble_eq_true rfl) rfl hR trivial ?_
    refine jm_E_eq (x := (9, [some (jm_r 4 0)], [jm_i v8], h8)) rfl ?_
    refine jm_E_n 2 (x' := (if v8 = 32 then 11 else 18, [some (jm_r 4 0)], [], h8)) rfl ?_
    refine jm_E_ite (fun hc => ?_) (fun hc => ?_)
    · replace H := H.1 hc
      refine jm_E_n 7 (x' := (0, [some (jm_r 4 0)], [], (jm_sI h8 4 0 3 ((h8.1 4 0 3) + 1)))) rfl ?_
      exact H
    · replace H := H.2 hc
      refine jm_E_n 9 (x' := (if (h8.1 4 0 3) < (h8.1 4 0 2) then 31 else 27, [some (jm_r 4 0)], [], (jm_sI h8 4 0 5 (h8.1 4 0 3)))) rfl ?_
      refine jm_E_ite (fun hc => ?_) (fun hc => ?_)
      · replace H := H.1 hc
        refine jm_E_n 3 (x' := (34, [some (jm_r 4 0)], [jm_i (h8.1 4 0 3), jm_r 4 0], (jm_sI h8 4 0 5 (h8.1 4 0 3)))) rfl ?_
        obtain ⟨v9, h9, hR, H⟩ := H
        refine jm_E_call rfl (Nat.le_of_ble_eq_true rfl) (Nat.le_of_ble_eq_true rfl) rfl hR trivial ?_
        refine jm_E_eq (x := (35, [some (jm_r 4 0)], [jm_i v9], h9)) rfl ?_
        refine jm_E_n 2 (x' := (if v9 = 59 then 37 else 47, [some (jm_r 4 0)], [], h9)) rfl ?_
        refine jm_E_ite (fun hc => ?_) (fun hc => ?_)
        · replace H := H.1 hc
          refine jm_E_n 10 (x' := (68, [some (jm_r 4 0)], [], (jm_sI (jm_sI h9 4 0 4 3) 4 0 3 ((h9.1 4 0 3) + 1)))) rfl ?_
          exact jm_E_ret rfl (by rw [H]; rfl)
        · replace H := H.2 hc
          refine jm_E_n 3 (x' := (50, [some (jm_r 4 0)], [jm_i (h9.1 4 0 3), jm_r 4 0], h9)) rfl ?_
          obtain ⟨v10, h10, hR, H⟩ := H
          refine jm_E_call rfl (Nat.le_of_ble_eq_true rfl) (Nat.le_of_ble_eq_true rfl) rfl hR trivial ?_
          refine jm_E_eq (x := (51, [some (jm_r 4 0)], [jm_i v10], h10)) rfl ?_
          obtain ⟨v11, h11, hR, H⟩ := H
          refine jm_E_call rfl (Nat.le_of_ble_eq_true rfl) (Nat.le_of_ble_eq_true rfl) trivial hR trivial ?_
          refine jm_E_eq (x := (52, [some (jm_r 4 0)], [jm_i v11], h11)) rfl ?_
          refine jm_E_n 1 (x' := (if v11 = 0 then 56 else 53, [some (jm_r 4 0)], [], h11)) rfl ?_
          refine jm_E_ite (fun hc => ?_) (fun hc => ?_)
          · replace H := H.1 hc
            refine jm_E_n 3 (x' := (59, [some (jm_r 4 0)], [jm_i (h11.1 4 0 3), jm_r 4 0], h11)) rfl ?_
            obtain ⟨v12, h12, hR, H⟩ := H
            refine jm_E_call rfl (Nat.le_of_ble_eq_true rfl) (Nat.le_of_ble_eq_true rfl) rfl hR trivial ?_
            refine jm_E_eq (x := (60, [some (jm_r 4 0)], [jm_i v12], h12)) rfl ?_
            obtain ⟨v13, h13, hR, H⟩ := H
            refine jm_E_call rfl (Nat.le_of_ble_eq_true rfl) (Nat.le_of_ble_eq_true rfl) trivial hR trivial ?_
            refine jm_E_eq (x := (61, [some (jm_r 4 0)], [jm_i v13], h13)) rfl ?_
            refine jm_E_n 1 (x' := (if v13 = 0 then 65 else 62, [some (jm_r 4 0)], [], h13)) rfl ?_
            refine jm_E_ite (fun hc => ?_) (fun hc => ?_)
            · replace H := H.1 hc
              refine jm_E_n 3 (x' := (68, [some (jm_r 4 0)], [], (jm_sI h13 4 0 4 0))) rfl ?_
              exact jm_E_ret rfl (by rw [H]; rfl)
            · replace H := H.2 hc
              refine jm_E_n 1 (x' := (63, [some (jm_r 4 0)], [jm_r 4 0], h13)) rfl ?_
              obtain ⟨h14, hR, H⟩ := H
              refine jm_E_call rfl (Nat.le_of_ble_eq_true rfl) (Nat.le_of_ble_eq_true rfl) rfl hR trivial ?_
              refine jm_E_eq (x := (64, [some (jm_r 4 0)], [], h14)) rfl ?_
              refine jm_E_n 1 (x' := (68, [some (jm_r 4 0)], [], h14)) rfl ?_
              exact jm_E_ret rfl (by rw [H]; rfl)
          · replace H := H.2 hc
            refine jm_E_n 1 (x' := (54, [some (jm_r 4 0)], [jm_r 4 0], h11)) rfl ?_
            obtain ⟨h15, hR, H⟩ := H
            refine jm_E_call rfl (Nat.le_of_ble_eq_true rfl) (Nat.le_of_ble_eq_true rfl) rfl hR trivial ?_
            refine jm_E_eq (x := (55, [some (jm_r 4 0)], [], h15)) rfl ?_
            refine jm_E_n 1 (x' := (68, [some (jm_r 4 0)], [], h15)) rfl ?_
            exact jm_E_ret rfl (by rw [H]; rfl)
      · replace H := H.2 hc
        refine jm_E_n 4 (x' := (68, [some (jm_r 4 0)], [], (jm_sI (jm_sI h8 4 0 5 (h8.1 4 0 3)) 4 0 4 4))) rfl ?_
        exact jm_E_ret rfl (by rw [H]; rfl)
set_option maxRecDepth 100000 in
theorem wp_Reader_next  {h : jm_H} {r : jm_Rs} (H :
  l_Reader_next_0 h r) : jm_R 248 [jm_r 4 0] h r := by
  refine jm_R_of hz_248 (Nat.le_of_ble_eq_true rfl) ?_
  show jm_E cod_248 (0, [some (jm_r 4 0)], [], h) r
  exact H
set_option maxRecDepth 100000 in
theorem wp_Reader_isWord_16 {x1 : Nat} {x2 : Int32} {h : jm_H} {r : jm_Rs} (H :
  (((jm_strl x1).toInt32) ≤ x2 →
    r = (some (jm_i 1), h)) ∧
  (¬ (((jm_strl x1).toInt32) ≤ x2) →
    ∃ (v1 : Int32) (h1 : jm_H), m_Reader_signAt ((h.1 4 0 5) + x2) h v1 h1 ∧
    jm_in x2 (jm_strl x1) ∧
    (v1 = (((jm_str x1).getD x2.toNatClampNeg 0).toInt32) →
      l_Reader_isWord_16 x1 (x2 + 1) h1 r) ∧
    (¬ (v1 = (((jm_str x1).getD x2.toNatClampNeg 0).toInt32)) →
      r = (some (jm_i 0), h1)))) : l_Reader_isWord_16 x1 x2 h r := by
  refine jm_E_n 4 (x' := (if ((jm_strl x1).toInt32) ≤ x2 then 34 else 20, [some (jm_r 4 0), some (jm_r 60 x1), some (jm_i x2)], [], h)) rfl ?_
  refine jm_E_ite (fun hc => ?_) (fun hc => ?_)
  · replace H := H.1 hc
    refine jm_E_n 1 (x' := (35, [some (jm_r 4 0), some (jm_r 60 x1), some (jm_i x2)], [jm_i 1], h)) rfl ?_
    exact jm_E_ret rfl (by rw [H]; rfl)
  · replace H := H.2 hc
    refine jm_E_n 5 (x' := (25, [some (jm_r 4 0), some (jm_r 60 x1), some (jm_i x2)], [jm_i ((h.1 4 0 5) + x2), jm_r 4 0], h)) rfl ?_
    obtain ⟨v1, h1, hR, H⟩ := H
    refine jm_E_call rfl (Nat.le_of_ble_eq_true rfl) (Nat.le_of_ble_eq_true rfl) rfl hR trivial ?_
    refine jm_E_eq (x := (26, [some (jm_r 4 0), some (jm_r 60 x1), some (jm_i x2)], [jm_i v1], h1)) rfl ?_
    refine jm_E_n 2 (x' := (28, [some (jm_r 4 0), some (jm_r 60 x1), some (jm_i x2)], [jm_i x2, jm_r 60 x1, jm_i v1], h1)) rfl ?_
    refine jm_E_schr rfl H.1 (Nat.le_of_ble_eq_true rfl) ?_
    replace H := H.2
    refine jm_E_eq (x := (29, [some (jm_r 4 0), some (jm_r 60 x1), some (jm_i x2)], [jm_i (((jm_str x1).getD x2.toNatClampNeg 0).toInt32), jm_i v1], h1)) rfl ?_
    refine jm_E_n 1 (x' := (if v1 = (((jm_str x1).getD x2.toNatClampNeg 0).toInt32) then 32 else 30, [some (jm_r 4 0), some (jm_r 60 x1), some (jm_i x2)], [], h1)) rfl ?_
    refine jm_E_ite (fun hc => ?_) (fun hc => ?_)
    · replace H := H.1 hc
      refine jm_E_n 2 (x' := (16, [some (jm_r 4 0), some (jm_r 60 x1), some (jm_i (x2 + 1))], [], h1)) rfl ?_
      exact H
    · replace H := H.2 hc
      refine jm_E_n 1 (x' := (31, [some (jm_r 4 0), some (jm_r 60 x1), some (jm_i x2)], [jm_i 0], h1)) rfl ?_
      exact jm_E_ret rfl (by rw [H]; rfl)
set_option maxRecDepth 100000 in
theorem wp_Reader_isWord {a0 : Nat} {h : jm_H} {r : jm_Rs} (H :
  ((h.1 4 0 4) = 1 →
    (((h.1 4 0 3) - (h.1 4 0 5)) = ((jm_strl a0).toInt32) →
      l_Reader_isWord_16 a0 0 h r) ∧
    (¬ (((h.1 4 0 3) - (h.1 4 0 5)) = ((jm_strl a0).toInt32)) →
      r = (some (jm_i 0), h))) ∧
  (¬ ((h.1 4 0 4) = 1) →
    r = (some (jm_i 0), h))) : jm_R 246 [jm_r 4 0, jm_r 60 a0] h r := by
  refine jm_R_of hz_246 (Nat.le_of_ble_eq_true rfl) ?_
  show jm_E cod_246 (0, [some (jm_r 4 0), some (jm_r 60 a0), none], [], h) r
  refine jm_E_n 4 (x' := (if (h.1 4 0 4) = 1 then 4 else 12, [some (jm_r 4 0), some (jm_r 60 a0), none], [], h)) rfl ?_
  refine jm_E_ite (fun hc => ?_) (fun hc => ?_)
  · replace H := H.1 hc
    refine jm_E_n 8 (x' := (if ((h.1 4 0 3) - (h.1 4 0 5)) = ((jm_strl a0).toInt32) then 14 else 12, [some (jm_r 4 0), some (jm_r 60 a0), none], [], h)) rfl ?_
    refine jm_E_ite (fun hc => ?_) (fun hc => ?_)
    · replace H := H.1 hc
      refine jm_E_n 2 (x' := (16, [some (jm_r 4 0), some (jm_r 60 a0), some (jm_i 0)], [], h)) rfl ?_
      exact H
    · replace H := H.2 hc
      refine jm_E_n 1 (x' := (13, [some (jm_r 4 0), some (jm_r 60 a0), none], [jm_i 0], h)) rfl ?_
      exact jm_E_ret rfl (by rw [H]; rfl)
  · replace H := H.2 hc
    refine jm_E_n 1 (x' := (13, [some (jm_r 4 0), some (jm_r 60 a0), none], [jm_i 0], h)) rfl ?_
    exact jm_E_ret rfl (by rw [H]; rfl)
set_option maxRecDepth 100000 in
theorem wp_Reader_fail {a0 : Int32} {h : jm_H} {r : jm_Rs} (H :
  r = (some (jm_i 0), (jm_sI (jm_sI h 4 0 7 a0) 4 0 8 (h.1 4 0 5)))) : jm_R 242 [jm_r 4 0, jm_i a0] h r := by
  refine jm_R_of hz_242 (Nat.le_of_ble_eq_true rfl) ?_
  show jm_E cod_242 (0, [some (jm_r 4 0), some (jm_i a0)], [], h) r
  refine jm_E_n 8 (x' := (8, [some (jm_r 4 0), some (jm_i a0)], [jm_i 0], (jm_sI (jm_sI h 4 0 7 a0) 4 0 8 (h.1 4 0 5)))) rfl ?_
  exact jm_E_ret rfl (by rw [H]; rfl)
set_option maxRecDepth 100000 in
theorem wp_Reader_readPart {a0 : Nat} {a1 : Int32} {a2 : Int32} {h : jm_H} {r : jm_Rs} (H :
  ∃ h1 : jm_H, m_Reader_next h h1 ∧
  ∃ (v2 : Int32) (h2 : jm_H), m_Reader_isWord a0 h1 v2 h2 ∧
  (v2 = 0 →
    ∃ (v3 : Int32) (h3 : jm_H), m_Reader_fail 1 h2 v3 h3 ∧
    narrow .boolean (.int v3) = .int v3 ∧ r = (some (jm_i v3), h3)) ∧
  (¬ (v2 = 0) →
    ∃ h4 : jm_H, m_Reader_next h2 h4 ∧
    ((h4.1 4 0 4) = 2 →
      ((h4.1 4 0 6) < a1 →
        ∃ (v5 : Int32) (h5 : jm_H), m_Reader_fail 2 h4 v5 h5 ∧
        (v5 = 0 →
          r = (some (jm_i 0), h5)) ∧
        (¬ (v5 = 0) →
          r = (some (jm_i 1), h5))) ∧
      (¬ ((h4.1 4 0 6) < a1) →
        ((h4.1 4 0 6) ≤ a2 →
          r = (some (jm_i 1), h4)) ∧
        (¬ ((h4.1 4 0 6) ≤ a2) →
          ∃ (v6 : Int32) (h6 : jm_H), m_Reader_fail 2 h4 v6 h6 ∧
          (v6 = 0 →
            r = (some (jm_i 0), h6)) ∧
          (¬ (v6 = 0) →
            r = (some (jm_i 1), h6))))) ∧
    (¬ ((h4.1 4 0 4) = 2) →
      ∃ (v7 : Int32) (h7 : jm_H), m_Reader_fail 1 h4 v7 h7 ∧
      narrow .boolean (.int v7) = .int v7 ∧ r = (some (jm_i v7), h7)))) : jm_R 245 [jm_r 4 0, jm_r 60 a0, jm_i a1, jm_i a2] h r := by
  refine jm_R_of hz_245 (Nat.le_of_ble_eq_true rfl) ?_
  show jm_E cod_245 (0, [some (jm_r 4 0), some (jm_r 60 a0), some (jm_i a1), some (jm_i a2)], [], h) r
  refine jm_E_n 1 (x' := (1, [some (jm_r 4 0), some (jm_r 60 a0), some (jm_i a1), some (jm_i a2)], [jm_r 4 0], h)) rfl ?_
  obtain ⟨h1, hR, H⟩ := H
  refine jm_E_call rfl (Nat.le_of_ble_eq_true rfl) (Nat.le_of_ble_eq_true rfl) rfl hR trivial ?_
  refine jm_E_eq (x := (2, [some (jm_r 4 0), some (jm_r 60 a0), some (jm_i a1), some (jm_i a2)], [], h1)) rfl ?_
  refine jm_E_n 2 (x' := (4, [some (jm_r 4 0), some (jm_r 60 a0), some (jm_i a1), some (jm_i a2)], [jm_r 60 a0, jm_r 4 0], h1)) rfl ?_
  obtain ⟨v2, h2, hR, H⟩ := H
  refine jm_E_call rfl (Nat.le_of_ble_eq_true rfl) (Nat.le_of_ble_eq_true rfl) rfl hR trivial ?_
  refine jm_E_eq (x := (5, [some (jm_r 4 0), some (jm_r 60 a0), some (jm_i a1), some (jm_i a2)], [jm_i v2], h2)) rfl ?_
  refine jm_E_n 1 (x' := (if v2 = 0 then 6 else 10, [some (jm_r 4 0), some (jm_r 60 a0), some (jm_i a1), some (jm_i a2)], [], h2)) rfl ?_
  refine jm_E_ite (fun hc => ?_) (fun hc => ?_)
  · replace H := H.1 hc
    refine jm_E_n 2 (x' := (8, [some (jm_r 4 0), some (jm_r 60 a0), some (jm_i a1), some (jm_i a2)], [jm_i 1, jm_r 4 0], h2)) rfl ?_
    obtain ⟨v3, h3, hR, H⟩ := H
    refine jm_E_call rfl (Nat.le_of_ble_eq_true rfl) (Nat.le_of_ble_eq_true rfl) rfl hR trivial ?_
    refine jm_E_eq (x := (9, [some (jm_r 4 0), some (jm_r 60 a0), some (jm_i a1), some (jm_i a2)], [jm_i v3], h3)) rfl ?_
    exact jm_E_ret rfl (by rw [H.2]; exact if_pos H.1)
  · replace H := H.2 hc
    refine jm_E_n 1 (x' := (11, [some (jm_r 4 0), some (jm_r 60 a0), some (jm_i a1), some (jm_i a2)], [jm_r 4 0], h2)) rfl ?_
    obtain ⟨h4, hR, H⟩ := H
    refine jm_E_call rfl (Nat.le_of_ble_eq_true rfl) (Nat.le_of_ble_eq_true rfl) rfl hR trivial ?_
    refine jm_E_eq (x := (12, [some (jm_r 4 0), some (jm_r 60 a0), some (jm_i a1), some (jm_i a2)], [], h4)) rfl ?_
    refine jm_E_n 4 (x' := (if (h4.1 4 0 4) = 2 then 20 else 16, [some (jm_r 4 0), some (jm_r 60 a0), some (jm_i a1), some (jm_i a2)], [], h4)) rfl ?_
    refine jm_E_ite (fun hc => ?_) (fun hc => ?_)
    · replace H := H.1 hc
      refine jm_E_n 4 (x' := (if (h4.1 4 0 6) < a1 then 28 else 24, [some (jm_r 4 0), some (jm_r 60 a0), some (jm_i a1), some (jm_i a2)], [], h4)) rfl ?_
      refine jm_E_ite (fun hc => ?_) (fun hc => ?_)
      · replace H := H.1 hc
        refine jm_E_n 2 (x' := (30, [some (jm_r 4 0), some (jm_r 60 a0), some (jm_i a1), some (jm_i a2)], [jm_i 2, jm_r 4 0], h4)) rfl ?_
        obtain ⟨v5, h5, hR, H⟩ := H
        refine jm_E_call rfl (Nat.le_of_ble_eq_true rfl) (Nat.le_of_ble_eq_true rfl) rfl hR trivial ?_
        refine jm_E_eq (x := (31, [some (jm_r 4 0), some (jm_r 60 a0), some (jm_i a1), some (jm_i a2)], [jm_i v5], h5)) rfl ?_
        refine jm_E_n 1 (x' := (if v5 = 0 then 34 else 32, [some (jm_r 4 0), some (jm_r 60 a0), some (jm_i a1), some (jm_i a2)], [], h5)) rfl ?_
        refine jm_E_ite (fun hc => ?_) (fun hc => ?_)
        · replace H := H.1 hc
          refine jm_E_n 1 (x' := (35, [some (jm_r 4 0), some (jm_r 60 a0), some (jm_i a1), some (jm_i a2)], [jm_i 0], h5)) rfl ?_
          exact jm_E_ret rfl (by rw [H]; rfl)
        · replace H := H.2 hc
          refine jm_E_n 2 (x' := (35, [some (jm_r 4 0), some (jm_r 60 a0), some (jm_i a1), some (jm_i a2)], [jm_i 1], h5)) rfl ?_
          exact jm_E_ret rfl (by rw [H]; rfl)
      · replace H := H.2 hc
        refine jm_E_n 4 (x' := (if (h4.1 4 0 6) ≤ a2 then 32 else 28, [some (jm_r 4 0), some (jm_r 60 a0), some (jm_i a1), some (jm_i a2)], [], h4)) rfl ?_
        refine jm_E_ite (fun hc => ?_) (fun hc => ?_)
        · replace H := H.1 hc
          refine jm_E_n 2 (x' := (35, [some (jm_r 4 0), some (jm_r 60 a0), some (jm_i a1), some (jm_i a2)], [jm_i 1], h4)) rfl ?_
          exact jm_E_ret rfl (by rw [H]; rfl)
        · replace H := H.2 hc
          refine jm_E_n 2 (x' := (30, [some (jm_r 4 0), some (jm_r 60 a0), some (jm_i a1), some (jm_i a2)], [jm_i 2, jm_r 4 0], h4)) rfl ?_
          obtain ⟨v6, h6, hR, H⟩ := H
          refine jm_E_call rfl (Nat.le_of_ble_eq_true rfl) (Nat.le_of_ble_eq_true rfl) rfl hR trivial ?_
          refine jm_E_eq (x := (31, [some (jm_r 4 0), some (jm_r 60 a0), some (jm_i a1), some (jm_i a2)], [jm_i v6], h6)) rfl ?_
          refine jm_E_n 1 (x' := (if v6 = 0 then 34 else 32, [some (jm_r 4 0), some (jm_r 60 a0), some (jm_i a1), some (jm_i a2)], [], h6)) rfl ?_
          refine jm_E_ite (fun hc => ?_) (fun hc => ?_)
          · replace H := H.1 hc
            refine jm_E_n 1 (x' := (35, [some (jm_r 4 0), some (jm_r 60 a0), some (jm_i a1), some (jm_i a2)], [jm_i 0], h6)) rfl ?_
            exact jm_E_ret rfl (by rw [H]; rfl)
          · replace H := H.2 hc
            refine jm_E_n 2 (x' := (35, [some (jm_r 4 0), some (jm_r 60 a0), some (jm_i a1), some (jm_i a2)], [jm_i 1], h6)) rfl ?_
            exact jm_E_ret rfl (by rw [H]; rfl)
    · replace H := H.2 hc
      refine jm_E_n 2 (x' := (18, [some (jm_r 4 0), some (jm_r 60 a0), some (jm_i a1), some (jm_i a2)], [jm_i 1, jm_r 4 0], h4)) rfl ?_
      obtain ⟨v7, h7, hR, H⟩ := H
      refine jm_E_call rfl (Nat.le_of_ble_eq_true rfl) (Nat.le_of_ble_eq_true rfl) rfl hR trivial ?_
      refine jm_E_eq (x := (19, [some (jm_r 4 0), some (jm_r 60 a0), some (jm_i a1), some (jm_i a2)], [jm_i v7], h7)) rfl ?_
      exact jm_E_ret rfl (by rw [H.2]; exact if_pos H.1)
set_option maxRecDepth 100000 in
theorem wp_Mode_begin {o : Nat} {a0 : Int32} {a1 : Int32} {h : jm_H} {r : jm_Rs} (H :
  r = (none, (jm_sI (jm_sI (jm_sI (jm_sI (jm_sI h 2 o 0 a0) 2 o 1 a1) 2 o 2 0) 2 o 3 0) 2 o 4 1))) : jm_R 228 [jm_r 2 o, jm_i a0, jm_i a1] h r := by
  refine jm_R_of hz_228 (Nat.le_of_ble_eq_true rfl) ?_
  show jm_E cod_228 (0, [some (jm_r 2 o), some (jm_i a0), some (jm_i a1)], [], h) r
  refine jm_E_n 15 (x' := (15, [some (jm_r 2 o), some (jm_i a0), some (jm_i a1)], [], (jm_sI (jm_sI (jm_sI (jm_sI (jm_sI h 2 o 0 a0) 2 o 1 a1) 2 o 2 0) 2 o 3 0) 2 o 4 1))) rfl ?_
  exact jm_E_ret rfl (by rw [H]; rfl)
set_option maxRecDepth 100000 in
theorem wp_Reader_readMode  {h : jm_H} {r : jm_Rs} (H :
  ((h.1 3 (h.2.1 4 0 9) 0) < 3 →
    ∃ (v1 : Int32) (h1 : jm_H), m_Reader_readPart 2 4 60 h v1 h1 ∧
    (v1 = 0 →
      r = (some (jm_i 0), h1)) ∧
    (¬ (v1 = 0) →
      ∃ (v2 : Int32) (h2 : jm_H), m_Reader_readPart 3 0 (if ((h1.1 4 0 6) - 1) < 59 then ((h1.1 4 0 6) - 1) else 59) h1 v2 h2 ∧
      (v2 = 0 →
        r = (some (jm_i 0), h2)) ∧
      (¬ (v2 = 0) →
        jm_in (h2.1 3 (h2.2.1 4 0 9) 0) 3 ∧
        ∃ h3 : jm_H, m_Mode_begin (3 * (h2.2.1 4 0 9) + (h2.1 3 (h2.2.1 4 0 9) 0).toNatClampNeg) (h1.1 4 0 6) (h2.1 4 0 6) h2 h3 ∧
        r = (some (jm_i 1), (jm_sI h3 3 (h3.2.1 4 0 9) 0 ((h3.1 3 (h3.2.1 4 0 9) 0) + 1)))))) ∧
  (¬ ((h.1 3 (h.2.1 4 0 9) 0) < 3) →
    ∃ (v4 : Int32) (h4 : jm_H), m_Reader_fail 3 h v4 h4 ∧
    narrow .boolean (.int v4) = .int v4 ∧ r = (some (jm_i v4), h4))) : jm_R 243 [jm_r 4 0] h r := by
  refine jm_R_of hz_243 (Nat.le_of_ble_eq_true rfl) ?_
  show jm_E cod_243 (0, [some (jm_r 4 0), none], [], h) r
  refine jm_E_n 5 (x' := (if (h.1 3 (h.2.1 4 0 9) 0) < 3 then 9 else 5, [some (jm_r 4 0), none], [], h)) rfl ?_
  refine jm_E_ite (fun hc => ?_) (fun hc => ?_)
  · replace H := H.1 hc
    refine jm_E_n 4 (x' := (13, [some (jm_r 4 0), none], [jm_i 60, jm_i 4, jm_r 60 2, jm_r 4 0], h)) rfl ?_
    obtain ⟨v1, h1, hR, H⟩ := H
    refine jm_E_call rfl (Nat.le_of_ble_eq_true rfl) (Nat.le_of_ble_eq_true rfl) rfl hR trivial ?_
    refine jm_E_eq (x := (14, [some (jm_r 4 0), none], [jm_i v1], h1)) rfl ?_
    refine jm_E_n 1 (x' := (if v1 = 0 then 15 else 17, [some (jm_r 4 0), none], [], h1)) rfl ?_
    refine jm_E_ite (fun hc => ?_) (fun hc => ?_)
    · replace H := H.1 hc
      refine jm_E_n 1 (x' := (16, [some (jm_r 4 0), none], [jm_i 0], h1)) rfl ?_
      exact jm_E_ret rfl (by rw [H]; rfl)
    · replace H := H.2 hc
      refine jm_E_n 11 (x' := (28, [some (jm_r 4 0), some (jm_i (h1.1 4 0 6))], [jm_i (if ((h1.1 4 0 6) - 1) < 59 then ((h1.1 4 0 6) - 1) else 59), jm_i 0, jm_r 60 3, jm_r 4 0], h1)) rfl ?_
      obtain ⟨v2, h2, hR, H⟩ := H
      refine jm_E_call rfl (Nat.le_of_ble_eq_true rfl) (Nat.le_of_ble_eq_true rfl) rfl hR trivial ?_
      refine jm_E_eq (x := (29, [some (jm_r 4 0), some (jm_i (h1.1 4 0 6))], [jm_i v2], h2)) rfl ?_
      refine jm_E_n 1 (x' := (if v2 = 0 then 30 else 32, [some (jm_r 4 0), some (jm_i (h1.1 4 0 6))], [], h2)) rfl ?_
      refine jm_E_ite (fun hc => ?_) (fun hc => ?_)
      · replace H := H.1 hc
        refine jm_E_n 1 (x' := (31, [some (jm_r 4 0), some (jm_i (h1.1 4 0 6))], [jm_i 0], h2)) rfl ?_
        exact jm_E_ret rfl (by rw [H]; rfl)
      · replace H := H.2 hc
        refine jm_E_n 6 (x' := (38, [some (jm_r 4 0), some (jm_i (h1.1 4 0 6))], [jm_i (h2.1 3 (h2.2.1 4 0 9) 0), jm_r 28 (h2.2.1 4 0 9)], h2)) rfl ?_
        refine jm_E_aald rfl rfl H.1 ?_
        replace H := H.2
        refine jm_E_eq (x := (39, [some (jm_r 4 0), some (jm_i (h1.1 4 0 6))], [jm_r 2 (3 * (h2.2.1 4 0 9) + (h2.1 3 (h2.2.1 4 0 9) 0).toNatClampNeg)], h2)) rfl ?_
        refine jm_E_n 3 (x' := (42, [some (jm_r 4 0), some (jm_i (h1.1 4 0 6))], [jm_i (h2.1 4 0 6), jm_i (h1.1 4 0 6), jm_r 2 (3 * (h2.2.1 4 0 9) + (h2.1 3 (h2.2.1 4 0 9) 0).toNatClampNeg)], h2)) rfl ?_
        obtain ⟨h3, hR, H⟩ := H
        refine jm_E_call rfl (Nat.le_of_ble_eq_true rfl) (Nat.le_of_ble_eq_true rfl) rfl hR trivial ?_
        refine jm_E_eq (x := (43, [some (jm_r 4 0), some (jm_i (h1.1 4 0 6))], [], h3)) rfl ?_
        refine jm_E_n 8 (x' := (51, [some (jm_r 4 0), some (jm_i (h1.1 4 0 6))], [jm_i 1], (jm_sI h3 3 (h3.2.1 4 0 9) 0 ((h3.1 3 (h3.2.1 4 0 9) 0) + 1)))) rfl ?_
        exact jm_E_ret rfl (by rw [H]; rfl)
  · replace H := H.2 hc
    refine jm_E_n 2 (x' := (7, [some (jm_r 4 0), none], [jm_i 3, jm_r 4 0], h)) rfl ?_
    obtain ⟨v4, h4, hR, H⟩ := H
    refine jm_E_call rfl (Nat.le_of_ble_eq_true rfl) (Nat.le_of_ble_eq_true rfl) rfl hR trivial ?_
    refine jm_E_eq (x := (8, [some (jm_r 4 0), none], [jm_i v4], h4)) rfl ?_
    exact jm_E_ret rfl (by rw [H.2]; exact if_pos H.1)
set_option maxRecDepth 100000 in
theorem wp_FR_commonDivisor_6 {x2 : Int32} {x3 : Int32} {x4 : Int32} {h : jm_H} {r : jm_Rs} (H :
  (64 ≤ x4 →
    r = (some (jm_i x2), h)) ∧
  (¬ (64 ≤ x4) →
    (x3 ≤ 0 →
      r = (some (jm_i x2), h)) ∧
    (¬ (x3 ≤ 0) →
      ¬ x3 = 0 ∧
      l_FR_commonDivisor_6 x3 (x2 - x2 / x3 * x3) (x4 + 1) h r))) : l_FR_commonDivisor_6 x2 x3 x4 h r := by
  refine jm_E_n 3 (x' := (if 64 ≤ x4 then 21 else 9, [none, none, some (jm_i x2), some (jm_i x3), some (jm_i x4), none], [], h)) rfl ?_
  refine jm_E_ite (fun hc => ?_) (fun hc => ?_)
  · replace H := H.1 hc
    refine jm_E_n 1 (x' := (22, [none, none, some (jm_i x2), some (jm_i x3), some (jm_i x4), none], [jm_i x2], h)) rfl ?_
    exact jm_E_ret rfl (by rw [H]; rfl)
  · replace H := H.2 hc
    refine jm_E_n 2 (x' := (if x3 ≤ 0 then 21 else 11, [none, none, some (jm_i x2), some (jm_i x3), some (jm_i x4), none], [], h)) rfl ?_
    refine jm_E_ite (fun hc => ?_) (fun hc => ?_)
    · replace H := H.1 hc
      refine jm_E_n 1 (x' := (22, [none, none, some (jm_i x2), some (jm_i x3), some (jm_i x4), none], [jm_i x2], h)) rfl ?_
      exact jm_E_ret rfl (by rw [H]; rfl)
    · replace H := H.2 hc
      refine jm_E_n 2 (x' := (13, [none, none, some (jm_i x2), some (jm_i x3), some (jm_i x4), none], [jm_i x3, jm_i x2], h)) rfl ?_
      refine jm_E_irem rfl H.1 ?_
      replace H := H.2
      refine jm_E_eq (x := (14, [none, none, some (jm_i x2), some (jm_i x3), some (jm_i x4), none], [jm_i (x2 - x2 / x3 * x3)], h)) rfl ?_
      refine jm_E_n 7 (x' := (6, [none, none, some (jm_i x3), some (jm_i (x2 - x2 / x3 * x3)), some (jm_i (x4 + 1)), some (jm_i (x2 - x2 / x3 * x3))], [], h)) rfl ?_
      exact jm_E_weak (jm_le_n (jm_le_n (jm_le_s (jm_le_s (jm_le_s (jm_le_n jm_le_nil)))))) H
set_option maxRecDepth 100000 in
theorem wp_FR_commonDivisor {a0 : Int32} {a1 : Int32} {h : jm_H} {r : jm_Rs} (H :
  l_FR_commonDivisor_6 a0 a1 0 h r) : jm_R 83 [jm_i a0, jm_i a1] h r := by
  refine jm_R_of hz_83 (Nat.le_of_ble_eq_true rfl) ?_
  show jm_E cod_83 (0, [some (jm_i a0), some (jm_i a1), none, none, none, none], [], h) r
  refine jm_E_n 6 (x' := (6, [some (jm_i a0), some (jm_i a1), some (jm_i a0), some (jm_i a1), some (jm_i 0), none], [], h)) rfl ?_
  exact jm_E_weak (jm_le_n (jm_le_n (jm_le_s (jm_le_s (jm_le_s (jm_le_n jm_le_nil)))))) H
set_option maxRecDepth 100000 in
theorem wp_Mode_commonWith {o : Nat} {a0 : Int32} {h : jm_H} {r : jm_Rs} (H :
  ∃ (v1 : Int32) (h1 : jm_H), m_FR_commonDivisor (h.1 2 o 4) a0 h v1 h1 ∧
  (v1 ≤ 0 →
    r = (some (jm_i (h1.1 2 o 4)), h1)) ∧
  (¬ (v1 ≤ 0) →
    ¬ v1 = 0 ∧
    r = (some (jm_i (((h1.1 2 o 4) / v1) * a0)), h1))) : jm_R 231 [jm_r 2 o, jm_i a0] h r := by
  refine jm_R_of hz_231 (Nat.le_of_ble_eq_true rfl) ?_
  show jm_E cod_231 (0, [some (jm_r 2 o), some (jm_i a0), none], [], h) r
  refine jm_E_n 3 (x' := (3, [some (jm_r 2 o), some (jm_i a0), none], [jm_i a0, jm_i (h.1 2 o 4)], h)) rfl ?_
  obtain ⟨v1, h1, hR, H⟩ := H
  refine jm_E_call rfl (Nat.le_of_ble_eq_true rfl) (Nat.le_of_ble_eq_true rfl) trivial hR trivial ?_
  refine jm_E_eq (x := (4, [some (jm_r 2 o), some (jm_i a0), none], [jm_i v1], h1)) rfl ?_
  refine jm_E_n 3 (x' := (if v1 ≤ 0 then 14 else 7, [some (jm_r 2 o), some (jm_i a0), some (jm_i v1)], [], h1)) rfl ?_
  refine jm_E_ite (fun hc => ?_) (fun hc => ?_)
  · replace H := H.1 hc
    refine jm_E_n 2 (x' := (16, [some (jm_r 2 o), some (jm_i a0), some (jm_i v1)], [jm_i (h1.1 2 o 4)], h1)) rfl ?_
    exact jm_E_ret rfl (by rw [H]; rfl)
  · replace H := H.2 hc
    refine jm_E_n 3 (x' := (10, [some (jm_r 2 o), some (jm_i a0), some (jm_i v1)], [jm_i v1, jm_i (h1.1 2 o 4)], h1)) rfl ?_
    refine jm_E_idiv rfl H.1 ?_
    replace H := H.2
    refine jm_E_eq (x := (11, [some (jm_r 2 o), some (jm_i a0), some (jm_i v1)], [jm_i ((h1.1 2 o 4) / v1)], h1)) rfl ?_
    refine jm_E_n 3 (x' := (16, [some (jm_r 2 o), some (jm_i a0), some (jm_i v1)], [jm_i (((h1.1 2 o 4) / v1) * a0)], h1)) rfl ?_
    exact jm_E_ret rfl (by rw [H]; rfl)
set_option maxRecDepth 100000 in
theorem wp_Mode_jobsWith_14 {x0 : Nat} {x2 : Int32} {x3 : Int32} {x4 : Int32} {h : jm_H} {r : jm_Rs} (H :
  ((h.1 2 x0 2) ≤ x4 →
    r = (some (jm_i x3), h)) ∧
  (¬ ((h.1 2 x0 2) ≤ x4) →
    jm_in x4 6 ∧
    ((h.1 23 x0 x4.toNatClampNeg) ≤ 0 →
      l_Mode_jobsWith_14 x0 x2 (x3 + 0) (x4 + 1) h r) ∧
    (¬ ((h.1 23 x0 x4.toNatClampNeg) ≤ 0) →
      jm_in x4 6 ∧
      ¬ (h.1 23 x0 x4.toNatClampNeg) = 0 ∧
      l_Mode_jobsWith_14 x0 x2 (x3 + (x2 / (h.1 23 x0 x4.toNatClampNeg))) (x4 + 1) h r))) : l_Mode_jobsWith_14 x0 x2 x3 x4 h r := by
  refine jm_E_n 4 (x' := (if (h.1 2 x0 2) ≤ x4 then 36 else 18, [some (jm_r 2 x0), none, some (jm_i x2), some (jm_i x3), some (jm_i x4)], [], h)) rfl ?_
  refine jm_E_ite (fun hc => ?_) (fun hc => ?_)
  · replace H := H.1 hc
    refine jm_E_n 1 (x' := (37, [some (jm_r 2 x0), none, some (jm_i x2), some (jm_i x3), some (jm_i x4)], [jm_i x3], h)) rfl ?_
    exact jm_E_ret rfl (by rw [H]; rfl)
  · replace H := H.2 hc
    refine jm_E_n 4 (x' := (22, [some (jm_r 2 x0), none, some (jm_i x2), some (jm_i x3), some (jm_i x4)], [jm_i x4, jm_r 23 x0, jm_i x3], h)) rfl ?_
    refine jm_E_iald rfl rfl H.1 ?_
    replace H := H.2
    refine jm_E_eq (x := (23, [some (jm_r 2 x0), none, some (jm_i x2), some (jm_i x3), some (jm_i x4)], [jm_i (h.1 23 x0 x4.toNatClampNeg), jm_i x3], h)) rfl ?_
    refine jm_E_n 1 (x' := (if (h.1 23 x0 x4.toNatClampNeg) ≤ 0 then 31 else 24, [some (jm_r 2 x0), none, some (jm_i x2), some (jm_i x3), some (jm_i x4)], [jm_i x3], h)) rfl ?_
    refine jm_E_ite (fun hc => ?_) (fun hc => ?_)
    · replace H := H.1 hc
      refine jm_E_n 5 (x' := (14, [some (jm_r 2 x0), none, some (jm_i x2), some (jm_i (x3 + 0)), some (jm_i (x4 + 1))], [], h)) rfl ?_
      exact H
    · replace H := H.2 hc
      refine jm_E_n 4 (x' := (28, [some (jm_r 2 x0), none, some (jm_i x2), some (jm_i x3), some (jm_i x4)], [jm_i x4, jm_r 23 x0, jm_i x2, jm_i x3], h)) rfl ?_
      refine jm_E_iald rfl rfl H.1 ?_
      replace H := H.2
      refine jm_E_eq (x := (29, [some (jm_r 2 x0), none, some (jm_i x2), some (jm_i x3), some (jm_i x4)], [jm_i (h.1 23 x0 x4.toNatClampNeg), jm_i x2, jm_i x3], h)) rfl ?_
      refine jm_E_idiv rfl H.1 ?_
      replace H := H.2
      refine jm_E_eq (x := (30, [some (jm_r 2 x0), none, some (jm_i x2), some (jm_i x3), some (jm_i x4)], [jm_i (x2 / (h.1 23 x0 x4.toNatClampNeg)), jm_i x3], h)) rfl ?_
      refine jm_E_n 5 (x' := (14, [some (jm_r 2 x0), none, some (jm_i x2), some (jm_i (x3 + (x2 / (h.1 23 x0 x4.toNatClampNeg)))), some (jm_i (x4 + 1))], [], h)) rfl ?_
      exact H
set_option maxRecDepth 100000 in
theorem wp_Mode_jobsWith {o : Nat} {a0 : Int32} {h : jm_H} {r : jm_Rs} (H :
  ∃ (v1 : Int32) (h1 : jm_H), m_Mode_commonWith o a0 h v1 h1 ∧
  (a0 ≤ 0 →
    l_Mode_jobsWith_14 o v1 0 0 h1 r) ∧
  (¬ (a0 ≤ 0) →
    ¬ a0 = 0 ∧
    l_Mode_jobsWith_14 o v1 (v1 / a0) 0 h1 r)) : jm_R 232 [jm_r 2 o, jm_i a0] h r := by
  refine jm_R_of hz_232 (Nat.le_of_ble_eq_true rfl) ?_
  show jm_E cod_232 (0, [some (jm_r 2 o), some (jm_i a0), none, none, none], [], h) r
  refine jm_E_n 2 (x' := (2, [some (jm_r 2 o), some (jm_i a0), none, none, none], [jm_i a0, jm_r 2 o], h)) rfl ?_
  obtain ⟨v1, h1, hR, H⟩ := H
  refine jm_E_call rfl (Nat.le_of_ble_eq_true rfl) (Nat.le_of_ble_eq_true rfl) rfl hR trivial ?_
  refine jm_E_eq (x := (3, [some (jm_r 2 o), some (jm_i a0), none, none, none], [jm_i v1], h1)) rfl ?_
  refine jm_E_n 3 (x' := (if a0 ≤ 0 then 10 else 6, [some (jm_r 2 o), some (jm_i a0), some (jm_i v1), none, none], [], h1)) rfl ?_
  refine jm_E_ite (fun hc => ?_) (fun hc => ?_)
  · replace H := H.1 hc
    refine jm_E_n 4 (x' := (14, [some (jm_r 2 o), some (jm_i a0), some (jm_i v1), some (jm_i 0), some (jm_i 0)], [], h1)) rfl ?_
    exact jm_E_weak (jm_le_s (jm_le_n (jm_le_s (jm_le_s (jm_le_s jm_le_nil))))) H
  · replace H := H.2 hc
    refine jm_E_n 2 (x' := (8, [some (jm_r 2 o), some (jm_i a0), some (jm_i v1), none, none], [jm_i a0, jm_i v1], h1)) rfl ?_
    refine jm_E_idiv rfl H.1 ?_
    replace H := H.2
    refine jm_E_eq (x := (9, [some (jm_r 2 o), some (jm_i a0), some (jm_i v1), none, none], [jm_i (v1 / a0)], h1)) rfl ?_
    refine jm_E_n 4 (x' := (14, [some (jm_r 2 o), some (jm_i a0), some (jm_i v1), some (jm_i (v1 / a0)), some (jm_i 0)], [], h1)) rfl ?_
    exact jm_E_weak (jm_le_s (jm_le_n (jm_le_s (jm_le_s (jm_le_s jm_le_nil))))) H
set_option maxRecDepth 100000 in
theorem wp_Mode_addTask {o : Nat} {a0 : Int32} {a1 : Int32} {h : jm_H} {r : jm_Rs} (H :
  ∃ (v1 : Int32) (h1 : jm_H), m_Mode_commonWith o a1 h v1 h1 ∧
  jm_in (if (5 : Int32) < (h.1 2 o 2) then 5 else (h.1 2 o 2)) 6 ∧
  jm_in (if (5 : Int32) < (h.1 2 o 2) then 5 else (h.1 2 o 2)) 6 ∧
  r = (some (jm_i (if (5 : Int32) < (h.1 2 o 2) then 5 else (h.1 2 o 2))), (jm_sI (jm_sI (jm_sI (jm_sI h1 2 o 4 v1) 22 o ((if (5 : Int32) < (h.1 2 o 2) then 5 else (h.1 2 o 2)).toNatClampNeg) a0) 23 o ((if (5 : Int32) < (h.1 2 o 2) then 5 else (h.1 2 o 2)).toNatClampNeg) a1) 2 o 2 ((if (5 : Int32) < (h.1 2 o 2) then 5 else (h.1 2 o 2)) + 1)))) : jm_R 234 [jm_r 2 o, jm_i a0, jm_i a1] h r := by
  refine jm_R_of hz_234 (Nat.le_of_ble_eq_true rfl) ?_
  show jm_E cod_234 (0, [some (jm_r 2 o), some (jm_i a0), some (jm_i a1), none], [], h) r
  refine jm_E_n 8 (x' := (8, [some (jm_r 2 o), some (jm_i a0), some (jm_i a1), some (jm_i (if (5 : Int32) < (h.1 2 o 2) then 5 else (h.1 2 o 2)))], [jm_i a1, jm_r 2 o, jm_r 2 o], h)) rfl ?_
  obtain ⟨v1, h1, hR, H⟩ := H
  refine jm_E_call rfl (Nat.le_of_ble_eq_true rfl) (Nat.le_of_ble_eq_true rfl) rfl hR trivial ?_
  refine jm_E_eq (x := (9, [some (jm_r 2 o), some (jm_i a0), some (jm_i a1), some (jm_i (if (5 : Int32) < (h.1 2 o 2) then 5 else (h.1 2 o 2)))], [jm_i v1, jm_r 2 o], h1)) rfl ?_
  refine jm_E_n 5 (x' := (14, [some (jm_r 2 o), some (jm_i a0), some (jm_i a1), some (jm_i (if (5 : Int32) < (h.1 2 o 2) then 5 else (h.1 2 o 2)))], [jm_i a0, jm_i (if (5 : Int32) < (h.1 2 o 2) then 5 else (h.1 2 o 2)), jm_r 22 o], (jm_sI h1 2 o 4 v1))) rfl ?_
  refine jm_E_iast rfl rfl H.1 ?_
  replace H := H.2
  refine jm_E_eq (x := (15, [some (jm_r 2 o), some (jm_i a0), some (jm_i a1), some (jm_i (if (5 : Int32) < (h.1 2 o 2) then 5 else (h.1 2 o 2)))], [], (jm_sI (jm_sI h1 2 o 4 v1) 22 o ((if (5 : Int32) < (h.1 2 o 2) then 5 else (h.1 2 o 2)).toNatClampNeg) a0))) rfl ?_
  refine jm_E_n 4 (x' := (19, [some (jm_r 2 o), some (jm_i a0), some (jm_i a1), some (jm_i (if (5 : Int32) < (h.1 2 o 2) then 5 else (h.1 2 o 2)))], [jm_i a1, jm_i (if (5 : Int32) < (h.1 2 o 2) then 5 else (h.1 2 o 2)), jm_r 23 o], (jm_sI (jm_sI h1 2 o 4 v1) 22 o ((if (5 : Int32) < (h.1 2 o 2) then 5 else (h.1 2 o 2)).toNatClampNeg) a0))) rfl ?_
  refine jm_E_iast rfl rfl H.1 ?_
  replace H := H.2
  refine jm_E_eq (x := (20, [some (jm_r 2 o), some (jm_i a0), some (jm_i a1), some (jm_i (if (5 : Int32) < (h.1 2 o 2) then 5 else (h.1 2 o 2)))], [], (jm_sI (jm_sI (jm_sI h1 2 o 4 v1) 22 o ((if (5 : Int32) < (h.1 2 o 2) then 5 else (h.1 2 o 2)).toNatClampNeg) a0) 23 o ((if (5 : Int32) < (h.1 2 o 2) then 5 else (h.1 2 o 2)).toNatClampNeg) a1))) rfl ?_
  refine jm_E_n 6 (x' := (26, [some (jm_r 2 o), some (jm_i a0), some (jm_i a1), some (jm_i (if (5 : Int32) < (h.1 2 o 2) then 5 else (h.1 2 o 2)))], [jm_i (if (5 : Int32) < (h.1 2 o 2) then 5 else (h.1 2 o 2))], (jm_sI (jm_sI (jm_sI (jm_sI h1 2 o 4 v1) 22 o ((if (5 : Int32) < (h.1 2 o 2) then 5 else (h.1 2 o 2)).toNatClampNeg) a0) 23 o ((if (5 : Int32) < (h.1 2 o 2) then 5 else (h.1 2 o 2)).toNatClampNeg) a1) 2 o 2 ((if (5 : Int32) < (h.1 2 o 2) then 5 else (h.1 2 o 2)) + 1)))) rfl ?_
  exact jm_E_ret rfl (by rw [H]; rfl)
set_option maxRecDepth 100000 in
theorem wp_Reader_readTask  {h : jm_H} {r : jm_Rs} (H :
  ((h.1 3 (h.2.1 4 0 9) 0) = 0 →
    ∃ (v1 : Int32) (h1 : jm_H), m_Reader_fail 4 h v1 h1 ∧
    narrow .boolean (.int v1) = .int v1 ∧ r = (some (jm_i v1), h1)) ∧
  (¬ ((h.1 3 (h.2.1 4 0 9) 0) = 0) →
    jm_in ((h.1 3 (h.2.1 4 0 9) 0) - 1) 3 ∧
    ((h.1 2 (3 * (h.2.1 4 0 9) + ((h.1 3 (h.2.1 4 0 9) 0) - 1).toNatClampNeg) 2) < 6 →
      ∃ (v2 : Int32) (h2 : jm_H), m_Reader_readPart 4 0 59 h v2 h2 ∧
      (v2 = 0 →
        r = (some (jm_i 0), h2)) ∧
      (¬ (v2 = 0) →
        ∃ (v3 : Int32) (h3 : jm_H), m_Reader_readPart 5 ((h2.1 4 0 6) + 1) 60 h2 v3 h3 ∧
        (v3 = 0 →
          r = (some (jm_i 0), h3)) ∧
        (¬ (v3 = 0) →
          ∃ (v4 : Int32) (h4 : jm_H), m_Mode_commonWith (3 * (h.2.1 4 0 9) + ((h.1 3 (h.2.1 4 0 9) 0) - 1).toNatClampNeg) (h3.1 4 0 6) h3 v4 h4 ∧
          (v4 ≤ 96 →
            ∃ (v5 : Int32) (h5 : jm_H), m_Mode_jobsWith (3 * (h.2.1 4 0 9) + ((h.1 3 (h.2.1 4 0 9) 0) - 1).toNatClampNeg) (h3.1 4 0 6) h4 v5 h5 ∧
            (v5 ≤ 24 →
              ∃ (v6 : Int32) (h6 : jm_H), m_Mode_addTask (3 * (h.2.1 4 0 9) + ((h.1 3 (h.2.1 4 0 9) 0) - 1).toNatClampNeg) (h2.1 4 0 6) (h3.1 4 0 6) h5 v6 h6 ∧
              ∃ (v7 : Int32) (h7 : jm_H), m_Reader_readPart 6 1 60 h6 v7 h7 ∧
              (v7 = 0 →
                r = (some (jm_i 0), h7)) ∧
              (¬ (v7 = 0) →
                jm_in v6 6 ∧
                ∃ (v8 : Int32) (h8 : jm_H), m_Reader_readPart 7 1 ((h3.1 4 0 6) - (h2.1 4 0 6)) (jm_sI h7 24 (3 * (h.2.1 4 0 9) + ((h.1 3 (h.2.1 4 0 9) 0) - 1).toNatClampNeg) v6.toNatClampNeg (h7.1 4 0 6)) v8 h8 ∧
                (v8 = 0 →
                  r = (some (jm_i 0), h8)) ∧
                (¬ (v8 = 0) →
                  jm_in v6 6 ∧
                  r = (some (jm_i 1), (jm_sI h8 25 (3 * (h.2.1 4 0 9) + ((h.1 3 (h.2.1 4 0 9) 0) - 1).toNatClampNeg) v6.toNatClampNeg (h8.1 4 0 6)))))) ∧
            (¬ (v5 ≤ 24) →
              ∃ (v9 : Int32) (h9 : jm_H), m_Reader_fail 6 h5 v9 h9 ∧
              narrow .boolean (.int v9) = .int v9 ∧ r = (some (jm_i v9), h9))) ∧
          (¬ (v4 ≤ 96) →
            ∃ (v10 : Int32) (h10 : jm_H), m_Reader_fail 5 h4 v10 h10 ∧
            narrow .boolean (.int v10) = .int v10 ∧ r = (some (jm_i v10), h10))))) ∧
    (¬ ((h.1 2 (3 * (h.2.1 4 0 9) + ((h.1 3 (h.2.1 4 0 9) 0) - 1).toNatClampNeg) 2) < 6) →
      ∃ (v11 : Int32) (h11 : jm_H), m_Reader_fail 3 h v11 h11 ∧
      narrow .boolean (.int v11) = .int v11 ∧ r = (some (jm_i v11), h11)))) : jm_R 244 [jm_r 4 0] h r := by
  refine jm_R_of hz_244 (Nat.le_of_ble_eq_true rfl) ?_
  show jm_E cod_244 (0, [some (jm_r 4 0), none, none, none, none], [], h) r
  refine jm_E_n 4 (x' := (if (h.1 3 (h.2.1 4 0 9) 0) = 0 then 4 else 8, [some (jm_r 4 0), none, none, none, none], [], h)) rfl ?_
  refine jm_E_ite (fun hc => ?_) (fun hc => ?_)
  · replace H := H.1 hc
    refine jm_E_n 2 (x' := (6, [some (jm_r 4 0), none, none, none, none], [jm_i 4, jm_r 4 0], h)) rfl ?_
    obtain ⟨v1, h1, hR, H⟩ := H
    refine jm_E_call rfl (Nat.le_of_ble_eq_true rfl) (Nat.le_of_ble_eq_true rfl) rfl hR trivial ?_
    refine jm_E_eq (x := (7, [some (jm_r 4 0), none, none, none, none], [jm_i v1], h1)) rfl ?_
    exact jm_E_ret rfl (by rw [H.2]; exact if_pos H.1)
  · replace H := H.2 hc
    refine jm_E_n 8 (x' := (16, [some (jm_r 4 0), none, none, none, none], [jm_i ((h.1 3 (h.2.1 4 0 9) 0) - 1), jm_r 28 (h.2.1 4 0 9)], h)) rfl ?_
    refine jm_E_aald rfl rfl H.1 ?_
    replace H := H.2
    refine jm_E_eq (x := (17, [some (jm_r 4 0), none, none, none, none], [jm_r 2 (3 * (h.2.1 4 0 9) + ((h.1 3 (h.2.1 4 0 9) 0) - 1).toNatClampNeg)], h)) rfl ?_
    refine jm_E_n 5 (x' := (if (h.1 2 (3 * (h.2.1 4 0 9) + ((h.1 3 (h.2.1 4 0 9) 0) - 1).toNatClampNeg) 2) < 6 then 26 else 22, [some (jm_r 4 0), some (jm_r 2 (3 * (h.2.1 4 0 9) + ((h.1 3 (h.2.1 4 0 9) 0) - 1).toNatClampNeg)), none, none, none], [], h)) rfl ?_
    refine jm_E_ite (fun hc => ?_) (fun hc => ?_)
    · replace H := H.1 hc
      refine jm_E_n 4 (x' := (30, [some (jm_r 4 0), some (jm_r 2 (3 * (h.2.1 4 0 9) + ((h.1 3 (h.2.1 4 0 9) 0) - 1).toNatClampNeg)), none, none, none], [jm_i 59, jm_i 0, jm_r 60 4, jm_r 4 0], h)) rfl ?_
      obtain ⟨v2, h2, hR, H⟩ := H
      refine jm_E_call rfl (Nat.le_of_ble_eq_true rfl) (Nat.le_of_ble_eq_true rfl) rfl hR trivial ?_
      refine jm_E_eq (x := (31, [some (jm_r 4 0), some (jm_r 2 (3 * (h.2.1 4 0 9) + ((h.1 3 (h.2.1 4 0 9) 0) - 1).toNatClampNeg)), none, none, none], [jm_i v2], h2)) rfl ?_
      refine jm_E_n 1 (x' := (if v2 = 0 then 32 else 34, [some (jm_r 4 0), some (jm_r 2 (3 * (h.2.1 4 0 9) + ((h.1 3 (h.2.1 4 0 9) 0) - 1).toNatClampNeg)), none, none, none], [], h2)) rfl ?_
      refine jm_E_ite (fun hc => ?_) (fun hc => ?_)
      · replace H := H.1 hc
        refine jm_E_n 1 (x' := (33, [some (jm_r 4 0), some (jm_r 2 (3 * (h.2.1 4 0 9) + ((h.1 3 (h.2.1 4 0 9) 0) - 1).toNatClampNeg)), none, none, none], [jm_i 0], h2)) rfl ?_
        exact jm_E_ret rfl (by rw [H]; rfl)
      · replace H := H.2 hc
        refine jm_E_n 9 (x' := (43, [some (jm_r 4 0), some (jm_r 2 (3 * (h.2.1 4 0 9) + ((h.1 3 (h.2.1 4 0 9) 0) - 1).toNatClampNeg)), some (jm_i (h2.1 4 0 6)), none, none], [jm_i 60, jm_i ((h2.1 4 0 6) + 1), jm_r 60 5, jm_r 4 0], h2)) rfl ?_
        obtain ⟨v3, h3, hR, H⟩ := H
        refine jm_E_call rfl (Nat.le_of_ble_eq_true rfl) (Nat.le_of_ble_eq_true rfl) rfl hR trivial ?_
        refine jm_E_eq (x := (44, [some (jm_r 4 0), some (jm_r 2 (3 * (h.2.1 4 0 9) + ((h.1 3 (h.2.1 4 0 9) 0) - 1).toNatClampNeg)), some (jm_i (h2.1 4 0 6)), none, none], [jm_i v3], h3)) rfl ?_
        refine jm_E_n 1 (x' := (if v3 = 0 then 45 else 47, [some (jm_r 4 0), some (jm_r 2 (3 * (h.2.1 4 0 9) + ((h.1 3 (h.2.1 4 0 9) 0) - 1).toNatClampNeg)), some (jm_i (h2.1 4 0 6)), none, none], [], h3)) rfl ?_
        refine jm_E_ite (fun hc => ?_) (fun hc => ?_)
        · replace H := H.1 hc
          refine jm_E_n 1 (x' := (46, [some (jm_r 4 0), some (jm_r 2 (3 * (h.2.1 4 0 9) + ((h.1 3 (h.2.1 4 0 9) 0) - 1).toNatClampNeg)), some (jm_i (h2.1 4 0 6)), none, none], [jm_i 0], h3)) rfl ?_
          exact jm_E_ret rfl (by rw [H]; rfl)
        · replace H := H.2 hc
          refine jm_E_n 5 (x' := (52, [some (jm_r 4 0), some (jm_r 2 (3 * (h.2.1 4 0 9) + ((h.1 3 (h.2.1 4 0 9) 0) - 1).toNatClampNeg)), some (jm_i (h2.1 4 0 6)), some (jm_i (h3.1 4 0 6)), none], [jm_i (h3.1 4 0 6), jm_r 2 (3 * (h.2.1 4 0 9) + ((h.1 3 (h.2.1 4 0 9) 0) - 1).toNatClampNeg)], h3)) rfl ?_
          obtain ⟨v4, h4, hR, H⟩ := H
          refine jm_E_call rfl (Nat.le_of_ble_eq_true rfl) (Nat.le_of_ble_eq_true rfl) rfl hR trivial ?_
          refine jm_E_eq (x := (53, [some (jm_r 4 0), some (jm_r 2 (3 * (h.2.1 4 0 9) + ((h.1 3 (h.2.1 4 0 9) 0) - 1).toNatClampNeg)), some (jm_i (h2.1 4 0 6)), some (jm_i (h3.1 4 0 6)), none], [jm_i v4], h4)) rfl ?_
          refine jm_E_n 2 (x' := (if v4 ≤ 96 then 59 else 55, [some (jm_r 4 0), some (jm_r 2 (3 * (h.2.1 4 0 9) + ((h.1 3 (h.2.1 4 0 9) 0) - 1).toNatClampNeg)), some (jm_i (h2.1 4 0 6)), some (jm_i (h3.1 4 0 6)), none], [], h4)) rfl ?_
          refine jm_E_ite (fun hc => ?_) (fun hc => ?_)
          · replace H := H.1 hc
            refine jm_E_n 2 (x' := (61, [some (jm_r 4 0), some (jm_r 2 (3 * (h.2.1 4 0 9) + ((h.1 3 (h.2.1 4 0 9) 0) - 1).toNatClampNeg)), some (jm_i (h2.1 4 0 6)), some (jm_i (h3.1 4 0 6)), none], [jm_i (h3.1 4 0 6), jm_r 2 (3 * (h.2.1 4 0 9) + ((h.1 3 (h.2.1 4 0 9) 0) - 1).toNatClampNeg)], h4)) rfl ?_
            obtain ⟨v5, h5, hR, H⟩ := H
            refine jm_E_call rfl (Nat.le_of_ble_eq_true rfl) (Nat.le_of_ble_eq_true rfl) rfl hR trivial ?_
            refine jm_E_eq (x := (62, [some (jm_r 4 0), some (jm_r 2 (3 * (h.2.1 4 0 9) + ((h.1 3 (h.2.1 4 0 9) 0) - 1).toNatClampNeg)), some (jm_i (h2.1 4 0 6)), some (jm_i (h3.1 4 0 6)), none], [jm_i v5], h5)) rfl ?_
            refine jm_E_n 2 (x' := (if v5 ≤ 24 then 68 else 64, [some (jm_r 4 0), some (jm_r 2 (3 * (h.2.1 4 0 9) + ((h.1 3 (h.2.1 4 0 9) 0) - 1).toNatClampNeg)), some (jm_i (h2.1 4 0 6)), some (jm_i (h3.1 4 0 6)), none], [], h5)) rfl ?_
            refine jm_E_ite (fun hc => ?_) (fun hc => ?_)
            · replace H := H.1 hc
              refine jm_E_n 3 (x' := (71, [some (jm_r 4 0), some (jm_r 2 (3 * (h.2.1 4 0 9) + ((h.1 3 (h.2.1 4 0 9) 0) - 1).toNatClampNeg)), some (jm_i (h2.1 4 0 6)), some (jm_i (h3.1 4 0 6)), none], [jm_i (h3.1 4 0 6), jm_i (h2.1 4 0 6), jm_r 2 (3 * (h.2.1 4 0 9) + ((h.1 3 (h.2.1 4 0 9) 0) - 1).toNatClampNeg)], h5)) rfl ?_
              obtain ⟨v6, h6, hR, H⟩ := H
              refine jm_E_call rfl (Nat.le_of_ble_eq_true rfl) (Nat.le_of_ble_eq_true rfl) rfl hR trivial ?_
              refine jm_E_eq (x := (72, [some (jm_r 4 0), some (jm_r 2 (3 * (h.2.1 4 0 9) + ((h.1 3 (h.2.1 4 0 9) 0) - 1).toNatClampNeg)), some (jm_i (h2.1 4 0 6)), some (jm_i (h3.1 4 0 6)), none], [jm_i v6], h6)) rfl ?_
              refine jm_E_n 5 (x' := (77, [some (jm_r 4 0), some (jm_r 2 (3 * (h.2.1 4 0 9) + ((h.1 3 (h.2.1 4 0 9) 0) - 1).toNatClampNeg)), some (jm_i (h2.1 4 0 6)), some (jm_i (h3.1 4 0 6)), some (jm_i v6)], [jm_i 60, jm_i 1, jm_r 60 6, jm_r 4 0], h6)) rfl ?_
              obtain ⟨v7, h7, hR, H⟩ := H
              refine jm_E_call rfl (Nat.le_of_ble_eq_true rfl) (Nat.le_of_ble_eq_true rfl) rfl hR trivial ?_
              refine jm_E_eq (x := (78, [some (jm_r 4 0), some (jm_r 2 (3 * (h.2.1 4 0 9) + ((h.1 3 (h.2.1 4 0 9) 0) - 1).toNatClampNeg)), some (jm_i (h2.1 4 0 6)), some (jm_i (h3.1 4 0 6)), some (jm_i v6)], [jm_i v7], h7)) rfl ?_
              refine jm_E_n 1 (x' := (if v7 = 0 then 79 else 81, [some (jm_r 4 0), some (jm_r 2 (3 * (h.2.1 4 0 9) + ((h.1 3 (h.2.1 4 0 9) 0) - 1).toNatClampNeg)), some (jm_i (h2.1 4 0 6)), some (jm_i (h3.1 4 0 6)), some (jm_i v6)], [], h7)) rfl ?_
              refine jm_E_ite (fun hc => ?_) (fun hc => ?_)
              · replace H := H.1 hc
                refine jm_E_n 1 (x' := (80, [some (jm_r 4 0), some (jm_r 2 (3 * (h.2.1 4 0 9) + ((h.1 3 (h.2.1 4 0 9) 0) - 1).toNatClampNeg)), some (jm_i (h2.1 4 0 6)), some (jm_i (h3.1 4 0 6)), some (jm_i v6)], [jm_i 0], h7)) rfl ?_
                exact jm_E_ret rfl (by rw [H]; rfl)
              · replace H := H.2 hc
                refine jm_E_n 5 (x' := (86, [some (jm_r 4 0), some (jm_r 2 (3 * (h.2.1 4 0 9) + ((h.1 3 (h.2.1 4 0 9) 0) - 1).toNatClampNeg)), some (jm_i (h2.1 4 0 6)), some (jm_i (h3.1 4 0 6)), some (jm_i v6)], [jm_i (h7.1 4 0 6), jm_i v6, jm_r 24 (3 * (h.2.1 4 0 9) + ((h.1 3 (h.2.1 4 0 9) 0) - 1).toNatClampNeg)], h7)) rfl ?_
                refine jm_E_iast rfl rfl H.1 ?_
                replace H := H.2
                refine jm_E_eq (x := (87, [some (jm_r 4 0), some (jm_r 2 (3 * (h.2.1 4 0 9) + ((h.1 3 (h.2.1 4 0 9) 0) - 1).toNatClampNeg)), some (jm_i (h2.1 4 0 6)), some (jm_i (h3.1 4 0 6)), some (jm_i v6)], [], (jm_sI h7 24 (3 * (h.2.1 4 0 9) + ((h.1 3 (h.2.1 4 0 9) 0) - 1).toNatClampNeg) v6.toNatClampNeg (h7.1 4 0 6)))) rfl ?_
                refine jm_E_n 6 (x' := (93, [some (jm_r 4 0), some (jm_r 2 (3 * (h.2.1 4 0 9) + ((h.1 3 (h.2.1 4 0 9) 0) - 1).toNatClampNeg)), some (jm_i (h2.1 4 0 6)), some (jm_i (h3.1 4 0 6)), some (jm_i v6)], [jm_i ((h3.1 4 0 6) - (h2.1 4 0 6)), jm_i 1, jm_r 60 7, jm_r 4 0], (jm_sI h7 24 (3 * (h.2.1 4 0 9) + ((h.1 3 (h.2.1 4 0 9) 0) - 1).toNatClampNeg) v6.toNatClampNeg (h7.1 4 0 6)))) rfl ?_
                obtain ⟨v8, h8, hR, H⟩ := H
                refine jm_E_call rfl (Nat.le_of_ble_eq_true rfl) (Nat.le_of_ble_eq_true rfl) rfl hR trivial ?_
                refine jm_E_eq (x := (94, [some (jm_r 4 0), some (jm_r 2 (3 * (h.2.1 4 0 9) + ((h.1 3 (h.2.1 4 0 9) 0) - 1).toNatClampNeg)), some (jm_i (h2.1 4 0 6)), some (jm_i (h3.1 4 0 6)), some (jm_i v6)], [jm_i v8], h8)) rfl ?_
                refine jm_E_n 1 (x' := (if v8 = 0 then 95 else 97, [some (jm_r 4 0), some (jm_r 2 (3 * (h.2.1 4 0 9) + ((h.1 3 (h.2.1 4 0 9) 0) - 1).toNatClampNeg)), some (jm_i (h2.1 4 0 6)), some (jm_i (h3.1 4 0 6)), some (jm_i v6)], [], h8)) rfl ?_
                refine jm_E_ite (fun hc => ?_) (fun hc => ?_)
                · replace H := H.1 hc
                  refine jm_E_n 1 (x' := (96, [some (jm_r 4 0), some (jm_r 2 (3 * (h.2.1 4 0 9) + ((h.1 3 (h.2.1 4 0 9) 0) - 1).toNatClampNeg)), some (jm_i (h2.1 4 0 6)), some (jm_i (h3.1 4 0 6)), some (jm_i v6)], [jm_i 0], h8)) rfl ?_
                  exact jm_E_ret rfl (by rw [H]; rfl)
                · replace H := H.2 hc
                  refine jm_E_n 5 (x' := (102, [some (jm_r 4 0), some (jm_r 2 (3 * (h.2.1 4 0 9) + ((h.1 3 (h.2.1 4 0 9) 0) - 1).toNatClampNeg)), some (jm_i (h2.1 4 0 6)), some (jm_i (h3.1 4 0 6)), some (jm_i v6)], [jm_i (h8.1 4 0 6), jm_i v6, jm_r 25 (3 * (h.2.1 4 0 9) + ((h.1 3 (h.2.1 4 0 9) 0) - 1).toNatClampNeg)], h8)) rfl ?_
                  refine jm_E_iast rfl rfl H.1 ?_
                  replace H := H.2
                  refine jm_E_eq (x := (103, [some (jm_r 4 0), some (jm_r 2 (3 * (h.2.1 4 0 9) + ((h.1 3 (h.2.1 4 0 9) 0) - 1).toNatClampNeg)), some (jm_i (h2.1 4 0 6)), some (jm_i (h3.1 4 0 6)), some (jm_i v6)], [], (jm_sI h8 25 (3 * (h.2.1 4 0 9) + ((h.1 3 (h.2.1 4 0 9) 0) - 1).toNatClampNeg) v6.toNatClampNeg (h8.1 4 0 6)))) rfl ?_
                  refine jm_E_n 1 (x' := (104, [some (jm_r 4 0), some (jm_r 2 (3 * (h.2.1 4 0 9) + ((h.1 3 (h.2.1 4 0 9) 0) - 1).toNatClampNeg)), some (jm_i (h2.1 4 0 6)), some (jm_i (h3.1 4 0 6)), some (jm_i v6)], [jm_i 1], (jm_sI h8 25 (3 * (h.2.1 4 0 9) + ((h.1 3 (h.2.1 4 0 9) 0) - 1).toNatClampNeg) v6.toNatClampNeg (h8.1 4 0 6)))) rfl ?_
                  exact jm_E_ret rfl (by rw [H]; rfl)
            · replace H := H.2 hc
              refine jm_E_n 2 (x' := (66, [some (jm_r 4 0), some (jm_r 2 (3 * (h.2.1 4 0 9) + ((h.1 3 (h.2.1 4 0 9) 0) - 1).toNatClampNeg)), some (jm_i (h2.1 4 0 6)), some (jm_i (h3.1 4 0 6)), none], [jm_i 6, jm_r 4 0], h5)) rfl ?_
              obtain ⟨v9, h9, hR, H⟩ := H
              refine jm_E_call rfl (Nat.le_of_ble_eq_true rfl) (Nat.le_of_ble_eq_true rfl) rfl hR trivial ?_
              refine jm_E_eq (x := (67, [some (jm_r 4 0), some (jm_r 2 (3 * (h.2.1 4 0 9) + ((h.1 3 (h.2.1 4 0 9) 0) - 1).toNatClampNeg)), some (jm_i (h2.1 4 0 6)), some (jm_i (h3.1 4 0 6)), none], [jm_i v9], h9)) rfl ?_
              exact jm_E_ret rfl (by rw [H.2]; exact if_pos H.1)
          · replace H := H.2 hc
            refine jm_E_n 2 (x' := (57, [some (jm_r 4 0), some (jm_r 2 (3 * (h.2.1 4 0 9) + ((h.1 3 (h.2.1 4 0 9) 0) - 1).toNatClampNeg)), some (jm_i (h2.1 4 0 6)), some (jm_i (h3.1 4 0 6)), none], [jm_i 5, jm_r 4 0], h4)) rfl ?_
            obtain ⟨v10, h10, hR, H⟩ := H
            refine jm_E_call rfl (Nat.le_of_ble_eq_true rfl) (Nat.le_of_ble_eq_true rfl) rfl hR trivial ?_
            refine jm_E_eq (x := (58, [some (jm_r 4 0), some (jm_r 2 (3 * (h.2.1 4 0 9) + ((h.1 3 (h.2.1 4 0 9) 0) - 1).toNatClampNeg)), some (jm_i (h2.1 4 0 6)), some (jm_i (h3.1 4 0 6)), none], [jm_i v10], h10)) rfl ?_
            exact jm_E_ret rfl (by rw [H.2]; exact if_pos H.1)
    · replace H := H.2 hc
      refine jm_E_n 2 (x' := (24, [some (jm_r 4 0), some (jm_r 2 (3 * (h.2.1 4 0 9) + ((h.1 3 (h.2.1 4 0 9) 0) - 1).toNatClampNeg)), none, none, none], [jm_i 3, jm_r 4 0], h)) rfl ?_
      obtain ⟨v11, h11, hR, H⟩ := H
      refine jm_E_call rfl (Nat.le_of_ble_eq_true rfl) (Nat.le_of_ble_eq_true rfl) rfl hR trivial ?_
      refine jm_E_eq (x := (25, [some (jm_r 4 0), some (jm_r 2 (3 * (h.2.1 4 0 9) + ((h.1 3 (h.2.1 4 0 9) 0) - 1).toNatClampNeg)), none, none, none], [jm_i v11], h11)) rfl ?_
      exact jm_E_ret rfl (by rw [H.2]; exact if_pos H.1)
set_option maxRecDepth 100000 in
theorem wp_Mode_isReleased {o : Nat} {a0 : Int32} {a1 : Int32} {h : jm_H} {r : jm_Rs} (H :
  jm_in a0 6 ∧
  (a1 < (h.1 22 o a0.toNatClampNeg) →
    r = (some (jm_i 0), h)) ∧
  (¬ (a1 < (h.1 22 o a0.toNatClampNeg)) →
    jm_in a0 6 ∧
    ((h.1 23 o a0.toNatClampNeg) ≤ 0 →
      r = (some (jm_i 0), h)) ∧
    (¬ ((h.1 23 o a0.toNatClampNeg) ≤ 0) →
      jm_in a0 6 ∧
      jm_in a0 6 ∧
      ¬ (h.1 23 o a0.toNatClampNeg) = 0 ∧
      (((a1 - (h.1 22 o a0.toNatClampNeg)) - (a1 - (h.1 22 o a0.toNatClampNeg)) / (h.1 23 o a0.toNatClampNeg) * (h.1 23 o a0.toNatClampNeg)) = 0 →
        r = (some (jm_i 1), h)) ∧
      (¬ (((a1 - (h.1 22 o a0.toNatClampNeg)) - (a1 - (h.1 22 o a0.toNatClampNeg)) / (h.1 23 o a0.toNatClampNeg) * (h.1 23 o a0.toNatClampNeg)) = 0) →
        r = (some (jm_i 0), h))))) : jm_R 236 [jm_r 2 o, jm_i a0, jm_i a1] h r := by
  refine jm_R_of hz_236 (Nat.le_of_ble_eq_true rfl) ?_
  show jm_E cod_236 (0, [some (jm_r 2 o), some (jm_i a0), some (jm_i a1)], [], h) r
  refine jm_E_n 4 (x' := (4, [some (jm_r 2 o), some (jm_i a0), some (jm_i a1)], [jm_i a0, jm_r 22 o, jm_i a1], h)) rfl ?_
  refine jm_E_iald rfl rfl H.1 ?_
  replace H := H.2
  refine jm_E_eq (x := (5, [some (jm_r 2 o), some (jm_i a0), some (jm_i a1)], [jm_i (h.1 22 o a0.toNatClampNeg), jm_i a1], h)) rfl ?_
  refine jm_E_n 1 (x' := (if a1 < (h.1 22 o a0.toNatClampNeg) then 25 else 6, [some (jm_r 2 o), some (jm_i a0), some (jm_i a1)], [], h)) rfl ?_
  refine jm_E_ite (fun hc => ?_) (fun hc => ?_)
  · replace H := H.1 hc
    refine jm_E_n 1 (x' := (26, [some (jm_r 2 o), some (jm_i a0), some (jm_i a1)], [jm_i 0], h)) rfl ?_
    exact jm_E_ret rfl (by rw [H]; rfl)
  · replace H := H.2 hc
    refine jm_E_n 3 (x' := (9, [some (jm_r 2 o), some (jm_i a0), some (jm_i a1)], [jm_i a0, jm_r 23 o], h)) rfl ?_
    refine jm_E_iald rfl rfl H.1 ?_
    replace H := H.2
    refine jm_E_eq (x := (10, [some (jm_r 2 o), some (jm_i a0), some (jm_i a1)], [jm_i (h.1 23 o a0.toNatClampNeg)], h)) rfl ?_
    refine jm_E_n 1 (x' := (if (h.1 23 o a0.toNatClampNeg) ≤ 0 then 25 else 11, [some (jm_r 2 o), some (jm_i a0), some (jm_i a1)], [], h)) rfl ?_
    refine jm_E_ite (fun hc => ?_) (fun hc => ?_)
    · replace H := H.1 hc
      refine jm_E_n 1 (x' := (26, [some (jm_r 2 o), some (jm_i a0), some (jm_i a1)], [jm_i 0], h)) rfl ?_
      exact jm_E_ret rfl (by rw [H]; rfl)
    · replace H := H.2 hc
      refine jm_E_n 4 (x' := (15, [some (jm_r 2 o), some (jm_i a0), some (jm_i a1)], [jm_i a0, jm_r 22 o, jm_i a1], h)) rfl ?_
      refine jm_E_iald rfl rfl H.1 ?_
      replace H := H.2
      refine jm_E_eq (x := (16, [some (jm_r 2 o), some (jm_i a0), some (jm_i a1)], [jm_i (h.1 22 o a0.toNatClampNeg), jm_i a1], h)) rfl ?_
      refine jm_E_n 4 (x' := (20, [some (jm_r 2 o), some (jm_i a0), some (jm_i a1)], [jm_i a0, jm_r 23 o, jm_i (a1 - (h.1 22 o a0.toNatClampNeg))], h)) rfl ?_
      refine jm_E_iald rfl rfl H.1 ?_
      replace H := H.2
      refine jm_E_eq (x := (21, [some (jm_r 2 o), some (jm_i a0), some (jm_i a1)], [jm_i (h.1 23 o a0.toNatClampNeg), jm_i (a1 - (h.1 22 o a0.toNatClampNeg))], h)) rfl ?_
      refine jm_E_irem rfl H.1 ?_
      replace H := H.2
      refine jm_E_eq (x := (22, [some (jm_r 2 o), some (jm_i a0), some (jm_i a1)], [jm_i ((a1 - (h.1 22 o a0.toNatClampNeg)) - (a1 - (h.1 22 o a0.toNatClampNeg)) / (h.1 23 o a0.toNatClampNeg) * (h.1 23 o a0.toNatClampNeg))], h)) rfl ?_
      refine jm_E_n 1 (x' := (if ((a1 - (h.1 22 o a0.toNatClampNeg)) - (a1 - (h.1 22 o a0.toNatClampNeg)) / (h.1 23 o a0.toNatClampNeg) * (h.1 23 o a0.toNatClampNeg)) = 0 then 23 else 25, [some (jm_r 2 o), some (jm_i a0), some (jm_i a1)], [], h)) rfl ?_
      refine jm_E_ite (fun hc => ?_) (fun hc => ?_)
      · replace H := H.1 hc
        refine jm_E_n 2 (x' := (26, [some (jm_r 2 o), some (jm_i a0), some (jm_i a1)], [jm_i 1], h)) rfl ?_
        exact jm_E_ret rfl (by rw [H]; rfl)
      · replace H := H.2 hc
        refine jm_E_n 1 (x' := (26, [some (jm_r 2 o), some (jm_i a0), some (jm_i a1)], [jm_i 0], h)) rfl ?_
        exact jm_E_ret rfl (by rw [H]; rfl)
set_option maxRecDepth 100000 in
theorem wp_Mode_numberJobs_5 {x0 : Nat} {x1 : Int32} {h : jm_H} {r : jm_Rs} (H :
  ((h.1 2 x0 4) ≤ x1 →
    r = (none, h)) ∧
  (¬ ((h.1 2 x0 4) ≤ x1) →
    l_Mode_numberJobs_11 x0 x1 0 h r)) : l_Mode_numberJobs_5 x0 x1 h r := by
  refine jm_E_n 4 (x' := (if (h.1 2 x0 4) ≤ x1 then 46 else 9, [some (jm_r 2 x0), some (jm_i x1), none], [], h)) rfl ?_
  refine jm_E_ite (fun hc => ?_) (fun hc => ?_)
  · replace H := H.1 hc
    exact jm_E_ret rfl (by rw [H]; rfl)
  · replace H := H.2 hc
    refine jm_E_n 2 (x' := (11, [some (jm_r 2 x0), some (jm_i x1), some (jm_i 0)], [], h)) rfl ?_
    exact H
set_option maxRecDepth 100000 in
theorem wp_Mode_numberJobs_11 {x0 : Nat} {x1 : Int32} {x2 : Int32} {h : jm_H} {r : jm_Rs} (H :
  ((h.1 2 x0 2) ≤ x2 →
    l_Mode_numberJobs_5 x0 (x1 + 1) h r) ∧
  (¬ ((h.1 2 x0 2) ≤ x2) →
    ∃ (v1 : Int32) (h1 : jm_H), m_Mode_isReleased x0 x2 x1 h v1 h1 ∧
    (v1 = 0 →
      l_Mode_numberJobs_11 x0 x1 (x2 + 1) h1 r) ∧
    (¬ (v1 = 0) →
      (24 ≤ (h1.1 2 x0 3) →
        l_Mode_numberJobs_11 x0 x1 (x2 + 1) h1 r) ∧
      (¬ (24 ≤ (h1.1 2 x0 3)) →
        jm_in (h1.1 2 x0 3) 24 ∧
        jm_in (h1.1 2 x0 3) 24 ∧
        l_Mode_numberJobs_11 x0 x1 (x2 + 1) (jm_sI (jm_sI (jm_sI h1 26 x0 ((h1.1 2 x0 3).toNatClampNeg) x2) 27 x0 ((h1.1 2 x0 3).toNatClampNeg) x1) 2 x0 3 ((h1.1 2 x0 3) + 1)) r)))) : l_Mode_numberJobs_11 x0 x1 x2 h r := by
  refine jm_E_n 4 (x' := (if (h.1 2 x0 2) ≤ x2 then 44 else 15, [some (jm_r 2 x0), some (jm_i x1), some (jm_i x2)], [], h)) rfl ?_
  refine jm_E_ite (fun hc => ?_) (fun hc => ?_)
  · replace H := H.1 hc
    refine jm_E_n 2 (x' := (5, [some (jm_r 2 x0), some (jm_i (x1 + 1)), some (jm_i x2)], [], h)) rfl ?_
    exact jm_E_weak (jm_le_s (jm_le_s (jm_le_n jm_le_nil))) H
  · replace H := H.2 hc
    refine jm_E_n 3 (x' := (18, [some (jm_r 2 x0), some (jm_i x1), some (jm_i x2)], [jm_i x1, jm_i x2, jm_r 2 x0], h)) rfl ?_
    obtain ⟨v1, h1, hR, H⟩ := H
    refine jm_E_call rfl (Nat.le_of_ble_eq_true rfl) (Nat.le_of_ble_eq_true rfl) rfl hR trivial ?_
    refine jm_E_eq (x := (19, [some (jm_r 2 x0), some (jm_i x1), some (jm_i x2)], [jm_i v1], h1)) rfl ?_
    refine jm_E_n 1 (x' := (if v1 = 0 then 42 else 20, [some (jm_r 2 x0), some (jm_i x1), some (jm_i x2)], [], h1)) rfl ?_
    refine jm_E_ite (fun hc => ?_) (fun hc => ?_)
    · replace H := H.1 hc
      refine jm_E_n 2 (x' := (11, [some (jm_r 2 x0), some (jm_i x1), some (jm_i (x2 + 1))], [], h1)) rfl ?_
      exact H
    · replace H := H.2 hc
      refine jm_E_n 4 (x' := (if 24 ≤ (h1.1 2 x0 3) then 42 else 24, [some (jm_r 2 x0), some (jm_i x1), some (jm_i x2)], [], h1)) rfl ?_
      refine jm_E_ite (fun hc => ?_) (fun hc => ?_)
      · replace H := H.1 hc
        refine jm_E_n 2 (x' := (11, [some (jm_r 2 x0), some (jm_i x1), some (jm_i (x2 + 1))], [], h1)) rfl ?_
        exact H
      · replace H := H.2 hc
        refine jm_E_n 5 (x' := (29, [some (jm_r 2 x0), some (jm_i x1), some (jm_i x2)], [jm_i x2, jm_i (h1.1 2 x0 3), jm_r 26 x0], h1)) rfl ?_
        refine jm_E_iast rfl rfl H.1 ?_
        replace H := H.2
        refine jm_E_eq (x := (30, [some (jm_r 2 x0), some (jm_i x1), some (jm_i x2)], [], (jm_sI h1 26 x0 ((h1.1 2 x0 3).toNatClampNeg) x2))) rfl ?_
        refine jm_E_n 5 (x' := (35, [some (jm_r 2 x0), some (jm_i x1), some (jm_i x2)], [jm_i x1, jm_i (h1.1 2 x0 3), jm_r 27 x0], (jm_sI h1 26 x0 ((h1.1 2 x0 3).toNatClampNeg) x2))) rfl ?_
        refine jm_E_iast rfl rfl H.1 ?_
        replace H := H.2
        refine jm_E_eq (x := (36, [some (jm_r 2 x0), some (jm_i x1), some (jm_i x2)], [], (jm_sI (jm_sI h1 26 x0 ((h1.1 2 x0 3).toNatClampNeg) x2) 27 x0 ((h1.1 2 x0 3).toNatClampNeg) x1))) rfl ?_
        refine jm_E_n 8 (x' := (11, [some (jm_r 2 x0), some (jm_i x1), some (jm_i (x2 + 1))], [], (jm_sI (jm_sI (jm_sI h1 26 x0 ((h1.1 2 x0 3).toNatClampNeg) x2) 27 x0 ((h1.1 2 x0 3).toNatClampNeg) x1) 2 x0 3 ((h1.1 2 x0 3) + 1)))) rfl ?_
        exact H
set_option maxRecDepth 100000 in
theorem wp_Mode_numberJobs {o : Nat} {h : jm_H} {r : jm_Rs} (H :
  l_Mode_numberJobs_5 o 0 (jm_sI h 2 o 3 0) r) : jm_R 235 [jm_r 2 o] h r := by
  refine jm_R_of hz_235 (Nat.le_of_ble_eq_true rfl) ?_
  show jm_E cod_235 (0, [some (jm_r 2 o), none, none], [], h) r
  refine jm_E_n 5 (x' := (5, [some (jm_r 2 o), some (jm_i 0), none], [], (jm_sI h 2 o 3 0))) rfl ?_
  exact H
set_option maxRecDepth 100000 in
theorem wp_Reader_read_21 {x2 : Int32} {h : jm_H} {r : jm_Rs} (H :
  ((h.1 4 0 2) < x2 →
    ((h.1 3 (h.2.1 4 0 9) 0) = 0 →
      ∃ (v1 : Int32) (h1 : jm_H), m_Reader_fail 4 h v1 h1 ∧
      l_Reader_read_80 0 h1 r) ∧
    (¬ ((h.1 3 (h.2.1 4 0 9) 0) = 0) →
      l_Reader_read_80 0 h r)) ∧
  (¬ ((h.1 4 0 2) < x2) →
    ∃ h2 : jm_H, m_Reader_next h h2 ∧
    ∃ (v3 : Int32) (h3 : jm_H), m_Reader_isWord 0 h2 v3 h3 ∧
    (v3 = 0 →
      ∃ (v4 : Int32) (h4 : jm_H), m_Reader_isWord 1 h3 v4 h4 ∧
      (v4 = 0 →
        ∃ (v5 : Int32) (h5 : jm_H), m_Reader_fail 1 h4 v5 h5 ∧
        (v5 = 0 →
          r = (some (jm_i (h5.1 4 0 7)), h5)) ∧
        (¬ (v5 = 0) →
          ∃ h6 : jm_H, m_Reader_next h5 h6 ∧
          ((h6.1 4 0 4) = 4 →
            ((h6.1 3 (h6.2.1 4 0 9) 0) = 0 →
              ∃ (v7 : Int32) (h7 : jm_H), m_Reader_fail 4 h6 v7 h7 ∧
              l_Reader_read_80 0 h7 r) ∧
            (¬ ((h6.1 3 (h6.2.1 4 0 9) 0) = 0) →
              l_Reader_read_80 0 h6 r)) ∧
          (¬ ((h6.1 4 0 4) = 4) →
            ((h6.1 4 0 4) = 3 →
              l_Reader_read_21 (x2 + 1) h6 r) ∧
            (¬ ((h6.1 4 0 4) = 3) →
              ∃ (v8 : Int32) (h8 : jm_H), m_Reader_fail 1 h6 v8 h8 ∧
              r = (some (jm_i (h8.1 4 0 7)), h8))))) ∧
      (¬ (v4 = 0) →
        ∃ (v9 : Int32) (h9 : jm_H), m_Reader_readTask h4 v9 h9 ∧
        (v9 = 0 →
          r = (some (jm_i (h9.1 4 0 7)), h9)) ∧
        (¬ (v9 = 0) →
          ∃ h10 : jm_H, m_Reader_next h9 h10 ∧
          ((h10.1 4 0 4) = 4 →
            ((h10.1 3 (h10.2.1 4 0 9) 0) = 0 →
              ∃ (v11 : Int32) (h11 : jm_H), m_Reader_fail 4 h10 v11 h11 ∧
              l_Reader_read_80 0 h11 r) ∧
            (¬ ((h10.1 3 (h10.2.1 4 0 9) 0) = 0) →
              l_Reader_read_80 0 h10 r)) ∧
          (¬ ((h10.1 4 0 4) = 4) →
            ((h10.1 4 0 4) = 3 →
              l_Reader_read_21 (x2 + 1) h10 r) ∧
            (¬ ((h10.1 4 0 4) = 3) →
              ∃ (v12 : Int32) (h12 : jm_H), m_Reader_fail 1 h10 v12 h12 ∧
              r = (some (jm_i (h12.1 4 0 7)), h12)))))) ∧
    (¬ (v3 = 0) →
      ∃ (v13 : Int32) (h13 : jm_H), m_Reader_readMode h3 v13 h13 ∧
      (v13 = 0 →
        r = (some (jm_i (h13.1 4 0 7)), h13)) ∧
      (¬ (v13 = 0) →
        ∃ h14 : jm_H, m_Reader_next h13 h14 ∧
        ((h14.1 4 0 4) = 4 →
          ((h14.1 3 (h14.2.1 4 0 9) 0) = 0 →
            ∃ (v15 : Int32) (h15 : jm_H), m_Reader_fail 4 h14 v15 h15 ∧
            l_Reader_read_80 0 h15 r) ∧
          (¬ ((h14.1 3 (h14.2.1 4 0 9) 0) = 0) →
            l_Reader_read_80 0 h14 r)) ∧
        (¬ ((h14.1 4 0 4) = 4) →
          ((h14.1 4 0 4) = 3 →
            l_Reader_read_21 (x2 + 1) h14 r) ∧
          (¬ ((h14.1 4 0 4) = 3) →
            ∃ (v16 : Int32) (h16 : jm_H), m_Reader_fail 1 h14 v16 h16 ∧
            r = (some (jm_i (h16.1 4 0 7)), h16))))))) : l_Reader_read_21 x2 h r := by
  refine jm_E_n 4 (x' := (if (h.1 4 0 2) < x2 then 70 else 25, [some (jm_r 4 0), none, some (jm_i x2), none], [], h)) rfl ?_
  refine jm_E_ite (fun hc => ?_) (fun hc => ?_)
  · replace H := H.1 hc
    refine jm_E_n 4 (x' := (if (h.1 3 (h.2.1 4 0 9) 0) = 0 then 74 else 78, [some (jm_r 4 0), none, some (jm_i x2), none], [], h)) rfl ?_
    refine jm_E_ite (fun hc => ?_) (fun hc => ?_)
    · replace H := H.1 hc
      refine jm_E_n 2 (x' := (76, [some (jm_r 4 0), none, some (jm_i x2), none], [jm_i 4, jm_r 4 0], h)) rfl ?_
      obtain ⟨v1, h1, hR, H⟩ := H
      refine jm_E_call rfl (Nat.le_of_ble_eq_true rfl) (Nat.le_of_ble_eq_true rfl) rfl hR trivial ?_
      refine jm_E_eq (x := (77, [some (jm_r 4 0), none, some (jm_i x2), none], [jm_i v1], h1)) rfl ?_
      refine jm_E_n 3 (x' := (80, [some (jm_r 4 0), none, some (jm_i 0), none], [], h1)) rfl ?_
      exact H
    · replace H := H.2 hc
      refine jm_E_n 2 (x' := (80, [some (jm_r 4 0), none, some (jm_i 0), none], [], h)) rfl ?_
      exact H
  · replace H := H.2 hc
    refine jm_E_n 1 (x' := (26, [some (jm_r 4 0), none, some (jm_i x2), none], [jm_r 4 0], h)) rfl ?_
    obtain ⟨h2, hR, H⟩ := H
    refine jm_E_call rfl (Nat.le_of_ble_eq_true rfl) (Nat.le_of_ble_eq_true rfl) rfl hR trivial ?_
    refine jm_E_eq (x := (27, [some (jm_r 4 0), none, some (jm_i x2), none], [], h2)) rfl ?_
    refine jm_E_n 2 (x' := (29, [some (jm_r 4 0), none, some (jm_i x2), none], [jm_r 60 0, jm_r 4 0], h2)) rfl ?_
    obtain ⟨v3, h3, hR, H⟩ := H
    refine jm_E_call rfl (Nat.le_of_ble_eq_true rfl) (Nat.le_of_ble_eq_true rfl) rfl hR trivial ?_
    refine jm_E_eq (x := (30, [some (jm_r 4 0), none, some (jm_i x2), none], [jm_i v3], h3)) rfl ?_
    refine jm_E_n 1 (x' := (if v3 = 0 then 34 else 31, [some (jm_r 4 0), none, some (jm_i x2), none], [], h3)) rfl ?_
    refine jm_E_ite (fun hc => ?_) (fun hc => ?_)
    · replace H := H.1 hc
      refine jm_E_n 2 (x' := (36, [some (jm_r 4 0), none, some (jm_i x2), none], [jm_r 60 1, jm_r 4 0], h3)) rfl ?_
      obtain ⟨v4, h4, hR, H⟩ := H
      refine jm_E_call rfl (Nat.le_of_ble_eq_true rfl) (Nat.le_of_ble_eq_true rfl) rfl hR trivial ?_
      refine jm_E_eq (x := (37, [some (jm_r 4 0), none, some (jm_i x2), none], [jm_i v4], h4)) rfl ?_
      refine jm_E_n 1 (x' := (if v4 = 0 then 41 else 38, [some (jm_r 4 0), none, some (jm_i x2), none], [], h4)) rfl ?_
      refine jm_E_ite (fun hc => ?_) (fun hc => ?_)
      · replace H := H.1 hc
        refine jm_E_n 2 (x' := (43, [some (jm_r 4 0), none, some (jm_i x2), none], [jm_i 1, jm_r 4 0], h4)) rfl ?_
        obtain ⟨v5, h5, hR, H⟩ := H
        refine jm_E_call rfl (Nat.le_of_ble_eq_true rfl) (Nat.le_of_ble_eq_true rfl) rfl hR trivial ?_
        refine jm_E_eq (x := (44, [some (jm_r 4 0), none, some (jm_i x2), none], [jm_i v5], h5)) rfl ?_
        refine jm_E_n 3 (x' := (if v5 = 0 then 47 else 50, [some (jm_r 4 0), none, some (jm_i x2), some (jm_i v5)], [], h5)) rfl ?_
        refine jm_E_ite (fun hc => ?_) (fun hc => ?_)
        · replace H := H.1 hc
          refine jm_E_n 2 (x' := (49, [some (jm_r 4 0), none, some (jm_i x2), some (jm_i v5)], [jm_i (h5.1 4 0 7)], h5)) rfl ?_
          exact jm_E_ret rfl (by rw [H]; rfl)
        · replace H := H.2 hc
          refine jm_E_n 1 (x' := (51, [some (jm_r 4 0), none, some (jm_i x2), some (jm_i v5)], [jm_r 4 0], h5)) rfl ?_
          obtain ⟨h6, hR, H⟩ := H
          refine jm_E_call rfl (Nat.le_of_ble_eq_true rfl) (Nat.le_of_ble_eq_true rfl) rfl hR trivial ?_
          refine jm_E_eq (x := (52, [some (jm_r 4 0), none, some (jm_i x2), some (jm_i v5)], [], h6)) rfl ?_
          refine jm_E_n 4 (x' := (if (h6.1 4 0 4) = 4 then 56 else 57, [some (jm_r 4 0), none, some (jm_i x2), some (jm_i v5)], [], h6)) rfl ?_
          refine jm_E_ite (fun hc => ?_) (fun hc => ?_)
          · replace H := H.1 hc
            refine jm_E_n 5 (x' := (if (h6.1 3 (h6.2.1 4 0 9) 0) = 0 then 74 else 78, [some (jm_r 4 0), none, some (jm_i x2), some (jm_i v5)], [], h6)) rfl ?_
            refine jm_E_ite (fun hc => ?_) (fun hc => ?_)
            · replace H := H.1 hc
              refine jm_E_n 2 (x' := (76, [some (jm_r 4 0), none, some (jm_i x2), some (jm_i v5)], [jm_i 4, jm_r 4 0], h6)) rfl ?_
              obtain ⟨v7, h7, hR, H⟩ := H
              refine jm_E_call rfl (Nat.le_of_ble_eq_true rfl) (Nat.le_of_ble_eq_true rfl) rfl hR trivial ?_
              refine jm_E_eq (x := (77, [some (jm_r 4 0), none, some (jm_i x2), some (jm_i v5)], [jm_i v7], h7)) rfl ?_
              refine jm_E_n 3 (x' := (80, [some (jm_r 4 0), none, some (jm_i 0), some (jm_i v5)], [], h7)) rfl ?_
              exact jm_E_weak (jm_le_s (jm_le_n (jm_le_s (jm_le_n jm_le_nil)))) H
            · replace H := H.2 hc
              refine jm_E_n 2 (x' := (80, [some (jm_r 4 0), none, some (jm_i 0), some (jm_i v5)], [], h6)) rfl ?_
              exact jm_E_weak (jm_le_s (jm_le_n (jm_le_s (jm_le_n jm_le_nil)))) H
          · replace H := H.2 hc
            refine jm_E_n 4 (x' := (if (h6.1 4 0 4) = 3 then 68 else 61, [some (jm_r 4 0), none, some (jm_i x2), some (jm_i v5)], [], h6)) rfl ?_
            refine jm_E_ite (fun hc => ?_) (fun hc => ?_)
            · replace H := H.1 hc
              refine jm_E_n 2 (x' := (21, [some (jm_r 4 0), none, some (jm_i (x2 + 1)), some (jm_i v5)], [], h6)) rfl ?_
              exact jm_E_weak (jm_le_s (jm_le_n (jm_le_s (jm_le_n jm_le_nil)))) H
            · replace H := H.2 hc
              refine jm_E_n 2 (x' := (63, [some (jm_r 4 0), none, some (jm_i x2), some (jm_i v5)], [jm_i 1, jm_r 4 0], h6)) rfl ?_
              obtain ⟨v8, h8, hR, H⟩ := H
              refine jm_E_call rfl (Nat.le_of_ble_eq_true rfl) (Nat.le_of_ble_eq_true rfl) rfl hR trivial ?_
              refine jm_E_eq (x := (64, [some (jm_r 4 0), none, some (jm_i x2), some (jm_i v5)], [jm_i v8], h8)) rfl ?_
              refine jm_E_n 3 (x' := (67, [some (jm_r 4 0), none, some (jm_i x2), some (jm_i v5)], [jm_i (h8.1 4 0 7)], h8)) rfl ?_
              exact jm_E_ret rfl (by rw [H]; rfl)
      · replace H := H.2 hc
        refine jm_E_n 1 (x' := (39, [some (jm_r 4 0), none, some (jm_i x2), none], [jm_r 4 0], h4)) rfl ?_
        obtain ⟨v9, h9, hR, H⟩ := H
        refine jm_E_call rfl (Nat.le_of_ble_eq_true rfl) (Nat.le_of_ble_eq_true rfl) rfl hR trivial ?_
        refine jm_E_eq (x := (40, [some (jm_r 4 0), none, some (jm_i x2), none], [jm_i v9], h9)) rfl ?_
        refine jm_E_n 4 (x' := (if v9 = 0 then 47 else 50, [some (jm_r 4 0), none, some (jm_i x2), some (jm_i v9)], [], h9)) rfl ?_
        refine jm_E_ite (fun hc => ?_) (fun hc => ?_)
        · replace H := H.1 hc
          refine jm_E_n 2 (x' := (49, [some (jm_r 4 0), none, some (jm_i x2), some (jm_i v9)], [jm_i (h9.1 4 0 7)], h9)) rfl ?_
          exact jm_E_ret rfl (by rw [H]; rfl)
        · replace H := H.2 hc
          refine jm_E_n 1 (x' := (51, [some (jm_r 4 0), none, some (jm_i x2), some (jm_i v9)], [jm_r 4 0], h9)) rfl ?_
          obtain ⟨h10, hR, H⟩ := H
          refine jm_E_call rfl (Nat.le_of_ble_eq_true rfl) (Nat.le_of_ble_eq_true rfl) rfl hR trivial ?_
          refine jm_E_eq (x := (52, [some (jm_r 4 0), none, some (jm_i x2), some (jm_i v9)], [], h10)) rfl ?_
          refine jm_E_n 4 (x' := (if (h10.1 4 0 4) = 4 then 56 else 57, [some (jm_r 4 0), none, some (jm_i x2), some (jm_i v9)], [], h10)) rfl ?_
          refine jm_E_ite (fun hc => ?_) (fun hc => ?_)
          · replace H := H.1 hc
            refine jm_E_n 5 (x' := (if (h10.1 3 (h10.2.1 4 0 9) 0) = 0 then 74 else 78, [some (jm_r 4 0), none, some (jm_i x2), some (jm_i v9)], [], h10)) rfl ?_
            refine jm_E_ite (fun hc => ?_) (fun hc => ?_)
            · replace H := H.1 hc
              refine jm_E_n 2 (x' := (76, [some (jm_r 4 0), none, some (jm_i x2), some (jm_i v9)], [jm_i 4, jm_r 4 0], h10)) rfl ?_
              obtain ⟨v11, h11, hR, H⟩ := H
              refine jm_E_call rfl (Nat.le_of_ble_eq_true rfl) (Nat.le_of_ble_eq_true rfl) rfl hR trivial ?_
              refine jm_E_eq (x := (77, [some (jm_r 4 0), none, some (jm_i x2), some (jm_i v9)], [jm_i v11], h11)) rfl ?_
              refine jm_E_n 3 (x' := (80, [some (jm_r 4 0), none, some (jm_i 0), some (jm_i v9)], [], h11)) rfl ?_
              exact jm_E_weak (jm_le_s (jm_le_n (jm_le_s (jm_le_n jm_le_nil)))) H
            · replace H := H.2 hc
              refine jm_E_n 2 (x' := (80, [some (jm_r 4 0), none, some (jm_i 0), some (jm_i v9)], [], h10)) rfl ?_
              exact jm_E_weak (jm_le_s (jm_le_n (jm_le_s (jm_le_n jm_le_nil)))) H
          · replace H := H.2 hc
            refine jm_E_n 4 (x' := (if (h10.1 4 0 4) = 3 then 68 else 61, [some (jm_r 4 0), none, some (jm_i x2), some (jm_i v9)], [], h10)) rfl ?_
            refine jm_E_ite (fun hc => ?_) (fun hc => ?_)
            · replace H := H.1 hc
              refine jm_E_n 2 (x' := (21, [some (jm_r 4 0), none, some (jm_i (x2 + 1)), some (jm_i v9)], [], h10)) rfl ?_
              exact jm_E_weak (jm_le_s (jm_le_n (jm_le_s (jm_le_n jm_le_nil)))) H
            · replace H := H.2 hc
              refine jm_E_n 2 (x' := (63, [some (jm_r 4 0), none, some (jm_i x2), some (jm_i v9)], [jm_i 1, jm_r 4 0], h10)) rfl ?_
              obtain ⟨v12, h12, hR, H⟩ := H
              refine jm_E_call rfl (Nat.le_of_ble_eq_true rfl) (Nat.le_of_ble_eq_true rfl) rfl hR trivial ?_
              refine jm_E_eq (x := (64, [some (jm_r 4 0), none, some (jm_i x2), some (jm_i v9)], [jm_i v12], h12)) rfl ?_
              refine jm_E_n 3 (x' := (67, [some (jm_r 4 0), none, some (jm_i x2), some (jm_i v9)], [jm_i (h12.1 4 0 7)], h12)) rfl ?_
              exact jm_E_ret rfl (by rw [H]; rfl)
    · replace H := H.2 hc
      refine jm_E_n 1 (x' := (32, [some (jm_r 4 0), none, some (jm_i x2), none], [jm_r 4 0], h3)) rfl ?_
      obtain ⟨v13, h13, hR, H⟩ := H
      refine jm_E_call rfl (Nat.le_of_ble_eq_true rfl) (Nat.le_of_ble_eq_true rfl) rfl hR trivial ?_
      refine jm_E_eq (x := (33, [some (jm_r 4 0), none, some (jm_i x2), none], [jm_i v13], h13)) rfl ?_
      refine jm_E_n 4 (x' := (if v13 = 0 then 47 else 50, [some (jm_r 4 0), none, some (jm_i x2), some (jm_i v13)], [], h13)) rfl ?_
      refine jm_E_ite (fun hc => ?_) (fun hc => ?_)
      · replace H := H.1 hc
        refine jm_E_n 2 (x' := (49, [some (jm_r 4 0), none, some (jm_i x2), some (jm_i v13)], [jm_i (h13.1 4 0 7)], h13)) rfl ?_
        exact jm_E_ret rfl (by rw [H]; rfl)
      · replace H := H.2 hc
        refine jm_E_n 1 (x' := (51, [some (jm_r 4 0), none, some (jm_i x2), some (jm_i v13)], [jm_r 4 0], h13)) rfl ?_
        obtain ⟨h14, hR, H⟩ := H
        refine jm_E_call rfl (Nat.le_of_ble_eq_true rfl) (Nat.le_of_ble_eq_true rfl) rfl hR trivial ?_
        refine jm_E_eq (x := (52, [some (jm_r 4 0), none, some (jm_i x2), some (jm_i v13)], [], h14)) rfl ?_
        refine jm_E_n 4 (x' := (if (h14.1 4 0 4) = 4 then 56 else 57, [some (jm_r 4 0), none, some (jm_i x2), some (jm_i v13)], [], h14)) rfl ?_
        refine jm_E_ite (fun hc => ?_) (fun hc => ?_)
        · replace H := H.1 hc
          refine jm_E_n 5 (x' := (if (h14.1 3 (h14.2.1 4 0 9) 0) = 0 then 74 else 78, [some (jm_r 4 0), none, some (jm_i x2), some (jm_i v13)], [], h14)) rfl ?_
          refine jm_E_ite (fun hc => ?_) (fun hc => ?_)
          · replace H := H.1 hc
            refine jm_E_n 2 (x' := (76, [some (jm_r 4 0), none, some (jm_i x2), some (jm_i v13)], [jm_i 4, jm_r 4 0], h14)) rfl ?_
            obtain ⟨v15, h15, hR, H⟩ := H
            refine jm_E_call rfl (Nat.le_of_ble_eq_true rfl) (Nat.le_of_ble_eq_true rfl) rfl hR trivial ?_
            refine jm_E_eq (x := (77, [some (jm_r 4 0), none, some (jm_i x2), some (jm_i v13)], [jm_i v15], h15)) rfl ?_
            refine jm_E_n 3 (x' := (80, [some (jm_r 4 0), none, some (jm_i 0), some (jm_i v13)], [], h15)) rfl ?_
            exact jm_E_weak (jm_le_s (jm_le_n (jm_le_s (jm_le_n jm_le_nil)))) H
          · replace H := H.2 hc
            refine jm_E_n 2 (x' := (80, [some (jm_r 4 0), none, some (jm_i 0), some (jm_i v13)], [], h14)) rfl ?_
            exact jm_E_weak (jm_le_s (jm_le_n (jm_le_s (jm_le_n jm_le_nil)))) H
        · replace H := H.2 hc
          refine jm_E_n 4 (x' := (if (h14.1 4 0 4) = 3 then 68 else 61, [some (jm_r 4 0), none, some (jm_i x2), some (jm_i v13)], [], h14)) rfl ?_
          refine jm_E_ite (fun hc => ?_) (fun hc => ?_)
          · replace H := H.1 hc
            refine jm_E_n 2 (x' := (21, [some (jm_r 4 0), none, some (jm_i (x2 + 1)), some (jm_i v13)], [], h14)) rfl ?_
            exact jm_E_weak (jm_le_s (jm_le_n (jm_le_s (jm_le_n jm_le_nil)))) H
          · replace H := H.2 hc
            refine jm_E_n 2 (x' := (63, [some (jm_r 4 0), none, some (jm_i x2), some (jm_i v13)], [jm_i 1, jm_r 4 0], h14)) rfl ?_
            obtain ⟨v16, h16, hR, H⟩ := H
            refine jm_E_call rfl (Nat.le_of_ble_eq_true rfl) (Nat.le_of_ble_eq_true rfl) rfl hR trivial ?_
            refine jm_E_eq (x := (64, [some (jm_r 4 0), none, some (jm_i x2), some (jm_i v13)], [jm_i v16], h16)) rfl ?_
            refine jm_E_n 3 (x' := (67, [some (jm_r 4 0), none, some (jm_i x2), some (jm_i v13)], [jm_i (h16.1 4 0 7)], h16)) rfl ?_
            exact jm_E_ret rfl (by rw [H]; rfl)
set_option maxRecDepth 100000 in
theorem wp_Reader_read_80 {x2 : Int32} {h : jm_H} {r : jm_Rs} (H :
  ((h.1 3 (h.2.1 4 0 9) 0) ≤ x2 →
    r = (some (jm_i (h.1 4 0 7)), h)) ∧
  (¬ ((h.1 3 (h.2.1 4 0 9) 0) ≤ x2) →
    jm_in x2 3 ∧
    ∃ h17 : jm_H, m_Mode_numberJobs (3 * (h.2.1 4 0 9) + x2.toNatClampNeg) h h17 ∧
    l_Reader_read_80 (x2 + 1) h17 r)) : l_Reader_read_80 x2 h r := by
  refine jm_E_n 5 (x' := (if (h.1 3 (h.2.1 4 0 9) 0) ≤ x2 then 93 else 85, [some (jm_r 4 0), none, some (jm_i x2), none], [], h)) rfl ?_
  refine jm_E_ite (fun hc => ?_) (fun hc => ?_)
  · replace H := H.1 hc
    refine jm_E_n 2 (x' := (95, [some (jm_r 4 0), none, some (jm_i x2), none], [jm_i (h.1 4 0 7)], h)) rfl ?_
    exact jm_E_ret rfl (by rw [H]; rfl)
  · replace H := H.2 hc
    refine jm_E_n 4 (x' := (89, [some (jm_r 4 0), none, some (jm_i x2), none], [jm_i x2, jm_r 28 (h.2.1 4 0 9)], h)) rfl ?_
    refine jm_E_aald rfl rfl H.1 ?_
    replace H := H.2
    refine jm_E_eq (x := (90, [some (jm_r 4 0), none, some (jm_i x2), none], [jm_r 2 (3 * (h.2.1 4 0 9) + x2.toNatClampNeg)], h)) rfl ?_
    obtain ⟨h17, hR, H⟩ := H
    refine jm_E_call rfl (Nat.le_of_ble_eq_true rfl) (Nat.le_of_ble_eq_true rfl) rfl hR trivial ?_
    refine jm_E_eq (x := (91, [some (jm_r 4 0), none, some (jm_i x2), none], [], h17)) rfl ?_
    refine jm_E_n 2 (x' := (80, [some (jm_r 4 0), none, some (jm_i (x2 + 1)), none], [], h17)) rfl ?_
    exact H
set_option maxRecDepth 100000 in
theorem wp_Reader_read {a0 : Int32} {h : jm_H} {r : jm_Rs} (H :
  l_Reader_read_21 0 (jm_sI (jm_sI (jm_sI (jm_sI (jm_sI h 4 0 2 (if (h.1 4 0 1) < a0 then (h.1 4 0 1) else a0)) 4 0 1 0) 4 0 3 0) 3 (h.2.1 4 0 9) 0 0) 4 0 7 0) r) : jm_R 241 [jm_r 4 0, jm_i a0] h r := by
  refine jm_R_of hz_241 (Nat.le_of_ble_eq_true rfl) ?_
  show jm_E cod_241 (0, [some (jm_r 4 0), some (jm_i a0), none, none], [], h) r
  refine jm_E_n 21 (x' := (21, [some (jm_r 4 0), some (jm_i a0), some (jm_i 0), none], [], (jm_sI (jm_sI (jm_sI (jm_sI (jm_sI h 4 0 2 (if (h.1 4 0 1) < a0 then (h.1 4 0 1) else a0)) 4 0 1 0) 4 0 3 0) 3 (h.2.1 4 0 9) 0 0) 4 0 7 0))) rfl ?_
  exact jm_E_weak (jm_le_s (jm_le_n (jm_le_s (jm_le_n jm_le_nil)))) H
set_option maxRecDepth 100000 in
theorem wp_Mode_round {o : Nat} {h : jm_H} {r : jm_Rs} (H :
  ((h.1 2 o 2) = 0 →
    r = (some (jm_i (h.1 2 o 0)), h)) ∧
  (¬ ((h.1 2 o 2) = 0) →
    r = (some (jm_i (h.1 2 o 4)), h))) : jm_R 229 [jm_r 2 o] h r := by
  refine jm_R_of hz_229 (Nat.le_of_ble_eq_true rfl) ?_
  show jm_E cod_229 (0, [some (jm_r 2 o)], [], h) r
  refine jm_E_n 3 (x' := (if (h.1 2 o 2) = 0 then 3 else 6, [some (jm_r 2 o)], [], h)) rfl ?_
  refine jm_E_ite (fun hc => ?_) (fun hc => ?_)
  · replace H := H.1 hc
    refine jm_E_n 3 (x' := (8, [some (jm_r 2 o)], [jm_i (h.1 2 o 0)], h)) rfl ?_
    exact jm_E_ret rfl (by rw [H]; rfl)
  · replace H := H.2 hc
    refine jm_E_n 2 (x' := (8, [some (jm_r 2 o)], [jm_i (h.1 2 o 4)], h)) rfl ?_
    exact jm_E_ret rfl (by rw [H]; rfl)
set_option maxRecDepth 100000 in
theorem wp_Flow_lay_29 {x0 : Nat} {x1 : Nat} {x4 : Int32} {h : jm_H} {r : jm_Rs} (H :
  ((h.1 1 x0 3) ≤ x4 →
    r = (none, h)) ∧
  (¬ ((h.1 1 x0 3) ≤ x4) →
    jm_in x4 24 ∧
    jm_in x4 24 ∧
    jm_in x4 24 ∧
    jm_in x4 24 ∧
    jm_in x4 24 ∧
    jm_in x4 24 ∧
    jm_in ((jm_sI h 12 x0 x4.toNatClampNeg (h.1 26 x1 x4.toNatClampNeg)).1 12 x0 x4.toNatClampNeg) 6 ∧
    jm_in x4 24 ∧
    jm_in x4 24 ∧
    jm_in ((jm_sI h 12 x0 x4.toNatClampNeg (h.1 26 x1 x4.toNatClampNeg)).1 12 x0 x4.toNatClampNeg) 6 ∧
    jm_in x4 24 ∧
    jm_in x4 24 ∧
    ¬ (h.1 1 x0 0) = 0 ∧
    jm_in x4 24 ∧
    jm_in x4 24 ∧
    ¬ (h.1 1 x0 0) = 0 ∧
    jm_in x4 24 ∧
    l_Flow_lay_29 x0 x1 (x4 + 1) (jm_sI (jm_sI (jm_sI (jm_sI (jm_sI (jm_sI h 12 x0 x4.toNatClampNeg (h.1 26 x1 x4.toNatClampNeg)) 13 x0 x4.toNatClampNeg (h.1 27 x1 x4.toNatClampNeg)) 14 x0 x4.toNatClampNeg (((jm_sI (jm_sI h 12 x0 x4.toNatClampNeg (h.1 26 x1 x4.toNatClampNeg)) 13 x0 x4.toNatClampNeg (h.1 27 x1 x4.toNatClampNeg)).1 13 x0 x4.toNatClampNeg) + (h.1 25 x1 (((jm_sI h 12 x0 x4.toNatClampNeg (h.1 26 x1 x4.toNatClampNeg)).1 12 x0 x4.toNatClampNeg).toNatClampNeg)))) 15 x0 x4.toNatClampNeg (h.1 24 x1 (((jm_sI h 12 x0 x4.toNatClampNeg (h.1 26 x1 x4.toNatClampNeg)).1 12 x0 x4.toNatClampNeg).toNatClampNeg))) 16 x0 x4.toNatClampNeg (((((jm_sI (jm_sI h 12 x0 x4.toNatClampNeg (h.1 26 x1 x4.toNatClampNeg)) 13 x0 x4.toNatClampNeg (h.1 27 x1 x4.toNatClampNeg)).1 13 x0 x4.toNatClampNeg) + (h.1 1 x0 0)) - 1) / (h.1 1 x0 0))) 17 x0 x4.toNatClampNeg ((((jm_sI (jm_sI (jm_sI h 12 x0 x4.toNatClampNeg (h.1 26 x1 x4.toNatClampNeg)) 13 x0 x4.toNatClampNeg (h.1 27 x1 x4.toNatClampNeg)) 14 x0 x4.toNatClampNeg (((jm_sI (jm_sI h 12 x0 x4.toNatClampNeg (h.1 26 x1 x4.toNatClampNeg)) 13 x0 x4.toNatClampNeg (h.1 27 x1 x4.toNatClampNeg)).1 13 x0 x4.toNatClampNeg) + (h.1 25 x1 (((jm_sI h 12 x0 x4.toNatClampNeg (h.1 26 x1 x4.toNatClampNeg)).1 12 x0 x4.toNatClampNeg).toNatClampNeg)))).1 14 x0 x4.toNatClampNeg) / (h.1 1 x0 0)) - 1)) r)) : l_Flow_lay_29 x0 x1 x4 h r := by
  refine jm_E_n 4 (x' := (if (h.1 1 x0 3) ≤ x4 then 107 else 33, [some (jm_r 1 x0), some (jm_r 2 x1), none, none, some (jm_i x4)], [], h)) rfl ?_
  refine jm_E_ite (fun hc => ?_) (fun hc => ?_)
  · replace H := H.1 hc
    exact jm_E_ret rfl (by rw [H]; rfl)
  · replace H := H.2 hc
    refine jm_E_n 6 (x' := (39, [some (jm_r 1 x0), some (jm_r 2 x1), none, none, some (jm_i x4)], [jm_i x4, jm_r 26 x1, jm_i x4, jm_r 12 x0], h)) rfl ?_
    refine jm_E_iald rfl rfl H.1 ?_
    replace H := H.2
    refine jm_E_eq (x := (40, [some (jm_r 1 x0), some (jm_r 2 x1), none, none, some (jm_i x4)], [jm_i (h.1 26 x1 x4.toNatClampNeg), jm_i x4, jm_r 12 x0], h)) rfl ?_
    refine jm_E_iast rfl rfl H.1 ?_
    replace H := H.2
    refine jm_E_eq (x := (41, [some (jm_r 1 x0), some (jm_r 2 x1), none, none, some (jm_i x4)], [], (jm_sI h 12 x0 x4.toNatClampNeg (h.1 26 x1 x4.toNatClampNeg)))) rfl ?_
    refine jm_E_n 6 (x' := (47, [some (jm_r 1 x0), some (jm_r 2 x1), none, none, some (jm_i x4)], [jm_i x4, jm_r 27 x1, jm_i x4, jm_r 13 x0], (jm_sI h 12 x0 x4.toNatClampNeg (h.1 26 x1 x4.toNatClampNeg)))) rfl ?_
    refine jm_E_iald rfl rfl H.1 ?_
    replace H := H.2
    refine jm_E_eq (x := (48, [some (jm_r 1 x0), some (jm_r 2 x1), none, none, some (jm_i x4)], [jm_i (h.1 27 x1 x4.toNatClampNeg), jm_i x4, jm_r 13 x0], (jm_sI h 12 x0 x4.toNatClampNeg (h.1 26 x1 x4.toNatClampNeg)))) rfl ?_
    refine jm_E_iast rfl rfl H.1 ?_
    replace H := H.2
    refine jm_E_eq (x := (49, [some (jm_r 1 x0), some (jm_r 2 x1), none, none, some (jm_i x4)], [], (jm_sI (jm_sI h 12 x0 x4.toNatClampNeg (h.1 26 x1 x4.toNatClampNeg)) 13 x0 x4.toNatClampNeg (h.1 27 x1 x4.toNatClampNeg)))) rfl ?_
    refine jm_E_n 6 (x' := (55, [some (jm_r 1 x0), some (jm_r 2 x1), none, none, some (jm_i x4)], [jm_i x4, jm_r 13 x0, jm_i x4, jm_r 14 x0], (jm_sI (jm_sI h 12 x0 x4.toNatClampNeg (h.1 26 x1 x4.toNatClampNeg)) 13 x0 x4.toNatClampNeg (h.1 27 x1 x4.toNatClampNeg)))) rfl ?_
    refine jm_E_iald rfl rfl H.1 ?_
    replace H := H.2
    refine jm_E_eq (x := (56, [some (jm_r 1 x0), some (jm_r 2 x1), none, none, some (jm_i x4)], [jm_i ((jm_sI (jm_sI h 12 x0 x4.toNatClampNeg (h.1 26 x1 x4.toNatClampNeg)) 13 x0 x4.toNatClampNeg (h.1 27 x1 x4.toNatClampNeg)).1 13 x0 x4.toNatClampNeg), jm_i x4, jm_r 14 x0], (jm_sI (jm_sI h 12 x0 x4.toNatClampNeg (h.1 26 x1 x4.toNatClampNeg)) 13 x0 x4.toNatClampNeg (h.1 27 x1 x4.toNatClampNeg)))) rfl ?_
    refine jm_E_n 5 (x' := (61, [some (jm_r 1 x0), some (jm_r 2 x1), none, none, some (jm_i x4)], [jm_i x4, jm_r 12 x0, jm_r 25 x1, jm_i ((jm_sI (jm_sI h 12 x0 x4.toNatClampNeg (h.1 26 x1 x4.toNatClampNeg)) 13 x0 x4.toNatClampNeg (h.1 27 x1 x4.toNatClampNeg)).1 13 x0 x4.toNatClampNeg), jm_i x4, jm_r 14 x0], (jm_sI (jm_sI h 12 x0 x4.toNatClampNeg (h.1 26 x1 x4.toNatClampNeg)) 13 x0 x4.toNatClampNeg (h.1 27 x1 x4.toNatClampNeg)))) rfl ?_
    refine jm_E_iald rfl rfl H.1 ?_
    replace H := H.2
    refine jm_E_eq (x := (62, [some (jm_r 1 x0), some (jm_r 2 x1), none, none, some (jm_i x4)], [jm_i ((jm_sI h 12 x0 x4.toNatClampNeg (h.1 26 x1 x4.toNatClampNeg)).1 12 x0 x4.toNatClampNeg), jm_r 25 x1, jm_i ((jm_sI (jm_sI h 12 x0 x4.toNatClampNeg (h.1 26 x1 x4.toNatClampNeg)) 13 x0 x4.toNatClampNeg (h.1 27 x1 x4.toNatClampNeg)).1 13 x0 x4.toNatClampNeg), jm_i x4, jm_r 14 x0], (jm_sI (jm_sI h 12 x0 x4.toNatClampNeg (h.1 26 x1 x4.toNatClampNeg)) 13 x0 x4.toNatClampNeg (h.1 27 x1 x4.toNatClampNeg)))) rfl ?_
    refine jm_E_iald rfl rfl H.1 ?_
    replace H := H.2
    refine jm_E_eq (x := (63, [some (jm_r 1 x0), some (jm_r 2 x1), none, none, some (jm_i x4)], [jm_i (h.1 25 x1 (((jm_sI h 12 x0 x4.toNatClampNeg (h.1 26 x1 x4.toNatClampNeg)).1 12 x0 x4.toNatClampNeg).toNatClampNeg)), jm_i ((jm_sI (jm_sI h 12 x0 x4.toNatClampNeg (h.1 26 x1 x4.toNatClampNeg)) 13 x0 x4.toNatClampNeg (h.1 27 x1 x4.toNatClampNeg)).1 13 x0 x4.toNatClampNeg), jm_i x4, jm_r 14 x0], (jm_sI (jm_sI h 12 x0 x4.toNatClampNeg (h.1 26 x1 x4.toNatClampNeg)) 13 x0 x4.toNatClampNeg (h.1 27 x1 x4.toNatClampNeg)))) rfl ?_
    refine jm_E_n 1 (x' := (64, [some (jm_r 1 x0), some (jm_r 2 x1), none, none, some (jm_i x4)], [jm_i (((jm_sI (jm_sI h 12 x0 x4.toNatClampNeg (h.1 26 x1 x4.toNatClampNeg)) 13 x0 x4.toNatClampNeg (h.1 27 x1 x4.toNatClampNeg)).1 13 x0 x4.toNatClampNeg) + (h.1 25 x1 (((jm_sI h 12 x0 x4.toNatClampNeg (h.1 26 x1 x4.toNatClampNeg)).1 12 x0 x4.toNatClampNeg).toNatClampNeg))), jm_i x4, jm_r 14 x0], (jm_sI (jm_sI h 12 x0 x4.toNatClampNeg (h.1 26 x1 x4.toNatClampNeg)) 13 x0 x4.toNatClampNeg (h.1 27 x1 x4.toNatClampNeg)))) rfl ?_
    refine jm_E_iast rfl rfl H.1 ?_
    replace H := H.2
    refine jm_E_eq (x := (65, [some (jm_r 1 x0), some (jm_r 2 x1), none, none, some (jm_i x4)], [], (jm_sI (jm_sI (jm_sI h 12 x0 x4.toNatClampNeg (h.1 26 x1 x4.toNatClampNeg)) 13 x0 x4.toNatClampNeg (h.1 27 x1 x4.toNatClampNeg)) 14 x0 x4.toNatClampNeg (((jm_sI (jm_sI h 12 x0 x4.toNatClampNeg (h.1 26 x1 x4.toNatClampNeg)) 13 x0 x4.toNatClampNeg (h.1 27 x1 x4.toNatClampNeg)).1 13 x0 x4.toNatClampNeg) + (h.1 25 x1 (((jm_sI h 12 x0 x4.toNatClampNeg (h.1 26 x1 x4.toNatClampNeg)).1 12 x0 x4.toNatClampNeg).toNatClampNeg)))))) rfl ?_
    refine jm_E_n 8 (x' := (73, [some (jm_r 1 x0), some (jm_r 2 x1), none, none, some (jm_i x4)], [jm_i x4, jm_r 12 x0, jm_r 24 x1, jm_i x4, jm_r 15 x0], (jm_sI (jm_sI (jm_sI h 12 x0 x4.toNatClampNeg (h.1 26 x1 x4.toNatClampNeg)) 13 x0 x4.toNatClampNeg (h.1 27 x1 x4.toNatClampNeg)) 14 x0 x4.toNatClampNeg (((jm_sI (jm_sI h 12 x0 x4.toNatClampNeg (h.1 26 x1 x4.toNatClampNeg)) 13 x0 x4.toNatClampNeg (h.1 27 x1 x4.toNatClampNeg)).1 13 x0 x4.toNatClampNeg) + (h.1 25 x1 (((jm_sI h 12 x0 x4.toNatClampNeg (h.1 26 x1 x4.toNatClampNeg)).1 12 x0 x4.toNatClampNeg).toNatClampNeg)))))) rfl ?_
    refine jm_E_iald rfl rfl H.1 ?_
    replace H := H.2
    refine jm_E_eq (x := (74, [some (jm_r 1 x0), some (jm_r 2 x1), none, none, some (jm_i x4)], [jm_i ((jm_sI h 12 x0 x4.toNatClampNeg (h.1 26 x1 x4.toNatClampNeg)).1 12 x0 x4.toNatClampNeg), jm_r 24 x1, jm_i x4, jm_r 15 x0], (jm_sI (jm_sI (jm_sI h 12 x0 x4.toNatClampNeg (h.1 26 x1 x4.toNatClampNeg)) 13 x0 x4.toNatClampNeg (h.1 27 x1 x4.toNatClampNeg)) 14 x0 x4.toNatClampNeg (((jm_sI (jm_sI h 12 x0 x4.toNatClampNeg (h.1 26 x1 x4.toNatClampNeg)) 13 x0 x4.toNatClampNeg (h.1 27 x1 x4.toNatClampNeg)).1 13 x0 x4.toNatClampNeg) + (h.1 25 x1 (((jm_sI h 12 x0 x4.toNatClampNeg (h.1 26 x1 x4.toNatClampNeg)).1 12 x0 x4.toNatClampNeg).toNatClampNeg)))))) rfl ?_
    refine jm_E_iald rfl rfl H.1 ?_
    replace H := H.2
    refine jm_E_eq (x := (75, [some (jm_r 1 x0), some (jm_r 2 x1), none, none, some (jm_i x4)], [jm_i (h.1 24 x1 (((jm_sI h 12 x0 x4.toNatClampNeg (h.1 26 x1 x4.toNatClampNeg)).1 12 x0 x4.toNatClampNeg).toNatClampNeg)), jm_i x4, jm_r 15 x0], (jm_sI (jm_sI (jm_sI h 12 x0 x4.toNatClampNeg (h.1 26 x1 x4.toNatClampNeg)) 13 x0 x4.toNatClampNeg (h.1 27 x1 x4.toNatClampNeg)) 14 x0 x4.toNatClampNeg (((jm_sI (jm_sI h 12 x0 x4.toNatClampNeg (h.1 26 x1 x4.toNatClampNeg)) 13 x0 x4.toNatClampNeg (h.1 27 x1 x4.toNatClampNeg)).1 13 x0 x4.toNatClampNeg) + (h.1 25 x1 (((jm_sI h 12 x0 x4.toNatClampNeg (h.1 26 x1 x4.toNatClampNeg)).1 12 x0 x4.toNatClampNeg).toNatClampNeg)))))) rfl ?_
    refine jm_E_iast rfl rfl H.1 ?_
    replace H := H.2
    refine jm_E_eq (x := (76, [some (jm_r 1 x0), some (jm_r 2 x1), none, none, some (jm_i x4)], [], (jm_sI (jm_sI (jm_sI (jm_sI h 12 x0 x4.toNatClampNeg (h.1 26 x1 x4.toNatClampNeg)) 13 x0 x4.toNatClampNeg (h.1 27 x1 x4.toNatClampNeg)) 14 x0 x4.toNatClampNeg (((jm_sI (jm_sI h 12 x0 x4.toNatClampNeg (h.1 26 x1 x4.toNatClampNeg)) 13 x0 x4.toNatClampNeg (h.1 27 x1 x4.toNatClampNeg)).1 13 x0 x4.toNatClampNeg) + (h.1 25 x1 (((jm_sI h 12 x0 x4.toNatClampNeg (h.1 26 x1 x4.toNatClampNeg)).1 12 x0 x4.toNatClampNeg).toNatClampNeg)))) 15 x0 x4.toNatClampNeg (h.1 24 x1 (((jm_sI h 12 x0 x4.toNatClampNeg (h.1 26 x1 x4.toNatClampNeg)).1 12 x0 x4.toNatClampNeg).toNatClampNeg))))) rfl ?_
    refine jm_E_n 6 (x' := (82, [some (jm_r 1 x0), some (jm_r 2 x1), none, none, some (jm_i x4)], [jm_i x4, jm_r 13 x0, jm_i x4, jm_r 16 x0], (jm_sI (jm_sI (jm_sI (jm_sI h 12 x0 x4.toNatClampNeg (h.1 26 x1 x4.toNatClampNeg)) 13 x0 x4.toNatClampNeg (h.1 27 x1 x4.toNatClampNeg)) 14 x0 x4.toNatClampNeg (((jm_sI (jm_sI h 12 x0 x4.toNatClampNeg (h.1 26 x1 x4.toNatClampNeg)) 13 x0 x4.toNatClampNeg (h.1 27 x1 x4.toNatClampNeg)).1 13 x0 x4.toNatClampNeg) + (h.1 25 x1 (((jm_sI h 12 x0 x4.toNatClampNeg (h.1 26 x1 x4.toNatClampNeg)).1 12 x0 x4.toNatClampNeg).toNatClampNeg)))) 15 x0 x4.toNatClampNeg (h.1 24 x1 (((jm_sI h 12 x0 x4.toNatClampNeg (h.1 26 x1 x4.toNatClampNeg)).1 12 x0 x4.toNatClampNeg).toNatClampNeg))))) rfl ?_
    refine jm_E_iald rfl rfl H.1 ?_
    replace H := H.2
    refine jm_E_eq (x := (83, [some (jm_r 1 x0), some (jm_r 2 x1), none, none, some (jm_i x4)], [jm_i ((jm_sI (jm_sI h 12 x0 x4.toNatClampNeg (h.1 26 x1 x4.toNatClampNeg)) 13 x0 x4.toNatClampNeg (h.1 27 x1 x4.toNatClampNeg)).1 13 x0 x4.toNatClampNeg), jm_i x4, jm_r 16 x0], (jm_sI (jm_sI (jm_sI (jm_sI h 12 x0 x4.toNatClampNeg (h.1 26 x1 x4.toNatClampNeg)) 13 x0 x4.toNatClampNeg (h.1 27 x1 x4.toNatClampNeg)) 14 x0 x4.toNatClampNeg (((jm_sI (jm_sI h 12 x0 x4.toNatClampNeg (h.1 26 x1 x4.toNatClampNeg)) 13 x0 x4.toNatClampNeg (h.1 27 x1 x4.toNatClampNeg)).1 13 x0 x4.toNatClampNeg) + (h.1 25 x1 (((jm_sI h 12 x0 x4.toNatClampNeg (h.1 26 x1 x4.toNatClampNeg)).1 12 x0 x4.toNatClampNeg).toNatClampNeg)))) 15 x0 x4.toNatClampNeg (h.1 24 x1 (((jm_sI h 12 x0 x4.toNatClampNeg (h.1 26 x1 x4.toNatClampNeg)).1 12 x0 x4.toNatClampNeg).toNatClampNeg))))) rfl ?_
    refine jm_E_n 7 (x' := (90, [some (jm_r 1 x0), some (jm_r 2 x1), none, none, some (jm_i x4)], [jm_i (h.1 1 x0 0), jm_i ((((jm_sI (jm_sI h 12 x0 x4.toNatClampNeg (h.1 26 x1 x4.toNatClampNeg)) 13 x0 x4.toNatClampNeg (h.1 27 x1 x4.toNatClampNeg)).1 13 x0 x4.toNatClampNeg) + (h.1 1 x0 0)) - 1), jm_i x4, jm_r 16 x0], (jm_sI (jm_sI (jm_sI (jm_sI h 12 x0 x4.toNatClampNeg (h.1 26 x1 x4.toNatClampNeg)) 13 x0 x4.toNatClampNeg (h.1 27 x1 x4.toNatClampNeg)) 14 x0 x4.toNatClampNeg (((jm_sI (jm_sI h 12 x0 x4.toNatClampNeg (h.1 26 x1 x4.toNatClampNeg)) 13 x0 x4.toNatClampNeg (h.1 27 x1 x4.toNatClampNeg)).1 13 x0 x4.toNatClampNeg) + (h.1 25 x1 (((jm_sI h 12 x0 x4.toNatClampNeg (h.1 26 x1 x4.toNatClampNeg)).1 12 x0 x4.toNatClampNeg).toNatClampNeg)))) 15 x0 x4.toNatClampNeg (h.1 24 x1 (((jm_sI h 12 x0 x4.toNatClampNeg (h.1 26 x1 x4.toNatClampNeg)).1 12 x0 x4.toNatClampNeg).toNatClampNeg))))) rfl ?_
    refine jm_E_idiv rfl H.1 ?_
    replace H := H.2
    refine jm_E_eq (x := (91, [some (jm_r 1 x0), some (jm_r 2 x1), none, none, some (jm_i x4)], [jm_i (((((jm_sI (jm_sI h 12 x0 x4.toNatClampNeg (h.1 26 x1 x4.toNatClampNeg)) 13 x0 x4.toNatClampNeg (h.1 27 x1 x4.toNatClampNeg)).1 13 x0 x4.toNatClampNeg) + (h.1 1 x0 0)) - 1) / (h.1 1 x0 0)), jm_i x4, jm_r 16 x0], (jm_sI (jm_sI (jm_sI (jm_sI h 12 x0 x4.toNatClampNeg (h.1 26 x1 x4.toNatClampNeg)) 13 x0 x4.toNatClampNeg (h.1 27 x1 x4.toNatClampNeg)) 14 x0 x4.toNatClampNeg (((jm_sI (jm_sI h 12 x0 x4.toNatClampNeg (h.1 26 x1 x4.toNatClampNeg)) 13 x0 x4.toNatClampNeg (h.1 27 x1 x4.toNatClampNeg)).1 13 x0 x4.toNatClampNeg) + (h.1 25 x1 (((jm_sI h 12 x0 x4.toNatClampNeg (h.1 26 x1 x4.toNatClampNeg)).1 12 x0 x4.toNatClampNeg).toNatClampNeg)))) 15 x0 x4.toNatClampNeg (h.1 24 x1 (((jm_sI h 12 x0 x4.toNatClampNeg (h.1 26 x1 x4.toNatClampNeg)).1 12 x0 x4.toNatClampNeg).toNatClampNeg))))) rfl ?_
    refine jm_E_iast rfl rfl H.1 ?_
    replace H := H.2
    refine jm_E_eq (x := (92, [some (jm_r 1 x0), some (jm_r 2 x1), none, none, some (jm_i x4)], [], (jm_sI (jm_sI (jm_sI (jm_sI (jm_sI h 12 x0 x4.toNatClampNeg (h.1 26 x1 x4.toNatClampNeg)) 13 x0 x4.toNatClampNeg (h.1 27 x1 x4.toNatClampNeg)) 14 x0 x4.toNatClampNeg (((jm_sI (jm_sI h 12 x0 x4.toNatClampNeg (h.1 26 x1 x4.toNatClampNeg)) 13 x0 x4.toNatClampNeg (h.1 27 x1 x4.toNatClampNeg)).1 13 x0 x4.toNatClampNeg) + (h.1 25 x1 (((jm_sI h 12 x0 x4.toNatClampNeg (h.1 26 x1 x4.toNatClampNeg)).1 12 x0 x4.toNatClampNeg).toNatClampNeg)))) 15 x0 x4.toNatClampNeg (h.1 24 x1 (((jm_sI h 12 x0 x4.toNatClampNeg (h.1 26 x1 x4.toNatClampNeg)).1 12 x0 x4.toNatClampNeg).toNatClampNeg))) 16 x0 x4.toNatClampNeg (((((jm_sI (jm_sI h 12 x0 x4.toNatClampNeg (h.1 26 x1 x4.toNatClampNeg)) 13 x0 x4.toNatClampNeg (h.1 27 x1 x4.toNatClampNeg)).1 13 x0 x4.toNatClampNeg) + (h.1 1 x0 0)) - 1) / (h.1 1 x0 0))))) rfl ?_
    refine jm_E_n 6 (x' := (98, [some (jm_r 1 x0), some (jm_r 2 x1), none, none, some (jm_i x4)], [jm_i x4, jm_r 14 x0, jm_i x4, jm_r 17 x0], (jm_sI (jm_sI (jm_sI (jm_sI (jm_sI h 12 x0 x4.toNatClampNeg (h.1 26 x1 x4.toNatClampNeg)) 13 x0 x4.toNatClampNeg (h.1 27 x1 x4.toNatClampNeg)) 14 x0 x4.toNatClampNeg (((jm_sI (jm_sI h 12 x0 x4.toNatClampNeg (h.1 26 x1 x4.toNatClampNeg)) 13 x0 x4.toNatClampNeg (h.1 27 x1 x4.toNatClampNeg)).1 13 x0 x4.toNatClampNeg) + (h.1 25 x1 (((jm_sI h 12 x0 x4.toNatClampNeg (h.1 26 x1 x4.toNatClampNeg)).1 12 x0 x4.toNatClampNeg).toNatClampNeg)))) 15 x0 x4.toNatClampNeg (h.1 24 x1 (((jm_sI h 12 x0 x4.toNatClampNeg (h.1 26 x1 x4.toNatClampNeg)).1 12 x0 x4.toNatClampNeg).toNatClampNeg))) 16 x0 x4.toNatClampNeg (((((jm_sI (jm_sI h 12 x0 x4.toNatClampNeg (h.1 26 x1 x4.toNatClampNeg)) 13 x0 x4.toNatClampNeg (h.1 27 x1 x4.toNatClampNeg)).1 13 x0 x4.toNatClampNeg) + (h.1 1 x0 0)) - 1) / (h.1 1 x0 0))))) rfl ?_
    refine jm_E_iald rfl rfl H.1 ?_
    replace H := H.2
    refine jm_E_eq (x := (99, [some (jm_r 1 x0), some (jm_r 2 x1), none, none, some (jm_i x4)], [jm_i ((jm_sI (jm_sI (jm_sI h 12 x0 x4.toNatClampNeg (h.1 26 x1 x4.toNatClampNeg)) 13 x0 x4.toNatClampNeg (h.1 27 x1 x4.toNatClampNeg)) 14 x0 x4.toNatClampNeg (((jm_sI (jm_sI h 12 x0 x4.toNatClampNeg (h.1 26 x1 x4.toNatClampNeg)) 13 x0 x4.toNatClampNeg (h.1 27 x1 x4.toNatClampNeg)).1 13 x0 x4.toNatClampNeg) + (h.1 25 x1 (((jm_sI h 12 x0 x4.toNatClampNeg (h.1 26 x1 x4.toNatClampNeg)).1 12 x0 x4.toNatClampNeg).toNatClampNeg)))).1 14 x0 x4.toNatClampNeg), jm_i x4, jm_r 17 x0], (jm_sI (jm_sI (jm_sI (jm_sI (jm_sI h 12 x0 x4.toNatClampNeg (h.1 26 x1 x4.toNatClampNeg)) 13 x0 x4.toNatClampNeg (h.1 27 x1 x4.toNatClampNeg)) 14 x0 x4.toNatClampNeg (((jm_sI (jm_sI h 12 x0 x4.toNatClampNeg (h.1 26 x1 x4.toNatClampNeg)) 13 x0 x4.toNatClampNeg (h.1 27 x1 x4.toNatClampNeg)).1 13 x0 x4.toNatClampNeg) + (h.1 25 x1 (((jm_sI h 12 x0 x4.toNatClampNeg (h.1 26 x1 x4.toNatClampNeg)).1 12 x0 x4.toNatClampNeg).toNatClampNeg)))) 15 x0 x4.toNatClampNeg (h.1 24 x1 (((jm_sI h 12 x0 x4.toNatClampNeg (h.1 26 x1 x4.toNatClampNeg)).1 12 x0 x4.toNatClampNeg).toNatClampNeg))) 16 x0 x4.toNatClampNeg (((((jm_sI (jm_sI h 12 x0 x4.toNatClampNeg (h.1 26 x1 x4.toNatClampNeg)) 13 x0 x4.toNatClampNeg (h.1 27 x1 x4.toNatClampNeg)).1 13 x0 x4.toNatClampNeg) + (h.1 1 x0 0)) - 1) / (h.1 1 x0 0))))) rfl ?_
    refine jm_E_n 2 (x' := (101, [some (jm_r 1 x0), some (jm_r 2 x1), none, none, some (jm_i x4)], [jm_i (h.1 1 x0 0), jm_i ((jm_sI (jm_sI (jm_sI h 12 x0 x4.toNatClampNeg (h.1 26 x1 x4.toNatClampNeg)) 13 x0 x4.toNatClampNeg (h.1 27 x1 x4.toNatClampNeg)) 14 x0 x4.toNatClampNeg (((jm_sI (jm_sI h 12 x0 x4.toNatClampNeg (h.1 26 x1 x4.toNatClampNeg)) 13 x0 x4.toNatClampNeg (h.1 27 x1 x4.toNatClampNeg)).1 13 x0 x4.toNatClampNeg) + (h.1 25 x1 (((jm_sI h 12 x0 x4.toNatClampNeg (h.1 26 x1 x4.toNatClampNeg)).1 12 x0 x4.toNatClampNeg).toNatClampNeg)))).1 14 x0 x4.toNatClampNeg), jm_i x4, jm_r 17 x0], (jm_sI (jm_sI (jm_sI (jm_sI (jm_sI h 12 x0 x4.toNatClampNeg (h.1 26 x1 x4.toNatClampNeg)) 13 x0 x4.toNatClampNeg (h.1 27 x1 x4.toNatClampNeg)) 14 x0 x4.toNatClampNeg (((jm_sI (jm_sI h 12 x0 x4.toNatClampNeg (h.1 26 x1 x4.toNatClampNeg)) 13 x0 x4.toNatClampNeg (h.1 27 x1 x4.toNatClampNeg)).1 13 x0 x4.toNatClampNeg) + (h.1 25 x1 (((jm_sI h 12 x0 x4.toNatClampNeg (h.1 26 x1 x4.toNatClampNeg)).1 12 x0 x4.toNatClampNeg).toNatClampNeg)))) 15 x0 x4.toNatClampNeg (h.1 24 x1 (((jm_sI h 12 x0 x4.toNatClampNeg (h.1 26 x1 x4.toNatClampNeg)).1 12 x0 x4.toNatClampNeg).toNatClampNeg))) 16 x0 x4.toNatClampNeg (((((jm_sI (jm_sI h 12 x0 x4.toNatClampNeg (h.1 26 x1 x4.toNatClampNeg)) 13 x0 x4.toNatClampNeg (h.1 27 x1 x4.toNatClampNeg)).1 13 x0 x4.toNatClampNeg) + (h.1 1 x0 0)) - 1) / (h.1 1 x0 0))))) rfl ?_
    refine jm_E_idiv rfl H.1 ?_
    replace H := H.2
    refine jm_E_eq (x := (102, [some (jm_r 1 x0), some (jm_r 2 x1), none, none, some (jm_i x4)], [jm_i (((jm_sI (jm_sI (jm_sI h 12 x0 x4.toNatClampNeg (h.1 26 x1 x4.toNatClampNeg)) 13 x0 x4.toNatClampNeg (h.1 27 x1 x4.toNatClampNeg)) 14 x0 x4.toNatClampNeg (((jm_sI (jm_sI h 12 x0 x4.toNatClampNeg (h.1 26 x1 x4.toNatClampNeg)) 13 x0 x4.toNatClampNeg (h.1 27 x1 x4.toNatClampNeg)).1 13 x0 x4.toNatClampNeg) + (h.1 25 x1 (((jm_sI h 12 x0 x4.toNatClampNeg (h.1 26 x1 x4.toNatClampNeg)).1 12 x0 x4.toNatClampNeg).toNatClampNeg)))).1 14 x0 x4.toNatClampNeg) / (h.1 1 x0 0)), jm_i x4, jm_r 17 x0], (jm_sI (jm_sI (jm_sI (jm_sI (jm_sI h 12 x0 x4.toNatClampNeg (h.1 26 x1 x4.toNatClampNeg)) 13 x0 x4.toNatClampNeg (h.1 27 x1 x4.toNatClampNeg)) 14 x0 x4.toNatClampNeg (((jm_sI (jm_sI h 12 x0 x4.toNatClampNeg (h.1 26 x1 x4.toNatClampNeg)) 13 x0 x4.toNatClampNeg (h.1 27 x1 x4.toNatClampNeg)).1 13 x0 x4.toNatClampNeg) + (h.1 25 x1 (((jm_sI h 12 x0 x4.toNatClampNeg (h.1 26 x1 x4.toNatClampNeg)).1 12 x0 x4.toNatClampNeg).toNatClampNeg)))) 15 x0 x4.toNatClampNeg (h.1 24 x1 (((jm_sI h 12 x0 x4.toNatClampNeg (h.1 26 x1 x4.toNatClampNeg)).1 12 x0 x4.toNatClampNeg).toNatClampNeg))) 16 x0 x4.toNatClampNeg (((((jm_sI (jm_sI h 12 x0 x4.toNatClampNeg (h.1 26 x1 x4.toNatClampNeg)) 13 x0 x4.toNatClampNeg (h.1 27 x1 x4.toNatClampNeg)).1 13 x0 x4.toNatClampNeg) + (h.1 1 x0 0)) - 1) / (h.1 1 x0 0))))) rfl ?_
    refine jm_E_n 2 (x' := (104, [some (jm_r 1 x0), some (jm_r 2 x1), none, none, some (jm_i x4)], [jm_i ((((jm_sI (jm_sI (jm_sI h 12 x0 x4.toNatClampNeg (h.1 26 x1 x4.toNatClampNeg)) 13 x0 x4.toNatClampNeg (h.1 27 x1 x4.toNatClampNeg)) 14 x0 x4.toNatClampNeg (((jm_sI (jm_sI h 12 x0 x4.toNatClampNeg (h.1 26 x1 x4.toNatClampNeg)) 13 x0 x4.toNatClampNeg (h.1 27 x1 x4.toNatClampNeg)).1 13 x0 x4.toNatClampNeg) + (h.1 25 x1 (((jm_sI h 12 x0 x4.toNatClampNeg (h.1 26 x1 x4.toNatClampNeg)).1 12 x0 x4.toNatClampNeg).toNatClampNeg)))).1 14 x0 x4.toNatClampNeg) / (h.1 1 x0 0)) - 1), jm_i x4, jm_r 17 x0], (jm_sI (jm_sI (jm_sI (jm_sI (jm_sI h 12 x0 x4.toNatClampNeg (h.1 26 x1 x4.toNatClampNeg)) 13 x0 x4.toNatClampNeg (h.1 27 x1 x4.toNatClampNeg)) 14 x0 x4.toNatClampNeg (((jm_sI (jm_sI h 12 x0 x4.toNatClampNeg (h.1 26 x1 x4.toNatClampNeg)) 13 x0 x4.toNatClampNeg (h.1 27 x1 x4.toNatClampNeg)).1 13 x0 x4.toNatClampNeg) + (h.1 25 x1 (((jm_sI h 12 x0 x4.toNatClampNeg (h.1 26 x1 x4.toNatClampNeg)).1 12 x0 x4.toNatClampNeg).toNatClampNeg)))) 15 x0 x4.toNatClampNeg (h.1 24 x1 (((jm_sI h 12 x0 x4.toNatClampNeg (h.1 26 x1 x4.toNatClampNeg)).1 12 x0 x4.toNatClampNeg).toNatClampNeg))) 16 x0 x4.toNatClampNeg (((((jm_sI (jm_sI h 12 x0 x4.toNatClampNeg (h.1 26 x1 x4.toNatClampNeg)) 13 x0 x4.toNatClampNeg (h.1 27 x1 x4.toNatClampNeg)).1 13 x0 x4.toNatClampNeg) + (h.1 1 x0 0)) - 1) / (h.1 1 x0 0))))) rfl ?_
    refine jm_E_iast rfl rfl H.1 ?_
    replace H := H.2
    refine jm_E_eq (x := (105, [some (jm_r 1 x0), some (jm_r 2 x1), none, none, some (jm_i x4)], [], (jm_sI (jm_sI (jm_sI (jm_sI (jm_sI (jm_sI h 12 x0 x4.toNatClampNeg (h.1 26 x1 x4.toNatClampNeg)) 13 x0 x4.toNatClampNeg (h.1 27 x1 x4.toNatClampNeg)) 14 x0 x4.toNatClampNeg (((jm_sI (jm_sI h 12 x0 x4.toNatClampNeg (h.1 26 x1 x4.toNatClampNeg)) 13 x0 x4.toNatClampNeg (h.1 27 x1 x4.toNatClampNeg)).1 13 x0 x4.toNatClampNeg) + (h.1 25 x1 (((jm_sI h 12 x0 x4.toNatClampNeg (h.1 26 x1 x4.toNatClampNeg)).1 12 x0 x4.toNatClampNeg).toNatClampNeg)))) 15 x0 x4.toNatClampNeg (h.1 24 x1 (((jm_sI h 12 x0 x4.toNatClampNeg (h.1 26 x1 x4.toNatClampNeg)).1 12 x0 x4.toNatClampNeg).toNatClampNeg))) 16 x0 x4.toNatClampNeg (((((jm_sI (jm_sI h 12 x0 x4.toNatClampNeg (h.1 26 x1 x4.toNatClampNeg)) 13 x0 x4.toNatClampNeg (h.1 27 x1 x4.toNatClampNeg)).1 13 x0 x4.toNatClampNeg) + (h.1 1 x0 0)) - 1) / (h.1 1 x0 0))) 17 x0 x4.toNatClampNeg ((((jm_sI (jm_sI (jm_sI h 12 x0 x4.toNatClampNeg (h.1 26 x1 x4.toNatClampNeg)) 13 x0 x4.toNatClampNeg (h.1 27 x1 x4.toNatClampNeg)) 14 x0 x4.toNatClampNeg (((jm_sI (jm_sI h 12 x0 x4.toNatClampNeg (h.1 26 x1 x4.toNatClampNeg)) 13 x0 x4.toNatClampNeg (h.1 27 x1 x4.toNatClampNeg)).1 13 x0 x4.toNatClampNeg) + (h.1 25 x1 (((jm_sI h 12 x0 x4.toNatClampNeg (h.1 26 x1 x4.toNatClampNeg)).1 12 x0 x4.toNatClampNeg).toNatClampNeg)))).1 14 x0 x4.toNatClampNeg) / (h.1 1 x0 0)) - 1)))) rfl ?_
    refine jm_E_n 2 (x' := (29, [some (jm_r 1 x0), some (jm_r 2 x1), none, none, some (jm_i (x4 + 1))], [], (jm_sI (jm_sI (jm_sI (jm_sI (jm_sI (jm_sI h 12 x0 x4.toNatClampNeg (h.1 26 x1 x4.toNatClampNeg)) 13 x0 x4.toNatClampNeg (h.1 27 x1 x4.toNatClampNeg)) 14 x0 x4.toNatClampNeg (((jm_sI (jm_sI h 12 x0 x4.toNatClampNeg (h.1 26 x1 x4.toNatClampNeg)) 13 x0 x4.toNatClampNeg (h.1 27 x1 x4.toNatClampNeg)).1 13 x0 x4.toNatClampNeg) + (h.1 25 x1 (((jm_sI h 12 x0 x4.toNatClampNeg (h.1 26 x1 x4.toNatClampNeg)).1 12 x0 x4.toNatClampNeg).toNatClampNeg)))) 15 x0 x4.toNatClampNeg (h.1 24 x1 (((jm_sI h 12 x0 x4.toNatClampNeg (h.1 26 x1 x4.toNatClampNeg)).1 12 x0 x4.toNatClampNeg).toNatClampNeg))) 16 x0 x4.toNatClampNeg (((((jm_sI (jm_sI h 12 x0 x4.toNatClampNeg (h.1 26 x1 x4.toNatClampNeg)) 13 x0 x4.toNatClampNeg (h.1 27 x1 x4.toNatClampNeg)).1 13 x0 x4.toNatClampNeg) + (h.1 1 x0 0)) - 1) / (h.1 1 x0 0))) 17 x0 x4.toNatClampNeg ((((jm_sI (jm_sI (jm_sI h 12 x0 x4.toNatClampNeg (h.1 26 x1 x4.toNatClampNeg)) 13 x0 x4.toNatClampNeg (h.1 27 x1 x4.toNatClampNeg)) 14 x0 x4.toNatClampNeg (((jm_sI (jm_sI h 12 x0 x4.toNatClampNeg (h.1 26 x1 x4.toNatClampNeg)) 13 x0 x4.toNatClampNeg (h.1 27 x1 x4.toNatClampNeg)).1 13 x0 x4.toNatClampNeg) + (h.1 25 x1 (((jm_sI h 12 x0 x4.toNatClampNeg (h.1 26 x1 x4.toNatClampNeg)).1 12 x0 x4.toNatClampNeg).toNatClampNeg)))).1 14 x0 x4.toNatClampNeg) / (h.1 1 x0 0)) - 1)))) rfl ?_
    exact H
set_option maxRecDepth 100000 in
theorem wp_Flow_lay {o : Nat} {a0 : Nat} {a1 : Int32} {a2 : Int32} {h : jm_H} {r : jm_Rs} (H :
  ∃ (v1 : Int32) (h1 : jm_H), m_Mode_round a0 (jm_sI (jm_sI h 1 o 0 (if (1 : Int32) < a1 then a1 else 1)) 1 o 1 (if (0 : Int32) < (a1 - a2) then (a1 - a2) else 0)) v1 h1 ∧
  ¬ (h1.1 1 o 0) = 0 ∧
  l_Flow_lay_29 o a0 0 (jm_sI (jm_sI h1 1 o 2 (if (v1 / (h1.1 1 o 0)) < 24 then (v1 / (h1.1 1 o 0)) else 24)) 1 o 3 (if (h1.1 2 a0 3) < 24 then (h1.1 2 a0 3) else 24)) r) : jm_R 211 [jm_r 1 o, jm_r 2 a0, jm_i a1, jm_i a2] h r := by
  refine jm_R_of hz_211 (Nat.le_of_ble_eq_true rfl) ?_
  show jm_E cod_211 (0, [some (jm_r 1 o), some (jm_r 2 a0), some (jm_i a1), some (jm_i a2), none], [], h) r
  refine jm_E_n 15 (x' := (15, [some (jm_r 1 o), some (jm_r 2 a0), some (jm_i a1), some (jm_i a2), none], [jm_r 2 a0, jm_i 24, jm_r 1 o], (jm_sI (jm_sI h 1 o 0 (if (1 : Int32) < a1 then a1 else 1)) 1 o 1 (if (0 : Int32) < (a1 - a2) then (a1 - a2) else 0)))) rfl ?_
  obtain ⟨v1, h1, hR, H⟩ := H
  refine jm_E_call rfl (Nat.le_of_ble_eq_true rfl) (Nat.le_of_ble_eq_true rfl) rfl hR trivial ?_
  refine jm_E_eq (x := (16, [some (jm_r 1 o), some (jm_r 2 a0), some (jm_i a1), some (jm_i a2), none], [jm_i v1, jm_i 24, jm_r 1 o], h1)) rfl ?_
  refine jm_E_n 2 (x' := (18, [some (jm_r 1 o), some (jm_r 2 a0), some (jm_i a1), some (jm_i a2), none], [jm_i (h1.1 1 o 0), jm_i v1, jm_i 24, jm_r 1 o], h1)) rfl ?_
  refine jm_E_idiv rfl H.1 ?_
  replace H := H.2
  refine jm_E_eq (x := (19, [some (jm_r 1 o), some (jm_r 2 a0), some (jm_i a1), some (jm_i a2), none], [jm_i (v1 / (h1.1 1 o 0)), jm_i 24, jm_r 1 o], h1)) rfl ?_
  refine jm_E_n 10 (x' := (29, [some (jm_r 1 o), some (jm_r 2 a0), some (jm_i a1), some (jm_i a2), some (jm_i 0)], [], (jm_sI (jm_sI h1 1 o 2 (if (v1 / (h1.1 1 o 0)) < 24 then (v1 / (h1.1 1 o 0)) else 24)) 1 o 3 (if (h1.1 2 a0 3) < 24 then (h1.1 2 a0 3) else 24)))) rfl ?_
  exact jm_E_weak (jm_le_s (jm_le_s (jm_le_n (jm_le_n (jm_le_s jm_le_nil))))) H
set_option maxRecDepth 100000 in
theorem wp_Mode_isInRound {o : Nat} {a0 : Int32} {h : jm_H} {r : jm_Rs} (H :
  (a0 ≤ 0 →
    r = (some (jm_i 0), h)) ∧
  (¬ (a0 ≤ 0) →
    ∃ (v1 : Int32) (h1 : jm_H), m_Mode_round o h v1 h1 ∧
    ¬ a0 = 0 ∧
    ((v1 - v1 / a0 * a0) = 0 →
      r = (some (jm_i 1), h1)) ∧
    (¬ ((v1 - v1 / a0 * a0) = 0) →
      r = (some (jm_i 0), h1)))) : jm_R 230 [jm_r 2 o, jm_i a0] h r := by
  refine jm_R_of hz_230 (Nat.le_of_ble_eq_true rfl) ?_
  show jm_E cod_230 (0, [some (jm_r 2 o), some (jm_i a0)], [], h) r
  refine jm_E_n 2 (x' := (if a0 ≤ 0 then 9 else 2, [some (jm_r 2 o), some (jm_i a0)], [], h)) rfl ?_
  refine jm_E_ite (fun hc => ?_) (fun hc => ?_)
  · replace H := H.1 hc
    refine jm_E_n 1 (x' := (10, [some (jm_r 2 o), some (jm_i a0)], [jm_i 0], h)) rfl ?_
    exact jm_E_ret rfl (by rw [H]; rfl)
  · replace H := H.2 hc
    refine jm_E_n 1 (x' := (3, [some (jm_r 2 o), some (jm_i a0)], [jm_r 2 o], h)) rfl ?_
    obtain ⟨v1, h1, hR, H⟩ := H
    refine jm_E_call rfl (Nat.le_of_ble_eq_true rfl) (Nat.le_of_ble_eq_true rfl) rfl hR trivial ?_
    refine jm_E_eq (x := (4, [some (jm_r 2 o), some (jm_i a0)], [jm_i v1], h1)) rfl ?_
    refine jm_E_n 1 (x' := (5, [some (jm_r 2 o), some (jm_i a0)], [jm_i a0, jm_i v1], h1)) rfl ?_
    refine jm_E_irem rfl H.1 ?_
    replace H := H.2
    refine jm_E_eq (x := (6, [some (jm_r 2 o), some (jm_i a0)], [jm_i (v1 - v1 / a0 * a0)], h1)) rfl ?_
    refine jm_E_n 1 (x' := (if (v1 - v1 / a0 * a0) = 0 then 7 else 9, [some (jm_r 2 o), some (jm_i a0)], [], h1)) rfl ?_
    refine jm_E_ite (fun hc => ?_) (fun hc => ?_)
    · replace H := H.1 hc
      refine jm_E_n 2 (x' := (10, [some (jm_r 2 o), some (jm_i a0)], [jm_i 1], h1)) rfl ?_
      exact jm_E_ret rfl (by rw [H]; rfl)
    · replace H := H.2 hc
      refine jm_E_n 1 (x' := (10, [some (jm_r 2 o), some (jm_i a0)], [jm_i 0], h1)) rfl ?_
      exact jm_E_ret rfl (by rw [H]; rfl)
set_option maxRecDepth 100000 in
theorem wp_Flow_isEmpty {o : Nat} {a0 : Int32} {h : jm_H} {r : jm_Rs} (H :
  jm_in a0 24 ∧
  jm_in a0 24 ∧
  ((h.1 16 o a0.toNatClampNeg) ≤ (h.1 17 o a0.toNatClampNeg) →
    r = (some (jm_i 0), h)) ∧
  (¬ ((h.1 16 o a0.toNatClampNeg) ≤ (h.1 17 o a0.toNatClampNeg)) →
    r = (some (jm_i 1), h))) : jm_R 212 [jm_r 1 o, jm_i a0] h r := by
  refine jm_R_of hz_212 (Nat.le_of_ble_eq_true rfl) ?_
  show jm_E cod_212 (0, [some (jm_r 1 o), some (jm_i a0)], [], h) r
  refine jm_E_n 3 (x' := (3, [some (jm_r 1 o), some (jm_i a0)], [jm_i a0, jm_r 16 o], h)) rfl ?_
  refine jm_E_iald rfl rfl H.1 ?_
  replace H := H.2
  refine jm_E_eq (x := (4, [some (jm_r 1 o), some (jm_i a0)], [jm_i (h.1 16 o a0.toNatClampNeg)], h)) rfl ?_
  refine jm_E_n 3 (x' := (7, [some (jm_r 1 o), some (jm_i a0)], [jm_i a0, jm_r 17 o, jm_i (h.1 16 o a0.toNatClampNeg)], h)) rfl ?_
  refine jm_E_iald rfl rfl H.1 ?_
  replace H := H.2
  refine jm_E_eq (x := (8, [some (jm_r 1 o), some (jm_i a0)], [jm_i (h.1 17 o a0.toNatClampNeg), jm_i (h.1 16 o a0.toNatClampNeg)], h)) rfl ?_
  refine jm_E_n 1 (x' := (if (h.1 16 o a0.toNatClampNeg) ≤ (h.1 17 o a0.toNatClampNeg) then 11 else 9, [some (jm_r 1 o), some (jm_i a0)], [], h)) rfl ?_
  refine jm_E_ite (fun hc => ?_) (fun hc => ?_)
  · replace H := H.1 hc
    refine jm_E_n 1 (x' := (12, [some (jm_r 1 o), some (jm_i a0)], [jm_i 0], h)) rfl ?_
    exact jm_E_ret rfl (by rw [H]; rfl)
  · replace H := H.2 hc
    refine jm_E_n 2 (x' := (12, [some (jm_r 1 o), some (jm_i a0)], [jm_i 1], h)) rfl ?_
    exact jm_E_ret rfl (by rw [H]; rfl)
set_option maxRecDepth 100000 in
theorem wp_Flow_hasEmptyWindow_2 {x0 : Nat} {x1 : Int32} {h : jm_H} {r : jm_Rs} (H :
  ((h.1 1 x0 3) ≤ x1 →
    r = (some (jm_i 0), h)) ∧
  (¬ ((h.1 1 x0 3) ≤ x1) →
    ∃ (v1 : Int32) (h1 : jm_H), m_Flow_isEmpty x0 x1 h v1 h1 ∧
    (v1 = 0 →
      l_Flow_hasEmptyWindow_2 x0 (x1 + 1) h1 r) ∧
    (¬ (v1 = 0) →
      r = (some (jm_i 1), h1)))) : l_Flow_hasEmptyWindow_2 x0 x1 h r := by
  refine jm_E_n 4 (x' := (if (h.1 1 x0 3) ≤ x1 then 14 else 6, [some (jm_r 1 x0), some (jm_i x1)], [], h)) rfl ?_
  refine jm_E_ite (fun hc => ?_) (fun hc => ?_)
  · replace H := H.1 hc
    refine jm_E_n 1 (x' := (15, [some (jm_r 1 x0), some (jm_i x1)], [jm_i 0], h)) rfl ?_
    exact jm_E_ret rfl (by rw [H]; rfl)
  · replace H := H.2 hc
    refine jm_E_n 2 (x' := (8, [some (jm_r 1 x0), some (jm_i x1)], [jm_i x1, jm_r 1 x0], h)) rfl ?_
    obtain ⟨v1, h1, hR, H⟩ := H
    refine jm_E_call rfl (Nat.le_of_ble_eq_true rfl) (Nat.le_of_ble_eq_true rfl) rfl hR trivial ?_
    refine jm_E_eq (x := (9, [some (jm_r 1 x0), some (jm_i x1)], [jm_i v1], h1)) rfl ?_
    refine jm_E_n 1 (x' := (if v1 = 0 then 12 else 10, [some (jm_r 1 x0), some (jm_i x1)], [], h1)) rfl ?_
    refine jm_E_ite (fun hc => ?_) (fun hc => ?_)
    · replace H := H.1 hc
      refine jm_E_n 2 (x' := (2, [some (jm_r 1 x0), some (jm_i (x1 + 1))], [], h1)) rfl ?_
      exact H
    · replace H := H.2 hc
      refine jm_E_n 1 (x' := (11, [some (jm_r 1 x0), some (jm_i x1)], [jm_i 1], h1)) rfl ?_
      exact jm_E_ret rfl (by rw [H]; rfl)
set_option maxRecDepth 100000 in
theorem wp_Flow_hasEmptyWindow {o : Nat} {h : jm_H} {r : jm_Rs} (H :
  l_Flow_hasEmptyWindow_2 o 0 h r) : jm_R 213 [jm_r 1 o] h r := by
  refine jm_R_of hz_213 (Nat.le_of_ble_eq_true rfl) ?_
  show jm_E cod_213 (0, [some (jm_r 1 o), none], [], h) r
  refine jm_E_n 2 (x' := (2, [some (jm_r 1 o), some (jm_i 0)], [], h)) rfl ?_
  exact H
set_option maxRecDepth 100000 in
theorem wp_Flow_empty_2 {x0 : Nat} {x1 : Int32} {h : jm_H} {r : jm_Rs} (H :
  ((h.1 1 x0 2) ≤ x1 →
    l_Flow_empty_16 x0 0 h r) ∧
  (¬ ((h.1 1 x0 2) ≤ x1) →
    jm_in x1 24 ∧
    l_Flow_empty_2 x0 (x1 + 1) (jm_sI h 19 x0 x1.toNatClampNeg (h.1 1 x0 1)) r)) : l_Flow_empty_2 x0 x1 h r := by
  refine jm_E_n 4 (x' := (if (h.1 1 x0 2) ≤ x1 then 14 else 6, [some (jm_r 1 x0), some (jm_i x1)], [], h)) rfl ?_
  refine jm_E_ite (fun hc => ?_) (fun hc => ?_)
  · replace H := H.1 hc
    refine jm_E_n 2 (x' := (16, [some (jm_r 1 x0), some (jm_i 0)], [], h)) rfl ?_
    exact H
  · replace H := H.2 hc
    refine jm_E_n 5 (x' := (11, [some (jm_r 1 x0), some (jm_i x1)], [jm_i (h.1 1 x0 1), jm_i x1, jm_r 19 x0], h)) rfl ?_
    refine jm_E_iast rfl rfl H.1 ?_
    replace H := H.2
    refine jm_E_eq (x := (12, [some (jm_r 1 x0), some (jm_i x1)], [], (jm_sI h 19 x0 x1.toNatClampNeg (h.1 1 x0 1)))) rfl ?_
    refine jm_E_n 2 (x' := (2, [some (jm_r 1 x0), some (jm_i (x1 + 1))], [], (jm_sI h 19 x0 x1.toNatClampNeg (h.1 1 x0 1)))) rfl ?_
    exact H
set_option maxRecDepth 100000 in
theorem wp_Flow_empty_16 {x0 : Nat} {x1 : Int32} {h : jm_H} {r : jm_Rs} (H :
  ((h.1 1 x0 3) ≤ x1 →
    r = (none, h)) ∧
  (¬ ((h.1 1 x0 3) ≤ x1) →
    jm_in x1 24 ∧
    jm_in x1 24 ∧
    jm_in x1 24 ∧
    ∃ h1 : jm_H, m_JArrays_fill_21 (24 * x0 + x1.toNatClampNeg) 0 (jm_sI h 18 x0 x1.toNatClampNeg (h.1 15 x0 x1.toNatClampNeg)) h1 ∧
    l_Flow_empty_16 x0 (x1 + 1) h1 r)) : l_Flow_empty_16 x0 x1 h r := by
  refine jm_E_n 4 (x' := (if (h.1 1 x0 3) ≤ x1 then 36 else 20, [some (jm_r 1 x0), some (jm_i x1)], [], h)) rfl ?_
  refine jm_E_ite (fun hc => ?_) (fun hc => ?_)
  · replace H := H.1 hc
    exact jm_E_ret rfl (by rw [H]; rfl)
  · replace H := H.2 hc
    refine jm_E_n 6 (x' := (26, [some (jm_r 1 x0), some (jm_i x1)], [jm_i x1, jm_r 15 x0, jm_i x1, jm_r 18 x0], h)) rfl ?_
    refine jm_E_iald rfl rfl H.1 ?_
    replace H := H.2
    refine jm_E_eq (x := (27, [some (jm_r 1 x0), some (jm_i x1)], [jm_i (h.1 15 x0 x1.toNatClampNeg), jm_i x1, jm_r 18 x0], h)) rfl ?_
    refine jm_E_iast rfl rfl H.1 ?_
    replace H := H.2
    refine jm_E_eq (x := (28, [some (jm_r 1 x0), some (jm_i x1)], [], (jm_sI h 18 x0 x1.toNatClampNeg (h.1 15 x0 x1.toNatClampNeg)))) rfl ?_
    refine jm_E_n 3 (x' := (31, [some (jm_r 1 x0), some (jm_i x1)], [jm_i x1, jm_r 20 x0], (jm_sI h 18 x0 x1.toNatClampNeg (h.1 15 x0 x1.toNatClampNeg)))) rfl ?_
    refine jm_E_aald rfl rfl H.1 ?_
    replace H := H.2
    refine jm_E_eq (x := (32, [some (jm_r 1 x0), some (jm_i x1)], [jm_r 21 (24 * x0 + x1.toNatClampNeg)], (jm_sI h 18 x0 x1.toNatClampNeg (h.1 15 x0 x1.toNatClampNeg)))) rfl ?_
    refine jm_E_n 1 (x' := (33, [some (jm_r 1 x0), some (jm_i x1)], [jm_i 0, jm_r 21 (24 * x0 + x1.toNatClampNeg)], (jm_sI h 18 x0 x1.toNatClampNeg (h.1 15 x0 x1.toNatClampNeg)))) rfl ?_
    obtain ⟨h1, hR, H⟩ := H
    refine jm_E_call rfl (Nat.le_of_ble_eq_true rfl) (Nat.le_of_ble_eq_true rfl) trivial hR trivial ?_
    refine jm_E_eq (x := (34, [some (jm_r 1 x0), some (jm_i x1)], [], h1)) rfl ?_
    refine jm_E_n 2 (x' := (16, [some (jm_r 1 x0), some (jm_i (x1 + 1))], [], h1)) rfl ?_
    exact H
set_option maxRecDepth 100000 in
theorem wp_Flow_empty {o : Nat} {h : jm_H} {r : jm_Rs} (H :
  l_Flow_empty_2 o 0 h r) : jm_R 218 [jm_r 1 o] h r := by
  refine jm_R_of hz_218 (Nat.le_of_ble_eq_true rfl) ?_
  show jm_E cod_218 (0, [some (jm_r 1 o), none], [], h) r
  refine jm_E_n 2 (x' := (2, [some (jm_r 1 o), some (jm_i 0)], [], h)) rfl ?_
  exact H
set_option maxRecDepth 100000 in
theorem wp_Flow_mostUrgent_4 {x0 : Nat} {x1 : Int32} {x2 : Int32} {x3 : Int32} {h : jm_H} {r : jm_Rs} (H :
  ((h.1 1 x0 3) ≤ x3 →
    r = (some (jm_i x2), h)) ∧
  (¬ ((h.1 1 x0 3) ≤ x3) →
    jm_in x3 24 ∧
    ((h.1 18 x0 x3.toNatClampNeg) ≤ 0 →
      l_Flow_mostUrgent_4 x0 x1 x2 (x3 + 1) h r) ∧
    (¬ ((h.1 18 x0 x3.toNatClampNeg) ≤ 0) →
      jm_in x3 24 ∧
      (x1 < (h.1 16 x0 x3.toNatClampNeg) →
        l_Flow_mostUrgent_4 x0 x1 x2 (x3 + 1) h r) ∧
      (¬ (x1 < (h.1 16 x0 x3.toNatClampNeg)) →
        jm_in x3 24 ∧
        ((h.1 17 x0 x3.toNatClampNeg) < x1 →
          l_Flow_mostUrgent_4 x0 x1 x2 (x3 + 1) h r) ∧
        (¬ ((h.1 17 x0 x3.toNatClampNeg) < x1) →
          (x2 < 0 →
            l_Flow_mostUrgent_4 x0 x1 x3 (x3 + 1) h r) ∧
          (¬ (x2 < 0) →
            jm_in x3 24 ∧
            jm_in x2 24 ∧
            ((h.1 17 x0 x2.toNatClampNeg) ≤ (h.1 17 x0 x3.toNatClampNeg) →
              l_Flow_mostUrgent_4 x0 x1 x2 (x3 + 1) h r) ∧
            (¬ ((h.1 17 x0 x2.toNatClampNeg) ≤ (h.1 17 x0 x3.toNatClampNeg)) →
              l_Flow_mostUrgent_4 x0 x1 x3 (x3 + 1) h r))))))) : l_Flow_mostUrgent_4 x0 x1 x2 x3 h r := by
  refine jm_E_n 4 (x' := (if (h.1 1 x0 3) ≤ x3 then 40 else 8, [some (jm_r 1 x0), some (jm_i x1), some (jm_i x2), some (jm_i x3)], [], h)) rfl ?_
  refine jm_E_ite (fun hc => ?_) (fun hc => ?_)
  · replace H := H.1 hc
    refine jm_E_n 1 (x' := (41, [some (jm_r 1 x0), some (jm_i x1), some (jm_i x2), some (jm_i x3)], [jm_i x2], h)) rfl ?_
    exact jm_E_ret rfl (by rw [H]; rfl)
  · replace H := H.2 hc
    refine jm_E_n 3 (x' := (11, [some (jm_r 1 x0), some (jm_i x1), some (jm_i x2), some (jm_i x3)], [jm_i x3, jm_r 18 x0], h)) rfl ?_
    refine jm_E_iald rfl rfl H.1 ?_
    replace H := H.2
    refine jm_E_eq (x := (12, [some (jm_r 1 x0), some (jm_i x1), some (jm_i x2), some (jm_i x3)], [jm_i (h.1 18 x0 x3.toNatClampNeg)], h)) rfl ?_
    refine jm_E_n 1 (x' := (if (h.1 18 x0 x3.toNatClampNeg) ≤ 0 then 38 else 13, [some (jm_r 1 x0), some (jm_i x1), some (jm_i x2), some (jm_i x3)], [], h)) rfl ?_
    refine jm_E_ite (fun hc => ?_) (fun hc => ?_)
    · replace H := H.1 hc
      refine jm_E_n 2 (x' := (4, [some (jm_r 1 x0), some (jm_i x1), some (jm_i x2), some (jm_i (x3 + 1))], [], h)) rfl ?_
      exact H
    · replace H := H.2 hc
      refine jm_E_n 3 (x' := (16, [some (jm_r 1 x0), some (jm_i x1), some (jm_i x2), some (jm_i x3)], [jm_i x3, jm_r 16 x0], h)) rfl ?_
      refine jm_E_iald rfl rfl H.1 ?_
      replace H := H.2
      refine jm_E_eq (x := (17, [some (jm_r 1 x0), some (jm_i x1), some (jm_i x2), some (jm_i x3)], [jm_i (h.1 16 x0 x3.toNatClampNeg)], h)) rfl ?_
      refine jm_E_n 2 (x' := (if x1 < (h.1 16 x0 x3.toNatClampNeg) then 38 else 19, [some (jm_r 1 x0), some (jm_i x1), some (jm_i x2), some (jm_i x3)], [], h)) rfl ?_
      refine jm_E_ite (fun hc => ?_) (fun hc => ?_)
      · replace H := H.1 hc
        refine jm_E_n 2 (x' := (4, [some (jm_r 1 x0), some (jm_i x1), some (jm_i x2), some (jm_i (x3 + 1))], [], h)) rfl ?_
        exact H
      · replace H := H.2 hc
        refine jm_E_n 4 (x' := (23, [some (jm_r 1 x0), some (jm_i x1), some (jm_i x2), some (jm_i x3)], [jm_i x3, jm_r 17 x0, jm_i x1], h)) rfl ?_
        refine jm_E_iald rfl rfl H.1 ?_
        replace H := H.2
        refine jm_E_eq (x := (24, [some (jm_r 1 x0), some (jm_i x1), some (jm_i x2), some (jm_i x3)], [jm_i (h.1 17 x0 x3.toNatClampNeg), jm_i x1], h)) rfl ?_
        refine jm_E_n 1 (x' := (if (h.1 17 x0 x3.toNatClampNeg) < x1 then 38 else 25, [some (jm_r 1 x0), some (jm_i x1), some (jm_i x2), some (jm_i x3)], [], h)) rfl ?_
        refine jm_E_ite (fun hc => ?_) (fun hc => ?_)
        · replace H := H.1 hc
          refine jm_E_n 2 (x' := (4, [some (jm_r 1 x0), some (jm_i x1), some (jm_i x2), some (jm_i (x3 + 1))], [], h)) rfl ?_
          exact H
        · replace H := H.2 hc
          refine jm_E_n 2 (x' := (if x2 < 0 then 36 else 27, [some (jm_r 1 x0), some (jm_i x1), some (jm_i x2), some (jm_i x3)], [], h)) rfl ?_
          refine jm_E_ite (fun hc => ?_) (fun hc => ?_)
          · replace H := H.1 hc
            refine jm_E_n 4 (x' := (4, [some (jm_r 1 x0), some (jm_i x1), some (jm_i x3), some (jm_i (x3 + 1))], [], h)) rfl ?_
            exact H
          · replace H := H.2 hc
            refine jm_E_n 3 (x' := (30, [some (jm_r 1 x0), some (jm_i x1), some (jm_i x2), some (jm_i x3)], [jm_i x3, jm_r 17 x0], h)) rfl ?_
            refine jm_E_iald rfl rfl H.1 ?_
            replace H := H.2
            refine jm_E_eq (x := (31, [some (jm_r 1 x0), some (jm_i x1), some (jm_i x2), some (jm_i x3)], [jm_i (h.1 17 x0 x3.toNatClampNeg)], h)) rfl ?_
            refine jm_E_n 3 (x' := (34, [some (jm_r 1 x0), some (jm_i x1), some (jm_i x2), some (jm_i x3)], [jm_i x2, jm_r 17 x0, jm_i (h.1 17 x0 x3.toNatClampNeg)], h)) rfl ?_
            refine jm_E_iald rfl rfl H.1 ?_
            replace H := H.2
            refine jm_E_eq (x := (35, [some (jm_r 1 x0), some (jm_i x1), some (jm_i x2), some (jm_i x3)], [jm_i (h.1 17 x0 x2.toNatClampNeg), jm_i (h.1 17 x0 x3.toNatClampNeg)], h)) rfl ?_
            refine jm_E_n 1 (x' := (if (h.1 17 x0 x2.toNatClampNeg) ≤ (h.1 17 x0 x3.toNatClampNeg) then 38 else 36, [some (jm_r 1 x0), some (jm_i x1), some (jm_i x2), some (jm_i x3)], [], h)) rfl ?_
            refine jm_E_ite (fun hc => ?_) (fun hc => ?_)
            · replace H := H.1 hc
              refine jm_E_n 2 (x' := (4, [some (jm_r 1 x0), some (jm_i x1), some (jm_i x2), some (jm_i (x3 + 1))], [], h)) rfl ?_
              exact H
            · replace H := H.2 hc
              refine jm_E_n 4 (x' := (4, [some (jm_r 1 x0), some (jm_i x1), some (jm_i x3), some (jm_i (x3 + 1))], [], h)) rfl ?_
              exact H
set_option maxRecDepth 100000 in
theorem wp_Flow_mostUrgent {o : Nat} {a0 : Int32} {h : jm_H} {r : jm_Rs} (H :
  l_Flow_mostUrgent_4 o a0 (-1) 0 h r) : jm_R 221 [jm_r 1 o, jm_i a0] h r := by
  refine jm_R_of hz_221 (Nat.le_of_ble_eq_true rfl) ?_
  show jm_E cod_221 (0, [some (jm_r 1 o), some (jm_i a0), none, none], [], h) r
  refine jm_E_n 4 (x' := (4, [some (jm_r 1 o), some (jm_i a0), some (jm_i (-1)), some (jm_i 0)], [], h)) rfl ?_
  exact H
set_option maxRecDepth 100000 in
theorem wp_Flow_put {o : Nat} {a0 : Int32} {a1 : Int32} {a2 : Int32} {h : jm_H} {r : jm_Rs} (H :
  jm_in a0 24 ∧
  jm_in a1 24 ∧
  jm_in a1 24 ∧
  jm_in a0 24 ∧
  jm_in a0 24 ∧
  jm_in a1 24 ∧
  jm_in a1 24 ∧
  r = (none, (jm_sI (jm_sI (jm_sI h 21 (24 * o + a0.toNatClampNeg) a1.toNatClampNeg ((h.1 21 (24 * o + a0.toNatClampNeg) a1.toNatClampNeg) + a2)) 18 o a0.toNatClampNeg ((h.1 18 o a0.toNatClampNeg) - a2)) 19 o a1.toNatClampNeg ((h.1 19 o a1.toNatClampNeg) - a2)))) : jm_R 222 [jm_r 1 o, jm_i a0, jm_i a1, jm_i a2] h r := by
  refine jm_R_of hz_222 (Nat.le_of_ble_eq_true rfl) ?_
  show jm_E cod_222 (0, [some (jm_r 1 o), some (jm_i a0), some (jm_i a1), some (jm_i a2)], [], h) r
  refine jm_E_n 3 (x' := (3, [some (jm_r 1 o), some (jm_i a0), some (jm_i a1), some (jm_i a2)], [jm_i a0, jm_r 20 o], h)) rfl ?_
  refine jm_E_aald rfl rfl H.1 ?_
  replace H := H.2
  refine jm_E_eq (x := (4, [some (jm_r 1 o), some (jm_i a0), some (jm_i a1), some (jm_i a2)], [jm_r 21 (24 * o + a0.toNatClampNeg)], h)) rfl ?_
  refine jm_E_n 2 (x' := (6, [some (jm_r 1 o), some (jm_i a0), some (jm_i a1), some (jm_i a2)], [jm_i a1, jm_r 21 (24 * o + a0.toNatClampNeg), jm_i a1, jm_r 21 (24 * o + a0.toNatClampNeg)], h)) rfl ?_
  refine jm_E_iald rfl rfl H.1 ?_
  replace H := H.2
  refine jm_E_eq (x := (7, [some (jm_r 1 o), some (jm_i a0), some (jm_i a1), some (jm_i a2)], [jm_i (h.1 21 (24 * o + a0.toNatClampNeg) a1.toNatClampNeg), jm_i a1, jm_r 21 (24 * o + a0.toNatClampNeg)], h)) rfl ?_
  refine jm_E_n 2 (x' := (9, [some (jm_r 1 o), some (jm_i a0), some (jm_i a1), some (jm_i a2)], [jm_i ((h.1 21 (24 * o + a0.toNatClampNeg) a1.toNatClampNeg) + a2), jm_i a1, jm_r 21 (24 * o + a0.toNatClampNeg)], h)) rfl ?_
  refine jm_E_iast rfl rfl H.1 ?_
  replace H := H.2
  refine jm_E_eq (x := (10, [some (jm_r 1 o), some (jm_i a0), some (jm_i a1), some (jm_i a2)], [], (jm_sI h 21 (24 * o + a0.toNatClampNeg) a1.toNatClampNeg ((h.1 21 (24 * o + a0.toNatClampNeg) a1.toNatClampNeg) + a2)))) rfl ?_
  refine jm_E_n 4 (x' := (14, [some (jm_r 1 o), some (jm_i a0), some (jm_i a1), some (jm_i a2)], [jm_i a0, jm_r 18 o, jm_i a0, jm_r 18 o], (jm_sI h 21 (24 * o + a0.toNatClampNeg) a1.toNatClampNeg ((h.1 21 (24 * o + a0.toNatClampNeg) a1.toNatClampNeg) + a2)))) rfl ?_
  refine jm_E_iald rfl rfl H.1 ?_
  replace H := H.2
  refine jm_E_eq (x := (15, [some (jm_r 1 o), some (jm_i a0), some (jm_i a1), some (jm_i a2)], [jm_i (h.1 18 o a0.toNatClampNeg), jm_i a0, jm_r 18 o], (jm_sI h 21 (24 * o + a0.toNatClampNeg) a1.toNatClampNeg ((h.1 21 (24 * o + a0.toNatClampNeg) a1.toNatClampNeg) + a2)))) rfl ?_
  refine jm_E_n 2 (x' := (17, [some (jm_r 1 o), some (jm_i a0), some (jm_i a1), some (jm_i a2)], [jm_i ((h.1 18 o a0.toNatClampNeg) - a2), jm_i a0, jm_r 18 o], (jm_sI h 21 (24 * o + a0.toNatClampNeg) a1.toNatClampNeg ((h.1 21 (24 * o + a0.toNatClampNeg) a1.toNatClampNeg) + a2)))) rfl ?_
  refine jm_E_iast rfl rfl H.1 ?_
  replace H := H.2
  refine jm_E_eq (x := (18, [some (jm_r 1 o), some (jm_i a0), some (jm_i a1), some (jm_i a2)], [], (jm_sI (jm_sI h 21 (24 * o + a0.toNatClampNeg) a1.toNatClampNeg ((h.1 21 (24 * o + a0.toNatClampNeg) a1.toNatClampNeg) + a2)) 18 o a0.toNatClampNeg ((h.1 18 o a0.toNatClampNeg) - a2)))) rfl ?_
  refine jm_E_n 4 (x' := (22, [some (jm_r 1 o), some (jm_i a0), some (jm_i a1), some (jm_i a2)], [jm_i a1, jm_r 19 o, jm_i a1, jm_r 19 o], (jm_sI (jm_sI h 21 (24 * o + a0.toNatClampNeg) a1.toNatClampNeg ((h.1 21 (24 * o + a0.toNatClampNeg) a1.toNatClampNeg) + a2)) 18 o a0.toNatClampNeg ((h.1 18 o a0.toNatClampNeg) - a2)))) rfl ?_
  refine jm_E_iald rfl rfl H.1 ?_
  replace H := H.2
  refine jm_E_eq (x := (23, [some (jm_r 1 o), some (jm_i a0), some (jm_i a1), some (jm_i a2)], [jm_i (h.1 19 o a1.toNatClampNeg), jm_i a1, jm_r 19 o], (jm_sI (jm_sI h 21 (24 * o + a0.toNatClampNeg) a1.toNatClampNeg ((h.1 21 (24 * o + a0.toNatClampNeg) a1.toNatClampNeg) + a2)) 18 o a0.toNatClampNeg ((h.1 18 o a0.toNatClampNeg) - a2)))) rfl ?_
  refine jm_E_n 2 (x' := (25, [some (jm_r 1 o), some (jm_i a0), some (jm_i a1), some (jm_i a2)], [jm_i ((h.1 19 o a1.toNatClampNeg) - a2), jm_i a1, jm_r 19 o], (jm_sI (jm_sI h 21 (24 * o + a0.toNatClampNeg) a1.toNatClampNeg ((h.1 21 (24 * o + a0.toNatClampNeg) a1.toNatClampNeg) + a2)) 18 o a0.toNatClampNeg ((h.1 18 o a0.toNatClampNeg) - a2)))) rfl ?_
  refine jm_E_iast rfl rfl H.1 ?_
  replace H := H.2
  refine jm_E_eq (x := (26, [some (jm_r 1 o), some (jm_i a0), some (jm_i a1), some (jm_i a2)], [], (jm_sI (jm_sI (jm_sI h 21 (24 * o + a0.toNatClampNeg) a1.toNatClampNeg ((h.1 21 (24 * o + a0.toNatClampNeg) a1.toNatClampNeg) + a2)) 18 o a0.toNatClampNeg ((h.1 18 o a0.toNatClampNeg) - a2)) 19 o a1.toNatClampNeg ((h.1 19 o a1.toNatClampNeg) - a2)))) rfl ?_
  exact jm_E_ret rfl (by rw [H]; rfl)
set_option maxRecDepth 100000 in
theorem wp_Flow_spreadIn_4 {x0 : Nat} {x1 : Int32} {x2 : Int32} {x3 : Int32} {h : jm_H} {r : jm_Rs} (H :
  ((h.1 1 x0 3) ≤ x3 →
    r = (some (jm_i x2), h)) ∧
  (¬ ((h.1 1 x0 3) ≤ x3) →
    jm_in x1 24 ∧
    ((h.1 19 x0 x1.toNatClampNeg) ≤ 0 →
      r = (some (jm_i x2), h)) ∧
    (¬ ((h.1 19 x0 x1.toNatClampNeg) ≤ 0) →
      ∃ (v1 : Int32) (h1 : jm_H), m_Flow_mostUrgent x0 x1 h v1 h1 ∧
      (0 ≤ v1 →
        jm_in v1 24 ∧
        jm_in x1 24 ∧
        ∃ h2 : jm_H, m_Flow_put x0 v1 x1 (if (h1.1 19 x0 x1.toNatClampNeg) < (h1.1 18 x0 v1.toNatClampNeg) then (h1.1 19 x0 x1.toNatClampNeg) else (h1.1 18 x0 v1.toNatClampNeg)) h1 h2 ∧
        l_Flow_spreadIn_4 x0 x1 (x2 + (if (h1.1 19 x0 x1.toNatClampNeg) < (h1.1 18 x0 v1.toNatClampNeg) then (h1.1 19 x0 x1.toNatClampNeg) else (h1.1 18 x0 v1.toNatClampNeg))) (x3 + 1) h2 r) ∧
      (¬ (0 ≤ v1) →
        r = (some (jm_i x2), h1))))) : l_Flow_spreadIn_4 x0 x1 x2 x3 h r := by
  refine jm_E_n 4 (x' := (if (h.1 1 x0 3) ≤ x3 then 42 else 8, [some (jm_r 1 x0), some (jm_i x1), some (jm_i x2), some (jm_i x3), none, none], [], h)) rfl ?_
  refine jm_E_ite (fun hc => ?_) (fun hc => ?_)
  · replace H := H.1 hc
    refine jm_E_n 1 (x' := (43, [some (jm_r 1 x0), some (jm_i x1), some (jm_i x2), some (jm_i x3), none, none], [jm_i x2], h)) rfl ?_
    exact jm_E_ret rfl (by rw [H]; rfl)
  · replace H := H.2 hc
    refine jm_E_n 3 (x' := (11, [some (jm_r 1 x0), some (jm_i x1), some (jm_i x2), some (jm_i x3), none, none], [jm_i x1, jm_r 19 x0], h)) rfl ?_
    refine jm_E_iald rfl rfl H.1 ?_
    replace H := H.2
    refine jm_E_eq (x := (12, [some (jm_r 1 x0), some (jm_i x1), some (jm_i x2), some (jm_i x3), none, none], [jm_i (h.1 19 x0 x1.toNatClampNeg)], h)) rfl ?_
    refine jm_E_n 1 (x' := (if (h.1 19 x0 x1.toNatClampNeg) ≤ 0 then 42 else 13, [some (jm_r 1 x0), some (jm_i x1), some (jm_i x2), some (jm_i x3), none, none], [], h)) rfl ?_
    refine jm_E_ite (fun hc => ?_) (fun hc => ?_)
    · replace H := H.1 hc
      refine jm_E_n 1 (x' := (43, [some (jm_r 1 x0), some (jm_i x1), some (jm_i x2), some (jm_i x3), none, none], [jm_i x2], h)) rfl ?_
      exact jm_E_ret rfl (by rw [H]; rfl)
    · replace H := H.2 hc
      refine jm_E_n 2 (x' := (15, [some (jm_r 1 x0), some (jm_i x1), some (jm_i x2), some (jm_i x3), none, none], [jm_i x1, jm_r 1 x0], h)) rfl ?_
      obtain ⟨v1, h1, hR, H⟩ := H
      refine jm_E_call rfl (Nat.le_of_ble_eq_true rfl) (Nat.le_of_ble_eq_true rfl) rfl hR trivial ?_
      refine jm_E_eq (x := (16, [some (jm_r 1 x0), some (jm_i x1), some (jm_i x2), some (jm_i x3), none, none], [jm_i v1], h1)) rfl ?_
      refine jm_E_n 3 (x' := (if 0 ≤ v1 then 21 else 19, [some (jm_r 1 x0), some (jm_i x1), some (jm_i x2), some (jm_i x3), some (jm_i v1), none], [], h1)) rfl ?_
      refine jm_E_ite (fun hc => ?_) (fun hc => ?_)
      · replace H := H.1 hc
        refine jm_E_n 3 (x' := (24, [some (jm_r 1 x0), some (jm_i x1), some (jm_i x2), some (jm_i x3), some (jm_i v1), none], [jm_i v1, jm_r 18 x0], h1)) rfl ?_
        refine jm_E_iald rfl rfl H.1 ?_
        replace H := H.2
        refine jm_E_eq (x := (25, [some (jm_r 1 x0), some (jm_i x1), some (jm_i x2), some (jm_i x3), some (jm_i v1), none], [jm_i (h1.1 18 x0 v1.toNatClampNeg)], h1)) rfl ?_
        refine jm_E_n 3 (x' := (28, [some (jm_r 1 x0), some (jm_i x1), some (jm_i x2), some (jm_i x3), some (jm_i v1), none], [jm_i x1, jm_r 19 x0, jm_i (h1.1 18 x0 v1.toNatClampNeg)], h1)) rfl ?_
        refine jm_E_iald rfl rfl H.1 ?_
        replace H := H.2
        refine jm_E_eq (x := (29, [some (jm_r 1 x0), some (jm_i x1), some (jm_i x2), some (jm_i x3), some (jm_i v1), none], [jm_i (h1.1 19 x0 x1.toNatClampNeg), jm_i (h1.1 18 x0 v1.toNatClampNeg)], h1)) rfl ?_
        refine jm_E_n 6 (x' := (35, [some (jm_r 1 x0), some (jm_i x1), some (jm_i x2), some (jm_i x3), some (jm_i v1), some (jm_i (if (h1.1 19 x0 x1.toNatClampNeg) < (h1.1 18 x0 v1.toNatClampNeg) then (h1.1 19 x0 x1.toNatClampNeg) else (h1.1 18 x0 v1.toNatClampNeg)))], [jm_i (if (h1.1 19 x0 x1.toNatClampNeg) < (h1.1 18 x0 v1.toNatClampNeg) then (h1.1 19 x0 x1.toNatClampNeg) else (h1.1 18 x0 v1.toNatClampNeg)), jm_i x1, jm_i v1, jm_r 1 x0], h1)) rfl ?_
        obtain ⟨h2, hR, H⟩ := H
        refine jm_E_call rfl (Nat.le_of_ble_eq_true rfl) (Nat.le_of_ble_eq_true rfl) rfl hR trivial ?_
        refine jm_E_eq (x := (36, [some (jm_r 1 x0), some (jm_i x1), some (jm_i x2), some (jm_i x3), some (jm_i v1), some (jm_i (if (h1.1 19 x0 x1.toNatClampNeg) < (h1.1 18 x0 v1.toNatClampNeg) then (h1.1 19 x0 x1.toNatClampNeg) else (h1.1 18 x0 v1.toNatClampNeg)))], [], h2)) rfl ?_
        refine jm_E_n 6 (x' := (4, [some (jm_r 1 x0), some (jm_i x1), some (jm_i (x2 + (if (h1.1 19 x0 x1.toNatClampNeg) < (h1.1 18 x0 v1.toNatClampNeg) then (h1.1 19 x0 x1.toNatClampNeg) else (h1.1 18 x0 v1.toNatClampNeg)))), some (jm_i (x3 + 1)), some (jm_i v1), some (jm_i (if (h1.1 19 x0 x1.toNatClampNeg) < (h1.1 18 x0 v1.toNatClampNeg) then (h1.1 19 x0 x1.toNatClampNeg) else (h1.1 18 x0 v1.toNatClampNeg)))], [], h2)) rfl ?_
        exact jm_E_weak (jm_le_s (jm_le_s (jm_le_s (jm_le_s (jm_le_n (jm_le_n jm_le_nil)))))) H
      · replace H := H.2 hc
        refine jm_E_n 1 (x' := (20, [some (jm_r 1 x0), some (jm_i x1), some (jm_i x2), some (jm_i x3), some (jm_i v1), none], [jm_i x2], h1)) rfl ?_
        exact jm_E_ret rfl (by rw [H]; rfl)
set_option maxRecDepth 100000 in
theorem wp_Flow_spreadIn {o : Nat} {a0 : Int32} {h : jm_H} {r : jm_Rs} (H :
  l_Flow_spreadIn_4 o a0 0 0 h r) : jm_R 220 [jm_r 1 o, jm_i a0] h r := by
  refine jm_R_of hz_220 (Nat.le_of_ble_eq_true rfl) ?_
  show jm_E cod_220 (0, [some (jm_r 1 o), some (jm_i a0), none, none, none, none], [], h) r
  refine jm_E_n 4 (x' := (4, [some (jm_r 1 o), some (jm_i a0), some (jm_i 0), some (jm_i 0), none, none], [], h)) rfl ?_
  exact H
