/-! ===== a normal double's bits are what Timer counts ===== -/
section BITS3
theorem b3_ar {c' M W u : Nat} (hW : W ≤ 52) (h : c' * 2 ^ u = M * 2 ^ (1074 - W)) : c' * 2 ^ 52 * 1 * 2 ^ ((u : Int) + W - 1126 - 0).toNat = M * 1 * 2 ^ (0 - ((u : Int) + W - 1126)).toNat := by
  rw [Nat.mul_one, Nat.mul_one]
  by_cases hc : 1126 ≤ u + W
  · rw [show (0 - ((u : Int) + W - 1126)).toNat = 0 by omega]
    apply Nat.eq_of_mul_eq_mul_right (Nat.two_pow_pos (1074 - W))
    rw [Nat.pow_zero, Nat.mul_one, ← h, Nat.mul_assoc, Nat.mul_assoc, ← Nat.pow_add, ← Nat.pow_add, show 52 + (((u : Int) + W - 1126 - 0).toNat + (1074 - W)) = u by omega]
  · rw [show ((u : Int) + W - 1126 - 0).toNat = 0 by omega]
    apply Nat.eq_of_mul_eq_mul_right (Nat.two_pow_pos u)
    rw [Nat.pow_zero, Nat.mul_one, Nat.mul_assoc, ← Nat.pow_add, Nat.mul_assoc, ← Nat.pow_add, show 52 + u = u + 52 by omega, Nat.pow_add, ← Nat.mul_assoc, h, Nat.mul_assoc, ← Nat.pow_add, show (1074 - W) + 52 = (0 - ((u : Int) + W - 1126)).toNat + u by omega]
theorem b3_sum {c d : Nat} (h : d ≤ c) : FP.Core.exactSum (.fin false c (-52)) (FP.Core.negate (.fin false d (-52))) = .fin false (c - d) (-52) := by
  have e : FP.Core.sumUnits false c (-52) true d (-52) (-52) = ((c - d : Nat) : Int) := by
    unfold FP.Core.sumUnits FP.Core.signed FP.Core.inUnits
    rw [if_neg (by decide), if_pos rfl, show ((-52 : Int) - -52).toNat = 0 by decide, Nat.pow_zero, Nat.mul_one, Nat.mul_one]
    omega
  have e2 : FP.Core.sumSign false true ((c - d : Nat) : Int) = false := by
    unfold FP.Core.sumSign
    split
    · rfl
    · exact decide_eq_false (by omega)
  show FP.Core.Datum.fin (FP.Core.sumSign false true (FP.Core.sumUnits false c (-52) true d (-52) (-52))) (FP.Core.sumUnits false c (-52) true d (-52) (-52)).natAbs (-52) = _
  rw [e, e2, Int.natAbs_natCast]
theorem b3_sub {y : UInt64} {c : Nat} (v : VN y c (-52)) : FP.Core.val64 (FP.dsub y FP.dconst1) = FP.Core.round FP.Core.b64 (.fin false (c - 2 ^ 52) (-52)) := by
  show FP.Core.val64 (FP.Core.dsub y FP.dconst1) = _
  rw [FP.Core.val64_dsub, v.1, vn_1.1, b3_sum v.2.1]
theorem b3_mul {y p : UInt64} {c M W : Nat} (v : VN y c (-52)) (hW : W ≤ 52) (hp : FP.Core.val64 p = .fin false (2 ^ 52) ((W : Int) - 52)) (hM : c - 2 ^ 52 = M * 2 ^ (52 - W)) : FP.dsub y FP.dconst1 &&& 0x7fffffffffffffff ≤ 0x7ff0000000000000 ∧ FP.dmul (FP.dsub y FP.dconst1) p = FP.l2d (Int64.ofInt M) ∧ M < 2 ^ 52 := by
  have c2 := v.2.2.1
  have p53 : (2 : Nat) ^ 53 = 2 * 2 ^ 52 := by decide
  have M52 : M < 2 ^ 52 := by
    have p := Nat.two_pow_pos (52 - W)
    have : M * 1 ≤ M * 2 ^ (52 - W) := Nat.mul_le_mul_left M p
    omega
  obtain ⟨c', q', e1, e2⟩ := FP.Core.round_exact (f := FP.Core.b64) FP.Core.good_b64 false (c := c - 2 ^ 52) (q := -52) (by show c - 2 ^ 52 < 2 ^ 53; omega) (by rw [b64_qmin]; omega) (by rw [b64_qmax]; omega)
  have hs := (b3_sub v).trans e1
  have hf : FP.Core.fits FP.Core.b64 (.fin false c' q') := by rw [← hs]; exact FP.Core.val64_fits _
  have q1 : -1074 ≤ q' := by have := hf.2.1; rw [b64_qmin] at this; exact this
  refine ⟨nn_of (FP.Core.DFin.notNaN ⟨_, _, _, hs⟩), ?_, M52⟩
  obtain ⟨u, hu⟩ : ∃ u : Nat, q' = (u : Int) - 1074 := ⟨(q' + 1074).toNat, by omega⟩
  have hI : c' * 2 ^ u = M * 2 ^ (1074 - W) := by
    unfold FP.Core.inUnits at e2
    rw [b64_qmin, show (q' - -1074).toNat = u by omega, show ((-52 : Int) - -1074).toNat = 1022 by omega, hM, Nat.mul_assoc, ← Nat.pow_add, show 52 - W + 1022 = 1074 - W by omega] at e2
    exact e2
  have tM : (Int64.ofInt M).toInt = M := Int64.toInt_ofInt_of_le (by omega) (by omega)
  refine (FP.Core.val64_inj (FP.Core.l2d_fin (Int64.ofInt M)).ne_nan ?_).symm
  show FP.Core.val64 (FP.Core.l2d (Int64.ofInt M)) = FP.Core.val64 (FP.Core.dmul (FP.dsub y FP.dconst1) p)
  rw [FP.Core.val64_dmul, hs, hp, FP.Core.val64_l2d, tM]
  show FP.Core.roundRatio FP.Core.b64 (decide ((M : Int) < 0)) (M : Int).natAbs 1 0 = FP.Core.roundRatio FP.Core.b64 false (c' * 2 ^ 52) 1 (q' + ((W : Int) - 52))
  rw [decide_eq_false (by omega), Int.natAbs_natCast]
  refine (FP.Core.roundRatio_congr (by decide) (by decide) ?_).symm
  rw [show q' + ((W : Int) - 52) = (u : Int) + W - 1126 by omega]
  exact b3_ar hW hI
theorem b3_F {w : Int32} {y : UInt64} {c M W : Nat} {E : Int} {h : jm_H} (v : VN y c (-52)) (hW : W ≤ 52) (hp : FP.Core.val64 (FP.l2d (1 <<< (w.toInt64 &&& 63))) = .fin false (2 ^ 52) ((W : Int) - 52)) (hM : c - 2 ^ 52 = M * 2 ^ (52 - W)) : btF w y E h (some (.inl (.long ((Int64.ofInt E <<< (w.toInt64 &&& 63)) + Int64.ofInt M))), h) := by
  obtain ⟨a1, a2, a3⟩ := b3_mul v hW hp hM
  have tM : (Int64.ofInt M).toInt = M := Int64.toInt_ofInt_of_le (by omega) (by omega)
  refine ⟨a1, ?_, ?_⟩
  · rw [a2]; exact nn_of (FP.Core.l2d_notNaN _)
  · rw [a2, show FP.d2l (FP.l2d (Int64.ofInt M)) = Int64.ofInt M from FP.Core.d2l_l2d_small (by unfold FP.Core.Small53; rw [tM]; omega)]
theorem sh_52 : ∀ E, E < 2048 → Int64.ofInt ((E : Nat) : Int) <<< ((52 : Int32).toInt64 &&& 63) = Int64.ofInt ((E * 2 ^ 52 : Nat) : Int) := by decide +kernel
theorem vn_pos {x : UInt64} {c : Nat} {q : Int} (v : VN x c q) : 0 < Op.cmpValue (FP.dcmp x FP.dconst0) .l := by
  have z : FP.Core.val64 FP.dconst0 = .fin false 0 (-1074) := by decide +kernel
  rw [vn_cmp v.1 z]
  have e1 : FP.Core.inUnits 0 (-1074) (min q (-1074)) = 0 := by unfold FP.Core.inUnits; rw [Nat.zero_mul]
  have e2 : 0 < FP.Core.inUnits c q (min q (-1074)) := by
    unfold FP.Core.inUnits
    have := v.2.1
    exact Nat.mul_pos (by omega) (Nat.two_pow_pos _)
  rw [e1, show compare ((FP.Core.inUnits c q (min q (-1074)) : Nat) : Int) ((0 : Nat) : Int) = .gt from by rw [Int.compare_eq_gt]; omega]
  decide
theorem u64_i (N : Nat) : (UInt64.ofNat N).toInt64 = Int64.ofInt (N : Int) := by
  first
  | exact (Int64.ofInt_eq_ofNat).symm
  | rfl
theorem enc_n {c d : Nat} {q : Int} (hd : FP.Core.b64.tails = d) (h : d ≤ c) (q1 : -1074 ≤ q) : FP.Core.encode FP.Core.b64 (.fin false c q) = (q + 1075).toNat * d + (c - d) := by
  unfold FP.Core.encode FP.Core.assemble
  rw [hd]
  dsimp only
  rw [if_neg (by omega), b64_qmin, show (q - -1074).toNat + 1 = (q + 1075).toNat by omega, Bool.toNat_false, Nat.zero_mul, Nat.zero_add]
/-- a normal double's bits -/
theorem vn_bits {x : UInt64} {c : Nat} {q : Int} (v : VN x c q) : x.toInt64 = Int64.ofInt (((q + 1075).toNat * 2 ^ 52 + (c - 2 ^ 52) : Nat) : Int) := by
  have e := FP.Core.of64_val64 (a := x) (by rw [v.1]; intro hc; cases hc)
  rw [v.1] at e
  rw [← u64_i, ← enc_n b64_t v.2.1 (by have := v.2.2.2.1; omega)]
  exact congrArg UInt64.toInt64 e.symm
theorem s_bits52 {x : UInt64} {c : Nat} {q : Int} (v : VN x c q) (q1 : -900 ≤ q) (q2 : q ≤ 900) (h : jm_H) : m_Timer_bits x 52 1023 h x.toInt64 h := by
  refine wp_Timer_bits ⟨fun _ => ?_, fun hc => absurd (vn_pos v) hc⟩
  refine bt_all (E := 1023) v q1 q2 (fun y vy => ?_)
  have := b3_F (w := 52) (E := 1023 + (q + 52)) (h := h) (M := c - 2 ^ 52) (W := 52) vy (by omega) (by decide +kernel) (by rw [Nat.sub_self, Nat.pow_zero, Nat.mul_one])
  have e : Int64.ofInt (1023 + (q + 52)) <<< ((52 : Int32).toInt64 &&& 63) + Int64.ofInt ((c - 2 ^ 52 : Nat) : Int) = x.toInt64 := by
    rw [vn_bits v, show 1023 + (q + 52) = (((q + 1075).toNat : Nat) : Int) by omega, sh_52 _ (by omega), ← Int64.ofInt_add, Int.natCast_add]
  rw [e] at this
  exact this
end BITS3
