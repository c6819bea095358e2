/-! ===== leftOver: the first row ===== -/
section LEFT
theorem vn_twice {a : UInt64} {c : Nat} {q : Int} (v : VN a c q) (h : q ≤ 899) : VN (FP.dadd a a) c (q + 1) := by
  obtain ⟨e, c1, c2, q1, q2⟩ := v
  refine ⟨?_, c1, c2, by omega, by omega⟩
  show FP.Core.val64 (FP.Core.dadd a a) = _
  rw [FP.Core.val64_dadd, e]
  have hu : FP.Core.inUnits c q (min q q) = c := by unfold FP.Core.inUnits; rw [show (q - min q q).toNat = 0 by omega, Nat.pow_zero, Nat.mul_one]
  have s1 : FP.Core.sumUnits false c q false c q (min q q) = ((c + c : Nat) : Int) := by
    unfold FP.Core.sumUnits FP.Core.signed
    rw [if_neg (by decide), hu, Int.natCast_add]
  have s2 : FP.Core.sumSign false false ((c + c : Nat) : Int) = false := by
    unfold FP.Core.sumSign
    split
    · rfl
    · exact decide_eq_false (by omega)
  show FP.Core.round FP.Core.b64 (.fin (FP.Core.sumSign false false (FP.Core.sumUnits false c q false c q (min q q))) (FP.Core.sumUnits false c q false c q (min q q)).natAbs (min q q)) = _
  rw [s1, s2, Int.natAbs_natCast, show min q q = q by omega]
  show FP.Core.roundRatio FP.Core.b64 false (c + c) 1 q = _
  refine FP.Core.roundRatio_exact FP.Core.good_b64 (by decide) (vn_fits c1 c2 (by omega) (by omega)) ?_
  rw [show (q - (q + 1)).toNat = 0 by omega, show (q + 1 - q).toNat = 1 by omega]
  omega
end LEFT
