/-! ===== halving, doubling, comparing ===== -/
section BITS
theorem v64_2 : FP.Core.val64 4611686018427387904 = .fin false (2 ^ 52) (-51) := by decide +kernel
/-- written as decode writes it -/
def VN (a : UInt64) (c : Nat) (q : Int) : Prop := FP.Core.val64 a = .fin false c q ∧ 2 ^ 52 ≤ c ∧ c < 2 ^ 53 ∧ -1000 ≤ q ∧ q ≤ 900
theorem vn_fits {c : Nat} {q : Int} (c1 : 2 ^ 52 ≤ c) (c2 : c < 2 ^ 53) (q1 : -1074 ≤ q) (q2 : q ≤ 971) : FP.Core.fits FP.Core.b64 (.fin false c q) := ⟨c2, by rw [b64_qmin]; exact q1, by rw [b64_qmax]; exact q2, Or.inr c1⟩
theorem vn_np {a : UInt64} {c : Nat} {q : Int} (v : VN a c q) : NP a q q := ⟨c, q, v.1, v.2.1, v.2.2.1, Int.le_refl q, Int.le_refl q⟩
theorem vn_half {a : UInt64} {c : Nat} {q : Int} (v : VN a c q) (h : -999 ≤ q) : VN (FP.ddiv a 4611686018427387904) c (q - 1) := by
  obtain ⟨e, c1, c2, q1, q2⟩ := v
  refine ⟨?_, c1, c2, by omega, by omega⟩
  show FP.Core.val64 (FP.Core.ddiv a 4611686018427387904) = _
  rw [FP.Core.val64_ddiv, e, v64_2]
  show FP.Core.roundRatio FP.Core.b64 false c (2 ^ 52) (q - -51) = _
  refine FP.Core.roundRatio_exact FP.Core.good_b64 (by decide) (vn_fits c1 c2 (by omega) (by omega)) ?_
  rw [show (q - -51 - (q - 1)).toNat = 52 by omega, show (q - 1 - (q - -51)).toNat = 0 by omega]
  omega
theorem vn_dbl {a : UInt64} {c : Nat} {q : Int} (v : VN a c q) (h : q ≤ 899) : VN (FP.dmul a 4611686018427387904) c (q + 1) := by
  obtain ⟨e, c1, c2, q1, q2⟩ := v
  refine ⟨?_, c1, c2, by omega, by omega⟩
  show FP.Core.val64 (FP.Core.dmul a 4611686018427387904) = _
  rw [FP.Core.val64_dmul, e, v64_2]
  show FP.Core.roundRatio FP.Core.b64 false (c * 2 ^ 52) 1 (q + -51) = _
  refine FP.Core.roundRatio_exact FP.Core.good_b64 (by decide) (vn_fits c1 c2 (by omega) (by omega)) ?_
  rw [show (q + -51 - (q + 1)).toNat = 0 by omega, show (q + 1 - (q + -51)).toNat = 52 by omega]
  omega
/-- comparing -/
theorem vn_cmp {a b : UInt64} {c d : Nat} {q r : Int} (x : FP.Core.val64 a = .fin false c q) (y : FP.Core.val64 b = .fin false d r) : FP.dcmp a b = some (compare ((FP.Core.inUnits c q (min q r) : Nat) : Int) ((FP.Core.inUnits d r (min q r) : Nat) : Int)) := by
  show FP.Core.order (FP.Core.val64 a) (FP.Core.val64 b) = _
  rw [x, y]; rfl
theorem vn_cmp_lt {a b : UInt64} {c d : Nat} {q r : Int} (x : VN a c q) (y : VN b d r) (h : q < r) : FP.dcmp a b = some .lt := by
  rw [vn_cmp x.1 y.1, show min q r = q by omega]
  have e1 : FP.Core.inUnits c q q = c := by unfold FP.Core.inUnits; rw [show (q - q).toNat = 0 by omega]; omega
  have e2 : 2 ^ 53 ≤ FP.Core.inUnits d r q := by
    unfold FP.Core.inUnits
    obtain ⟨k, hk⟩ : ∃ k : Nat, (r - q).toNat = k + 1 := ⟨(r - q).toNat - 1, by omega⟩
    rw [hk, Nat.pow_succ]
    have p := Nat.two_pow_pos k
    have := y.2.1
    calc 2 ^ 53 = 2 ^ 52 * (1 * 2) := by decide
      _ ≤ d * (2 ^ k * 2) := Nat.mul_le_mul this (Nat.mul_le_mul_right 2 p)
  rw [e1]
  have hc := x.2.2.1
  rw [show compare ((c : Nat) : Int) ((FP.Core.inUnits d r q : Nat) : Int) = .lt from by rw [Int.compare_eq_lt]; omega]
end BITS
