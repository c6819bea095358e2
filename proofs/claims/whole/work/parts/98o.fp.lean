/-! ===== doubles: positive, normal ===== -/
section FPB
/-- a positive normal double, its last digit's exponent from lo to hi -/
def NP (a : UInt64) (lo hi : Int) : Prop := ∃ (c : Nat) (q : Int), FP.Core.val64 a = .fin false c q ∧ 2 ^ 52 ≤ c ∧ c < 2 ^ 53 ∧ lo ≤ q ∧ q ≤ hi
theorem b64_qmin : FP.Core.b64.qmin = -1074 := by decide
theorem b64_qmax : FP.Core.b64.qmax = 971 := by decide
theorem b64_p : FP.Core.b64.p = 53 := rfl
theorem b64_t : FP.Core.b64.tails = 2 ^ 52 := rfl
theorem rr_np {A B : Nat} {e lo hi : Int} (hA : 0 < A) (hB : 0 < B) (h1 : ¬ FP.Core.Below A B (lo - e + 52)) (h2 : FP.Core.Below A B (hi - e + 53)) (l1 : -1000 ≤ lo) (l2 : hi ≤ 900) : ∃ (c : Nat) (q : Int), FP.Core.roundRatio FP.Core.b64 false A B e = .fin false c q ∧ 2 ^ 52 ≤ c ∧ c < 2 ^ 53 ∧ lo ≤ q ∧ q ≤ hi + 1 := by
  have s := FP.Core.leading_spec hA hB
  have a1 := FP.Core.lt_of_below h1 s.2
  have a2 := FP.Core.lt_of_below s.1 h2
  have hq : FP.Core.quantum FP.Core.b64 A B e = FP.Core.leading A B + e - 52 := by
    unfold FP.Core.quantum; rw [b64_qmin, b64_p]; omega
  have n1 : FP.Core.nearest (FP.Core.unitsNum A e (FP.Core.quantum FP.Core.b64 A B e)) (FP.Core.unitsDen B e (FP.Core.quantum FP.Core.b64 A B e)) ≤ 2 ^ 53 := FP.Core.nearest_units_le (f := FP.Core.b64) hA hB e
  have n2 : 2 ^ 52 ≤ FP.Core.nearest (FP.Core.unitsNum A e (FP.Core.quantum FP.Core.b64 A B e)) (FP.Core.unitsDen B e (FP.Core.quantum FP.Core.b64 A B e)) := by
    refine FP.Core.nearest_ge (FP.Core.unitsDen_pos hB ..) ?_
    apply Nat.le_of_not_lt
    intro hx
    have h3 := (FP.Core.units_below A B e (FP.Core.quantum FP.Core.b64 A B e) 52).mp hx
    rw [hq] at h3
    have := FP.Core.lt_of_below s.1 h3
    omega
  unfold FP.Core.roundRatio
  rw [if_neg (by omega)]
  unfold FP.Core.roundAt FP.Core.settle FP.Core.bound
  rw [b64_qmax, b64_p, b64_t]
  generalize hN : FP.Core.nearest (FP.Core.unitsNum A e (FP.Core.quantum FP.Core.b64 A B e)) (FP.Core.unitsDen B e (FP.Core.quantum FP.Core.b64 A B e)) = N at n1 n2 ⊢
  rw [hq]
  by_cases hc : N < 2 ^ 53
  · rw [if_pos hc, if_pos (by omega)]
    exact ⟨N, _, rfl, n2, hc, by omega, by omega⟩
  · rw [if_neg hc, if_pos (by omega)]
    exact ⟨2 ^ 52, _, rfl, Nat.le_refl _, by decide, by omega, by omega⟩
theorem np_div {a b : UInt64} {l1 h1 l2 h2 : Int} (x : NP a l1 h1) (y : NP b l2 h2) (m1 : -900 ≤ l1 - h2) (m2 : h1 - l2 ≤ 900) : NP (FP.ddiv a b) (l1 - h2 - 53) (h1 - l2 - 51) := by
  obtain ⟨c, q, e1, c1, c2, q1, q2⟩ := x
  obtain ⟨d, r, e2, d1, d2, r1, r2⟩ := y
  have p52 : (2 : Nat) ^ 53 = 2 * 2 ^ 52 := by decide
  have hv : FP.Core.val64 (FP.ddiv a b) = FP.Core.roundRatio FP.Core.b64 false c d (q - r) := by
    show FP.Core.val64 (FP.Core.ddiv a b) = _
    rw [FP.Core.val64_ddiv, e1, e2]
    show (if d = 0 then _ else _) = _
    rw [if_neg (by omega)]; rfl
  obtain ⟨c', q', w1, w2, w3, w4, w5⟩ := rr_np (A := c) (B := d) (e := q - r) (lo := q - r - 53) (hi := q - r - 52) (by omega) (by omega) (by
    rw [show q - r - 53 - (q - r) + 52 = ((0 : Nat) : Int) - (1 : Nat) by omega, FP.Core.below_iff]; omega) (by
    rw [show q - r - 52 - (q - r) + 53 = ((1 : Nat) : Int) - (0 : Nat) by omega, FP.Core.below_iff]; omega) (by omega) (by omega)
  exact ⟨c', q', hv.trans w1, w2, w3, by omega, by omega⟩
theorem np_fin {a : UInt64} {l h : Int} (x : NP a l h) : FP.Core.DFin a ∧ ¬ FP.Core.DZero a := by
  obtain ⟨c, q, e, c1, c2, -⟩ := x
  refine ⟨⟨_, _, _, e⟩, fun ⟨s, r, e2⟩ => ?_⟩
  rw [e] at e2
  cases e2
  exact absurd c1 (by decide)
/-- not a NaN, as the instructions' rows ask it -/
theorem nn_of {a : UInt64} (h : FP.Core.dIsNaN a = false) : a &&& 0x7fffffffffffffff ≤ 0x7ff0000000000000 := by
  have := (FP.Core.ne_nan a).mp ((FP.Core.notNaN_iff a).mp h)
  rw [UInt64.le_iff_toNat_le, FP.Core.mask_toNat]
  exact this
theorem np_nn {a : UInt64} {l h : Int} (x : NP a l h) : a &&& 0x7fffffffffffffff ≤ 0x7ff0000000000000 := nn_of (np_fin x).1.notNaN
theorem np_i2d {n : Int} (h1 : 0 < n) (h2 : n ≤ 2147483647) : NP (FP.i2d (zI n)) (-52) (-21) := by
  have ev : FP.Core.val64 (FP.i2d (zI n)) = FP.Core.roundRatio FP.Core.b64 false n.toNat 1 0 := by
    show FP.Core.val64 (FP.Core.i2d (zI n)) = _
    rw [FP.Core.val64_i2d, zI_toInt (by omega) h2]
    show FP.Core.roundRatio FP.Core.b64 (decide (n < 0)) n.natAbs 1 0 = _
    rw [decide_eq_false (by omega), show n.natAbs = n.toNat by omega]
  obtain ⟨c', q', w1, w2, w3, w4, w5⟩ := rr_np (A := n.toNat) (B := 1) (e := 0) (lo := -52) (hi := -22) (by omega) (by omega) (by
    rw [show (-52 : Int) - 0 + 52 = ((0 : Nat) : Int) - (0 : Nat) by omega, FP.Core.below_iff]; omega) (by
    rw [show (-22 : Int) - 0 + 53 = ((31 : Nat) : Int) - (0 : Nat) by omega, FP.Core.below_iff]
    have : (2 : Nat) ^ 31 = 2147483648 := by decide
    omega) (by omega) (by omega)
  exact ⟨c', q', ev.trans w1, w2, w3, w4, by omega⟩
theorem np_1000 : NP 4652007308841189376 (-43) (-43) := ⟨1000 * 2 ^ 43, -43, by decide +kernel, by decide, by decide, by omega, by omega⟩
/-- the length of a tick -/
theorem np_tick {z : Int} (h1 : 1 ≤ z) (h2 : z ≤ 100000) : NP (FP.ddiv 4652007308841189376 (FP.i2d (zI z))) (-75) (-42) := by
  have := np_div np_1000 (np_i2d (n := z) (by omega) (by omega)) (by omega) (by omega)
  exact this
end FPB
