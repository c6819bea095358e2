/-! ===== from double to float ===== -/
section FLT
theorem b32_qmax : FP.Core.b32.qmax = 104 := by decide
theorem b32_p : FP.Core.b32.p = 24 := rfl
theorem rr_fn {A B : Nat} {e lo hi : Int} (hA : 0 < A) (hB : 0 < B) (h1 : ¬ FP.Core.Below A B (lo - e + 23)) (h2 : FP.Core.Below A B (hi - e + 24)) (l1 : -149 ≤ lo) (l2 : hi ≤ 103) : ∃ (c : Nat) (q : Int), FP.Core.roundRatio FP.Core.b32 false A B e = .fin false c q ∧ 2 ^ 23 ≤ c ∧ c < 2 ^ 24 ∧ lo ≤ q ∧ q ≤ hi + 1 := by
  have s := FP.Core.leading_spec hA hB
  have a1 := FP.Core.lt_of_below h1 s.2
  have a2 := FP.Core.lt_of_below s.1 h2
  have hq : FP.Core.quantum FP.Core.b32 A B e = FP.Core.leading A B + e - 23 := by
    unfold FP.Core.quantum; rw [b32_qmin, b32_p]; omega
  have n1 : FP.Core.nearest (FP.Core.unitsNum A e (FP.Core.quantum FP.Core.b32 A B e)) (FP.Core.unitsDen B e (FP.Core.quantum FP.Core.b32 A B e)) ≤ 2 ^ 24 := FP.Core.nearest_units_le (f := FP.Core.b32) hA hB e
  have n2 : 2 ^ 23 ≤ FP.Core.nearest (FP.Core.unitsNum A e (FP.Core.quantum FP.Core.b32 A B e)) (FP.Core.unitsDen B e (FP.Core.quantum FP.Core.b32 A B e)) := by
    refine FP.Core.nearest_ge (FP.Core.unitsDen_pos hB ..) ?_
    apply Nat.le_of_not_lt
    intro hx
    have h3 := (FP.Core.units_below A B e (FP.Core.quantum FP.Core.b32 A B e) 23).mp hx
    rw [hq] at h3
    have := FP.Core.lt_of_below s.1 h3
    omega
  unfold FP.Core.roundRatio
  rw [if_neg (by omega)]
  unfold FP.Core.roundAt FP.Core.settle FP.Core.bound
  rw [b32_qmax, b32_p, b32_t]
  generalize hN : FP.Core.nearest (FP.Core.unitsNum A e (FP.Core.quantum FP.Core.b32 A B e)) (FP.Core.unitsDen B e (FP.Core.quantum FP.Core.b32 A B e)) = N at n1 n2 ⊢
  rw [hq]
  by_cases hc : N < 2 ^ 24
  · rw [if_pos hc, if_pos (by omega)]
    exact ⟨N, _, rfl, n2, hc, by omega, by omega⟩
  · rw [if_neg hc, if_pos (by omega)]
    exact ⟨2 ^ 23, _, rfl, Nat.le_refl _, by decide, by omega, by omega⟩
theorem vn_d2f {x : UInt64} {c : Nat} {q : Int} (v : VN x c q) (q1 : -170 ≤ q) (q2 : q ≤ 50) : ∃ c' q', FN (FP.d2f x) c' q' := by
  obtain ⟨e, c1, c2, -⟩ := v
  have ev : FP.Core.val32 (FP.d2f x) = FP.Core.roundRatio FP.Core.b32 false c 1 q := by
    rw [FP.d2f_core (a := x) (FP.Core.DFin.notNaN ⟨_, _, _, e⟩), FP.Core.val32_d2f, e]
    rfl
  obtain ⟨c', q', w1, w2, w3, w4, w5⟩ := rr_fn (A := c) (B := 1) (e := q) (lo := q + 29) (hi := q + 29) (by omega) (by omega) (by
    rw [show q + 29 - q + 23 = ((52 : Nat) : Int) - (0 : Nat) by omega, FP.Core.below_iff]; omega) (by
    rw [show q + 29 - q + 24 = ((53 : Nat) : Int) - (0 : Nat) by omega, FP.Core.below_iff]; omega) (by omega) (by omega)
  exact ⟨c', q', ev.trans w1, w2, w3, by omega, by omega⟩
theorem s_f2ib {f : UInt32} (hf : FP.Core.fIsNaN f = false) (g : jm_H) : m_JFloat_floatToIntBits f g f.toInt32 g := by
  have e : FP.fcmp f f = some .eq := FP.Core.fcmp_refl hf
  refine wp_JFloat_floatToIntBits ⟨0, g, wp_JFloat_isNaN ⟨fun _ => rfl, fun hc => ?_⟩, fun _ => rfl, fun hc => absurd rfl hc⟩
  rw [e] at hc
  exact absurd (by decide) hc
theorem nn_of32 {a : UInt32} (h : FP.Core.fIsNaN a = false) : a &&& 0x7fffffff ≤ 0x7f800000 := by
  have := (FP.Core.ne_nan32 a).mp ((FP.Core.notNaN_iff32 a).mp h)
  rw [UInt32.le_iff_toNat_le, FP.Core.mask_toNat32]
  exact this
end FLT
