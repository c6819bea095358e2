/-! ===== the bits of a float ===== -/
section FBITS
/-- a positive normal float -/
def FN (f : UInt32) (c : Nat) (q : Int) : Prop := FP.Core.val32 f = .fin false c q ∧ 2 ^ 23 ≤ c ∧ c < 2 ^ 24 ∧ -149 ≤ q ∧ q ≤ 104
theorem b32_qmin : FP.Core.b32.qmin = -149 := by decide
theorem b32_t : FP.Core.b32.tails = 2 ^ 23 := rfl
theorem fn_vn {f : UInt32} {c : Nat} {q : Int} (v : FN f c q) : VN (FP.f2d f) (c * 2 ^ 29) (q - 29) := by
  obtain ⟨e, c1, c2, q1, q2⟩ := v
  have p1 : (2 : Nat) ^ 52 = 2 ^ 23 * 2 ^ 29 := by decide
  have p2 : (2 : Nat) ^ 53 = 2 ^ 24 * 2 ^ 29 := by decide
  have k1 : 2 ^ 52 ≤ c * 2 ^ 29 := by rw [p1]; exact Nat.mul_le_mul_right _ c1
  have k2 : c * 2 ^ 29 < 2 ^ 53 := by rw [p2]; exact Nat.mul_lt_mul_of_pos_right c2 (by decide)
  refine ⟨?_, k1, k2, by omega, by omega⟩
  rw [FP.f2d_core (a := f) (FP.Core.FFin.notNaN ⟨_, _, _, e⟩), FP.Core.val64_f2d, e]
  show FP.Core.roundRatio FP.Core.b64 false c 1 q = _
  refine FP.Core.roundRatio_exact FP.Core.good_b64 (by decide) (vn_fits k1 k2 (by omega) (by omega)) ?_
  rw [show (q - (q - 29)).toNat = 29 by omega, show (q - 29 - q).toNat = 0 by omega, Nat.pow_zero, Nat.mul_one, Nat.mul_one]
theorem sh_23 : ∀ E, E < 256 → Int64.ofInt ((E : Nat) : Int) <<< ((23 : Int32).toInt64 &&& 63) = Int64.ofInt ((E * 2 ^ 23 : Nat) : Int) := by decide +kernel
theorem enc_f {c d : Nat} {q : Int} (hd : FP.Core.b32.tails = d) (h : d ≤ c) (q1 : -149 ≤ q) : FP.Core.encode FP.Core.b32 (.fin false c q) = (q + 150).toNat * d + (c - d) := by
  unfold FP.Core.encode FP.Core.assemble
  rw [hd]
  dsimp only
  rw [if_neg (by omega), b32_qmin, show (q - -149).toNat + 1 = (q + 150).toNat by omega, Bool.toNat_false, Nat.zero_mul, Nat.zero_add]
theorem u32_i (N : Nat) : (UInt32.ofNat N).toInt32 = (Int64.ofInt (N : Int)).toInt32 := by
  rw [Int64.toInt32_ofInt]
  first
  | exact (Int32.ofInt_eq_ofNat).symm
  | rfl
theorem fn_bits {f : UInt32} {c : Nat} {q : Int} (v : FN f c q) : f.toInt32 = (Int64.ofInt (((q + 150).toNat * 2 ^ 23 + (c - 2 ^ 23) : Nat) : Int)).toInt32 := by
  have e := FP.Core.of32_val32 (a := f) (by rw [v.1]; intro hc; cases hc)
  rw [v.1] at e
  rw [← u32_i, ← enc_f b32_t v.2.1 v.2.2.2.1]
  exact congrArg UInt32.toInt32 e.symm
theorem s_bits23 {f : UInt32} {c : Nat} {q : Int} (v : FN f c q) (h : jm_H) : ∃ x : Int64, m_Timer_bits (FP.f2d f) 23 127 h x h ∧ x.toInt32 = f.toInt32 := by
  have vd := fn_vn v
  obtain ⟨e, c1, c2, q1, q2⟩ := id v
  refine ⟨Int64.ofInt (127 + (q - 29 + 52)) <<< ((23 : Int32).toInt64 &&& 63) + Int64.ofInt ((c - 2 ^ 23 : Nat) : Int), wp_Timer_bits ⟨fun _ => ?_, fun hc => absurd (vn_pos vd) hc⟩, ?_⟩
  · refine bt_all (E := 127) vd (by omega) (by omega) (fun y vy => ?_)
    exact b3_F (w := 23) (M := c - 2 ^ 23) (W := 23) vy (by omega) (by decide +kernel) (by
      rw [Nat.sub_mul, show (2 : Nat) ^ 23 * 2 ^ (52 - 23) = 2 ^ 52 by decide])
  · rw [fn_bits v, show 127 + (q - 29 + 52) = (((q + 150).toNat : Nat) : Int) by omega, sh_23 _ (by omega), ← Int64.ofInt_add, Int.natCast_add]
end FBITS
