/-! ===== what is left over, as a float's bits, on both sides ===== -/
section TAIL
theorem fl_all {x : UInt64} (hx : x = 0 ∨ ∃ c q, VN x c q ∧ -170 ≤ q ∧ q ≤ 50) : (FP.d2f x &&& 0x7fffffff ≤ 0x7f800000) ∧ (FP.f2d (FP.d2f x) &&& 0x7fffffffffffffff ≤ 0x7ff0000000000000) ∧ (∀ g : jm_H, ∃ v4 : Int64, m_Timer_bits (FP.f2d (FP.d2f x)) 23 127 g v4 g ∧ v4.toInt32 = (FP.d2f x).toInt32) ∧ ∀ g : jm_H, m_JFloat_floatToIntBits (FP.d2f x) g (FP.d2f x).toInt32 g := by
  rcases hx with rfl | ⟨c, q, v, q1, q2⟩
  · have e1 : FP.d2f 0 = 0 := by decide +kernel
    have e2 : FP.f2d 0 = 0 := by decide +kernel
    rw [e1, e2]
    exact ⟨by decide +kernel, by decide +kernel, fun g => ⟨0, wp_Timer_bits ⟨fun hc => absurd hc (by decide +kernel), fun _ => rfl⟩, by decide +kernel⟩, fun g => s_f2ib (by decide +kernel) g⟩
  · obtain ⟨c', q', f⟩ := vn_d2f v q1 q2
    have fn : FP.Core.fIsNaN (FP.d2f x) = false := FP.Core.FFin.notNaN ⟨_, _, _, f.1⟩
    exact ⟨nn_of32 fn, np_nn (vn_np (fn_vn f)), fun g => s_bits23 f g, fun g => s_f2ib fn g⟩
end TAIL
