/-! ===== the bits of a double, counted ===== -/
section BITS2
theorem vn_cmp_ge {a b : UInt64} {c : Nat} {q r : Int} (x : VN a c q) (y : VN b (2 ^ 52) r) (h : r ≤ q) : FP.dcmp a b = some .eq ∨ FP.dcmp a b = some .gt := by
  rw [vn_cmp x.1 y.1, show min q r = r by omega]
  have e1 : FP.Core.inUnits (2 ^ 52) r r = 2 ^ 52 := by unfold FP.Core.inUnits; rw [show (r - r).toNat = 0 by omega]
  have e2 : 2 ^ 52 ≤ FP.Core.inUnits c q r := by
    unfold FP.Core.inUnits
    have p := Nat.two_pow_pos (q - r).toNat
    have := x.2.1
    calc 2 ^ 52 = 2 ^ 52 * 1 := by decide
      _ ≤ c * 2 ^ (q - r).toNat := Nat.mul_le_mul this p
  rw [e1]
  generalize FP.Core.inUnits c q r = z at e2
  by_cases hz : z = 2 ^ 52
  · left; rw [hz]; decide
  · right; rw [show compare ((z : Nat) : Int) ((2 ^ 52 : Nat) : Int) = .gt from by rw [Int.compare_eq_gt]; omega]
theorem vn_2 : VN 4611686018427387904 (2 ^ 52) (-51) := ⟨v64_2, by decide, by decide, by decide, by decide⟩
theorem vn_1 : VN FP.dconst1 (2 ^ 52) (-52) := ⟨by decide +kernel, by decide, by decide, by decide, by decide⟩
theorem i64_s (E : Int) : Int64.ofInt E + 1 = Int64.ofInt (E + 1) := by
  rw [show (1 : Int64) = Int64.ofInt 1 from rfl, ← Int64.ofInt_add]
theorem i64_p (E : Int) : Int64.ofInt E - 1 = Int64.ofInt (E - 1) := by
  rw [show (1 : Int64) = Int64.ofInt 1 from rfl, ← Int64.ofInt_sub]
theorem bt_13 {w : Int32} {h : jm_H} {r : jm_Rs} {c : Nat} {E : Int} : ∀ (k : Nat) (x : UInt64) (E j : Int), VN x c (-52 + k) → 0 ≤ j → j + k ≤ 1000 → (∀ y, VN y c (-52) → l_Timer_bits_32 w y (Int64.ofInt (E + k)) 0 h r) → l_Timer_bits_13 w x (Int64.ofInt E) (zI j) h r := by
  intro k
  induction k with
  | zero =>
    intro x E j v j0 j1 K
    refine wp_Timer_bits_13 ⟨fun hc => ?_, fun _ => ⟨fun _ => ?_, fun hc => ?_⟩⟩
    · rw [zl_1100, zI_le (by omega) (by omega) (by omega) (by omega)] at hc; omega
    · have := K x v
      rw [show E + ((0 : Nat) : Int) = E by omega] at this
      exact this
    · rw [vn_cmp_lt v vn_2 (by omega)] at hc
      exact absurd (by decide) hc
  | succ k ih =>
    intro x E j v j0 j1 K
    refine wp_Timer_bits_13 ⟨fun hc => ?_, fun _ => ⟨fun hc => ?_, fun _ => ?_⟩⟩
    · rw [zl_1100, zI_le (by omega) (by omega) (by omega) (by omega)] at hc; omega
    · rcases vn_cmp_ge v vn_2 (by omega) with e | e
      · rw [e] at hc; exact absurd hc (by decide)
      · rw [e] at hc; exact absurd hc (by decide)
    · have v' := vn_half v (by omega)
      rw [show -52 + ((k + 1 : Nat) : Int) - 1 = -52 + (k : Int) by omega] at v'
      refine ⟨np_nn (vn_np v'), ?_⟩
      rw [i64_s, zl_1, zI_add]
      exact ih _ (E + 1) (j + 1) v' (by omega) (by omega) (fun y vy => by
        have := K y vy
        rw [show E + ((k + 1 : Nat) : Int) = E + 1 + (k : Int) by omega] at this
        exact this)
def btF (w : Int32) (y : UInt64) (E : Int) (h : jm_H) (r : jm_Rs) : Prop :=
  (FP.dsub y FP.dconst1 &&& 0x7fffffffffffffff ≤ 0x7ff0000000000000) ∧
    (FP.dmul (FP.dsub y FP.dconst1) (FP.l2d (1 <<< (w.toInt64 &&& 63))) &&& 0x7fffffffffffffff ≤ 0x7ff0000000000000) ∧
    r = (some (.inl (.long ((Int64.ofInt E <<< (w.toInt64 &&& 63)) + (FP.d2l (FP.dmul (FP.dsub y FP.dconst1) (FP.l2d (1 <<< (w.toInt64 &&& 63)))))))), h)
theorem bt_32 {w : Int32} {h : jm_H} {r : jm_Rs} {c : Nat} : ∀ (k : Nat) (x : UInt64) (E j : Int), VN x c (-52 - k) → 0 ≤ j → j + k ≤ 1000 → (∀ y, VN y c (-52) → btF w y (E - k) h r) → l_Timer_bits_32 w x (Int64.ofInt E) (zI j) h r := by
  intro k
  induction k with
  | zero =>
    intro x E j v j0 j1 K
    refine wp_Timer_bits_32 ⟨fun hc => ?_, fun _ => ⟨fun _ => ?_, fun hc => ?_⟩⟩
    · rw [zl_1100, zI_le (by omega) (by omega) (by omega) (by omega)] at hc; omega
    · have := K x v
      rw [show E - ((0 : Nat) : Int) = E by omega] at this
      exact this
    · rcases vn_cmp_ge v vn_1 (by omega) with e | e
      · rw [e] at hc; exact absurd (by decide) hc
      · rw [e] at hc; exact absurd (by decide) hc
  | succ k ih =>
    intro x E j v j0 j1 K
    refine wp_Timer_bits_32 ⟨fun hc => ?_, fun _ => ⟨fun hc => ?_, fun _ => ?_⟩⟩
    · rw [zl_1100, zI_le (by omega) (by omega) (by omega) (by omega)] at hc; omega
    · rw [vn_cmp_lt v vn_1 (by omega)] at hc
      exact absurd hc (by decide)
    · have v' := vn_dbl v (by omega)
      rw [show -52 - ((k + 1 : Nat) : Int) + 1 = -52 - (k : Int) by omega] at v'
      refine ⟨np_nn (vn_np v'), ?_⟩
      rw [i64_p, zl_1, zI_add]
      exact ih _ (E - 1) (j + 1) v' (by omega) (by omega) (fun y vy => by
        have := K y vy
        rw [show E - ((k + 1 : Nat) : Int) = E - 1 - (k : Int) by omega] at this
        exact this)
/-- both loops -/
theorem bt_all {w : Int32} {h : jm_H} {r : jm_Rs} {c : Nat} {x : UInt64} {q E : Int} (v : VN x c q) (q1 : -900 ≤ q) (q2 : q ≤ 900) (K : ∀ y, VN y c (-52) → btF w y (E + (q + 52)) h r) : l_Timer_bits_13 w x (Int64.ofInt E) 0 h r := by
  by_cases hq : -52 ≤ q
  · refine bt_13 (E := 0) (q + 52).toNat x E 0 (by rw [show -52 + (((q + 52).toNat : Nat) : Int) = q by omega]; exact v) (by omega) (by omega) (fun y vy => ?_)
    exact bt_32 0 y _ 0 (by rw [show (-52 : Int) - ((0 : Nat) : Int) = -52 by omega]; exact vy) (by omega) (by omega) (fun y' vy' => by
      have := K y' vy'
      rw [show E + (((q + 52).toNat : Nat) : Int) - ((0 : Nat) : Int) = E + (q + 52) by omega]
      exact this)
  · refine wp_Timer_bits_13 ⟨fun hc => absurd hc (by decide), fun _ => ⟨fun _ => ?_, fun hc => ?_⟩⟩
    · exact bt_32 (-52 - q).toNat x E 0 (by rw [show (-52 : Int) - (((-52 - q).toNat : Nat) : Int) = q by omega]; exact v) (by omega) (by omega) (fun y' vy' => by
        have := K y' vy'
        rw [show E - (((-52 - q).toNat : Nat) : Int) = E + (q + 52) by omega]
        exact this)
    · rw [vn_cmp_lt v vn_2 (by omega)] at hc
      exact absurd (by decide) hc
end BITS2
