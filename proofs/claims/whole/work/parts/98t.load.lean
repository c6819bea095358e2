/-! ===== load ===== -/
section LOAD
variable {B : Int} {h : jm_H} {nm : Nat} {D : Nat → MD} {m : Nat} {d : MD}
theorem np_add {a b : UInt64} {l1 h1 l2 h2 l3 h3 : Int} (x : NP a l1 h1) (y : NP b l2 h2) (m1 : -900 ≤ l3) (m2 : h3 ≤ 900) (o1 : l3 ≤ l1) (o2 : l3 ≤ l2) (o3 : h1 + 2 ≤ h3) (o4 : h2 + 2 ≤ h3) : NP (FP.dadd a b) l3 h3 := by
  obtain ⟨c, q, e1, c1, c2, q1, q2⟩ := x
  obtain ⟨d, r, e2, d1, d2, r1, r2⟩ := y
  have hv : FP.Core.val64 (FP.dadd a b) = FP.Core.roundRatio FP.Core.b64 false (FP.Core.inUnits c q (min q r) + FP.Core.inUnits d r (min q r)) 1 (min q r) := by
    show FP.Core.val64 (FP.Core.dadd a b) = _
    rw [FP.Core.val64_dadd, e1, e2]
    have s1 : FP.Core.sumUnits false c q false d r (min q r) = ((FP.Core.inUnits c q (min q r) + FP.Core.inUnits d r (min q r) : Nat) : Int) := by
      unfold FP.Core.sumUnits FP.Core.signed
      rw [if_neg (by decide), if_neg (by decide), Int.natCast_add]
    have s2 : FP.Core.sumSign false false ((FP.Core.inUnits c q (min q r) + FP.Core.inUnits d r (min q r) : Nat) : Int) = false := by
      unfold FP.Core.sumSign
      split
      · rfl
      · exact decide_eq_false (by omega)
    show FP.Core.round FP.Core.b64 (.fin (FP.Core.sumSign false false (FP.Core.sumUnits false c q false d r (min q r))) (FP.Core.sumUnits false c q false d r (min q r)).natAbs (min q r)) = _
    rw [s1, s2, Int.natAbs_natCast]
    rfl
  generalize hmn : min q r = mn at hv
  have lb : ∀ (c : Nat) (q : Int), 2 ^ 52 ≤ c → 2 ^ 52 ≤ FP.Core.inUnits c q mn := fun c q hc => by
    unfold FP.Core.inUnits
    calc 2 ^ 52 = 2 ^ 52 * 1 := by decide
      _ ≤ c * 2 ^ (q - mn).toNat := Nat.mul_le_mul hc (Nat.two_pow_pos _)
  have ub : ∀ (c : Nat) (q' : Int), c < 2 ^ 53 → q' ≤ max q r → FP.Core.inUnits c q' mn < 2 ^ (53 + (max q r - mn).toNat) := fun c q' hc hq => by
    unfold FP.Core.inUnits
    calc c * 2 ^ (q' - mn).toNat < 2 ^ 53 * 2 ^ (q' - mn).toNat := Nat.mul_lt_mul_of_pos_right hc (Nat.two_pow_pos _)
      _ = 2 ^ (53 + (q' - mn).toNat) := (Nat.pow_add 2 53 _).symm
      _ ≤ 2 ^ (53 + (max q r - mn).toNat) := Nat.pow_le_pow_right (by decide) (by omega)
  have l1' := lb c q c1
  have l2' := lb d r d1
  have u1 := ub c q c2 (by omega)
  have u2 := ub d r d2 (by omega)
  obtain ⟨c', q', w1, w2, w3, w4, w5⟩ := rr_np (A := FP.Core.inUnits c q mn + FP.Core.inUnits d r mn) (B := 1) (e := mn) (lo := mn) (hi := max q r + 1) (by omega) (by omega) (by
    rw [show mn - mn + 52 = ((52 : Nat) : Int) - (0 : Nat) by omega, FP.Core.below_iff]; omega) (by
    rw [show max q r + 1 - mn + 53 = ((53 + (max q r - mn).toNat + 1 : Nat) : Int) - (0 : Nat) by omega, FP.Core.below_iff, Nat.pow_succ]; omega) (by omega) (by omega)
  exact ⟨c', q', hv.trans w1, w2, w3, by omega, by omega⟩
def LX (d : MD) : Nat → UInt64
  | 0 => FP.dconst0
  | t + 1 => FP.dadd (LX d t) (FP.ddiv (FP.i2d (zI (md_co d t))) (FP.i2d (zI (md_pe d t))))
theorem lx_item (w : WFm d) {t : Nat} (ht : t < md_tk d) : NP (FP.ddiv (FP.i2d (zI (md_co d t))) (FP.i2d (zI (md_pe d t)))) (-84) (-20) := by
  have w7 := w.2.2.2.2.2.2.1 t ht
  exact np_div (np_i2d (n := md_co d t) (by omega) (by omega)) (np_i2d (n := md_pe d t) (by omega) (by omega)) (by omega) (by omega)
theorem lx_np (w : WFm d) : ∀ t, t < md_tk d → NP (LX d (t + 1)) (-84) (-20 + 2 * (t : Int)) := by
  have w4 := w.2.2.2.1
  intro t
  induction t with
  | zero =>
    intro ht
    have y := lx_item w ht
    have e : FP.dadd FP.dconst0 (FP.ddiv (FP.i2d (zI (md_co d 0))) (FP.i2d (zI (md_pe d 0)))) = FP.ddiv (FP.i2d (zI (md_co d 0))) (FP.i2d (zI (md_pe d 0))) := by
      refine (FP.Core.dadd_comm _ _).trans (FP.Core.dadd_zero (np_fin y).1.ne_nan (fun hc => (np_fin y).2 ?_))
      rw [hc]
      exact ⟨_, _, FP.Core.val64_dzeroNeg⟩
    show NP (FP.dadd FP.dconst0 _) _ _
    rw [e]
    exact y
  | succ t ih =>
    intro ht
    exact np_add (ih (by omega)) (lx_item w ht) (by omega) (by omega) (by omega) (by omega) (by omega) (by omega)
theorem lx_nn (w : WFm d) {t : Nat} (ht : t ≤ md_tk d) : FP.Core.dIsNaN (LX d t) = false := by
  cases t with
  | zero => show FP.Core.dIsNaN FP.dconst0 = false; decide +kernel
  | succ t => exact (np_fin (lx_np w t (by omega))).1.notNaN
theorem lx_bits (w : WFm d) (g : jm_H) : m_Timer_bits (LX d (md_tk d)) 52 1023 g (LX d (md_tk d)).toInt64 g := by
  have w4 := w.2.2.2.1
  by_cases h0 : md_tk d = 0
  · rw [h0]
    show m_Timer_bits FP.dconst0 52 1023 g FP.dconst0.toInt64 g
    exact wp_Timer_bits ⟨fun hc => absurd hc (by decide +kernel), fun _ => rfl⟩
  · obtain ⟨t, ht⟩ : ∃ t, md_tk d = t + 1 := ⟨md_tk d - 1, by omega⟩
    obtain ⟨c, q, e, c1, c2, q1, q2⟩ := lx_np w t (by omega)
    rw [ht]
    exact s_bits52 ⟨e, c1, c2, by omega, by omega⟩ (by omega) (by omega) g
theorem s_d2lb {x : UInt64} (hx : FP.Core.dIsNaN x = false) (g : jm_H) : m_JDouble_doubleToLongBits x g x.toInt64 g := by
  have e : FP.dcmp x x = some .eq := FP.Core.dcmp_refl hx
  refine wp_JDouble_doubleToLongBits ⟨0, g, wp_JDouble_isNaN ⟨fun _ => rfl, fun hc => ?_⟩, fun _ => rfl, fun hc => absurd rfl hc⟩
  rw [e] at hc
  exact absurd (by decide) hc
theorem s_load_F {q : Nat} (v : vF h q d) (w : WFm d) : ∀ (e n : Nat), n + e = md_tk d → l_FR_load_22 q (LX d n) (zI n) h (some (.inl (.long (LX d (md_tk d)).toInt64)), h) := by
  have w4 := w.2.2.2.1
  intro e
  induction e with
  | zero =>
    intro n en
    have en' : n = md_tk d := by omega
    subst en'
    refine wp_FR_load_22 ⟨fun _ => ⟨_, h, lx_bits w h, rfl⟩, fun hc => ?_⟩
    rw [v.2.2.1, zI_le (by omega) (by omega) (by omega) (by omega)] at hc; omega
  | succ e ih =>
    intro n en
    have hn : n < md_tk d := by omega
    have em : (zI (n : Int)).toNatClampNeg = n := zI_cn (by omega)
    obtain ⟨-, v2, v3, -⟩ := v.2.2.2.2.2.1 n hn
    have w7 := w.2.2.2.2.2.2.1 n hn
    refine wp_FR_load_22 ⟨fun hc => ?_, fun _ => ⟨zI_in (by omega) (by omega) (by omega), fun hc => ?_, fun _ => ⟨zI_in (by omega) (by omega) (by omega), zI_in (by omega) (by omega) (by omega), ?_⟩⟩⟩
    · rw [v.2.2.1, zI_le (by omega) (by omega) (by omega) (by omega)] at hc; omega
    · rw [em, v2, zl_0, zI_le (by omega) (by omega) (by omega) (by omega)] at hc; omega
    · rw [em, v2, v3, e_p1]
      exact ⟨np_nn (lx_item w hn), nn_of (lx_nn w (t := n + 1) (by omega)), ih (n + 1) (by omega)⟩
theorem s_load_M (v : vM h m d) (w : WFm d) (hm : m < 3) : ∀ (e n : Nat), n + e = md_tk d → l_M_load_15 (zI m) (LX d n) (zI n) h (some (.inl (.long (LX d (md_tk d)).toInt64)), h) := by
  have w4 := w.2.2.2.1
  have em : (zI (m : Int)).toNatClampNeg = m := zI_cn (by omega)
  intro e
  induction e with
  | zero =>
    intro n en
    have en' : n = md_tk d := by omega
    subst en'
    refine wp_M_load_15 ⟨zI_in (by omega) (by omega) (by omega), fun _ => ⟨_, h, s_d2lb (lx_nn w (Nat.le_refl _)) h, rfl⟩, fun hc => ?_⟩
    rw [em, v.2.2.1, zI_le (by omega) (by omega) (by omega) (by omega)] at hc; omega
  | succ e ih =>
    intro n en
    have hn : n < md_tk d := by omega
    have ei : (6 : Int32) * zI (m : Int) + zI (n : Int) = zI ((6 * m + n : Nat) : Int) := by
      rw [zl_6, zI_mul, zI_add]; rfl
    have en6 : (zI ((6 * m + n : Nat) : Int)).toNatClampNeg = 6 * m + n := zI_cn (by omega)
    obtain ⟨-, v2, v3, -⟩ := v.2.2.2.2.2.1 n hn
    refine wp_M_load_15 ⟨zI_in (by omega) (by omega) (by omega), fun hc => ?_, fun _ => ?_⟩
    · rw [em, v.2.2.1, zI_le (by omega) (by omega) (by omega) (by omega)] at hc; omega
    · rw [ei, en6, v2, v3, e_p1]
      exact ⟨zI_in (by omega) (by omega) (by omega), zI_in (by omega) (by omega) (by omega), np_nn (lx_item w hn), nn_of (lx_nn w (t := n + 1) (by omega)), ih (n + 1) (by omega)⟩
theorem c_load : ∀ B, HL B := by
  intro B h a I
  obtain ⟨nm, D, P, C, T, Q⟩ := I
  obtain ⟨x, rfl, x1, x2⟩ := i32x a
  by_cases hm : 0 ≤ x ∧ x < nm
  · obtain ⟨m, hmn, rfl⟩ := mode_of hm
    have em : (zI (m : Int)).toNatClampNeg = m := zI_cn (by have := P.1; omega)
    have w := (P.2.2.2.2 m hmn).1
    have E1 := EF.of (Ch.rf h) 0
    have P1 := P.F E1.1
    have Ea := EM.an P1
    have Pa := P1.M Ea.1
    have lF := s_load_F (P1.2.2.2.2 m hmn).2.1 w (md_tk (D m)) 0 (by omega)
    have lM := s_load_M (Pa.2.2.2.2 m hmn).2.2.1 w (P.m3 hmn) (md_tk (D m)) 0 (by omega)
    refine ⟨_, _, _, wp_FR_load ⟨_, h, s_isModeF P x1 x2, fun hc => absurd hc (nz1 hm), fun _ => ⟨in3 P hmn, by rw [em]; exact lF⟩⟩, wp_M_load ⟨_, s_an, _, _, s_isModeM Pa x1 x2, fun hc => absurd hc (nz1 hm), fun _ => lM⟩, INV.mk1 P C T Q E1.1 Ea.1 E1.2 Ea.2 (by decide)⟩
  · exact ⟨_, _, _, wp_FR_load ⟨_, h, s_isModeF P x1 x2, fun _ => ⟨_, _, wp_FR_refused rfl, rfl⟩, fun hc => absurd (nz0 hm) hc⟩, wp_M_load ⟨_, s_an, _, _, s_isModeM (PLa P 1) x1 x2, fun _ => ⟨_, _, wp_M_no rfl, rfl⟩, fun hc => absurd (nz0 hm) hc⟩, ref_inv P C T Q (t := 1) (by decide)⟩
end LOAD
