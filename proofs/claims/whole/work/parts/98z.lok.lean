/-! ===== leftOver is the remainder ===== -/
section LOKS
/-- a double that is not negative: its value in units of the least one -/
def UN (a : UInt64) (u : Nat) : Prop := ∃ (c : Nat) (q : Int), FP.Core.val64 a = .fin false c q ∧ FP.Core.inUnits c q FP.Core.b64.qmin = u
theorem un_z {a : UInt64} {u : Nat} (x : UN a u) : FP.Core.zval FP.Core.b64 (FP.Core.val64 a) = (u : Int) ∧ FP.Core.val64 a ≠ .nan := by
  obtain ⟨c, q, e, h⟩ := x
  rw [e]
  refine ⟨?_, fun hc => ?_⟩
  · show FP.Core.signed false (FP.Core.inUnits c q FP.Core.b64.qmin) = _
    rw [h]
    unfold FP.Core.signed
    rw [if_neg (by decide)]
  · cases hc
theorem un_cmp {a b : UInt64} {u w : Nat} (x : UN a u) (y : UN b w) : FP.dcmp a b = some (compare (u : Int) (w : Int)) := by
  show FP.Core.order (FP.Core.val64 a) (FP.Core.val64 b) = _
  rw [FP.Core.order_zval FP.Core.good_b64 (FP.Core.val64_fits a) (FP.Core.val64_fits b) (un_z x).2 (un_z y).2, (un_z x).1, (un_z y).1]
theorem un_gt {a b : UInt64} {u w : Nat} (x : UN a u) (y : UN b w) (h : w < u) : FP.dcmp a b = some .gt := by
  rw [un_cmp x y, show compare (u : Int) (w : Int) = .gt from by rw [Int.compare_eq_gt]; omega]
theorem un_lt {a b : UInt64} {u w : Nat} (x : UN a u) (y : UN b w) (h : u < w) : FP.dcmp a b = some .lt := by
  rw [un_cmp x y, show compare (u : Int) (w : Int) = .lt from by rw [Int.compare_eq_lt]; omega]
theorem un_eq {a b : UInt64} {u w : Nat} (x : UN a u) (y : UN b w) (h : u = w) : FP.dcmp a b = some .eq := by
  rw [un_cmp x y, show compare (u : Int) (w : Int) = .eq from by rw [Int.compare_eq_eq]; omega]
theorem un_le {c d : Nat} {q r : Int} (hx : FP.Core.fits FP.Core.b64 (.fin false c q)) (hy : FP.Core.fits FP.Core.b64 (.fin false d r)) (h : FP.Core.inUnits c q FP.Core.b64.qmin = FP.Core.inUnits d r FP.Core.b64.qmin) : r ≤ q := by
  apply Int.not_lt.mp
  intro hl
  obtain ⟨c1, q1, -, -⟩ := hx
  obtain ⟨-, r1, -, r3⟩ := hy
  have c2 : c < 2 ^ 53 := c1
  rw [b64_qmin] at q1 r1
  have d0 : 2 ^ 52 ≤ d := by
    rcases r3 with r3 | r3
    · rw [b64_qmin] at r3; omega
    · exact r3
  unfold FP.Core.inUnits at h
  rw [b64_qmin, show (r - -1074).toNat = (q - -1074).toNat + ((r - q).toNat - 1) + 1 by omega, Nat.pow_succ, Nat.pow_add] at h
  generalize (q - -1074).toNat = k at h
  generalize (r - q).toNat - 1 = j at h
  have b1 : c * 2 ^ k < 2 ^ 53 * 2 ^ k := Nat.mul_lt_mul_of_pos_right c2 (Nat.two_pow_pos _)
  have b2 : 2 ^ 52 * (2 ^ k * 1 * 2) ≤ d * (2 ^ k * 2 ^ j * 2) := Nat.mul_le_mul d0 (Nat.mul_le_mul_right 2 (Nat.mul_le_mul_left _ (Nat.two_pow_pos j)))
  rw [← h] at b2
  generalize c * 2 ^ k = z at b1 b2
  generalize 2 ^ k = y at b1 b2
  omega
theorem un_inj {a b : UInt64} {u : Nat} (x : UN a u) (y : UN b u) : a = b := by
  obtain ⟨c, q, e1, h1⟩ := x
  obtain ⟨d, r, e2, h2⟩ := y
  have fx := FP.Core.val64_fits a
  have fy := FP.Core.val64_fits b
  rw [e1] at fx
  rw [e2] at fy
  have q1 := un_le fx fy (h1.trans h2.symm)
  have q2 := un_le fy fx (h2.trans h1.symm)
  have hq : r = q := by omega
  subst hq
  have h := h1.trans h2.symm
  unfold FP.Core.inUnits at h
  have hc : c = d := Nat.eq_of_mul_eq_mul_right (Nat.two_pow_pos _) h
  subst hc
  exact FP.Core.val64_inj (fun hc => by rw [e1] at hc; cases hc) (e1.trans e2.symm)
/-- a difference of two that are within a factor of two is exact -/
theorem un_sub {a b : UInt64} {u w : Nat} (x : UN a u) (y : UN b w) (h1 : w ≤ u) (h2 : u < 2 * w) : UN (FP.dsub a b) (u - w) := by
  obtain ⟨c, q, e1, hu⟩ := x
  obtain ⟨d, r, e2, hw⟩ := y
  have fx := FP.Core.val64_fits a
  have fy := FP.Core.val64_fits b
  rw [e1] at fx
  rw [e2] at fy
  obtain ⟨c1, q1, q2, -⟩ := fx
  obtain ⟨d1, r1, r2, -⟩ := fy
  have c2 : c < 2 ^ 53 := c1
  have d2 : d < 2 ^ 53 := d1
  have p1 : FP.Core.b64.qmin ≤ min q r := by omega
  have p2 : min q r ≤ FP.Core.b64.qmax := by omega
  rw [FP.Core.inUnits_move c (q := q) (e := FP.Core.b64.qmin) (r := min q r) p1 (by omega)] at hu
  rw [FP.Core.inUnits_move d (q := r) (e := FP.Core.b64.qmin) (r := min q r) p1 (by omega)] at hw
  have hv : FP.Core.val64 (FP.dsub a b) = FP.Core.round FP.Core.b64 (.fin (FP.Core.sumSign false true (FP.Core.sumUnits false c q true d r (min q r))) (FP.Core.sumUnits false c q true d r (min q r)).natAbs (min q r)) := by
    show FP.Core.val64 (FP.Core.dsub a b) = _
    rw [FP.Core.val64_dsub, e1, e2]
    rfl
  have s1 : FP.Core.sumUnits false c q true d r (min q r) = ((FP.Core.inUnits c q (min q r) : Nat) : Int) - ((FP.Core.inUnits d r (min q r) : Nat) : Int) := by
    unfold FP.Core.sumUnits FP.Core.signed
    rw [if_neg (by decide), if_pos rfl]
    omega
  have hN : FP.Core.inUnits c q (min q r) < 2 ^ 53 ∨ FP.Core.inUnits d r (min q r) < 2 ^ 53 := by
    unfold FP.Core.inUnits
    by_cases hq : q ≤ r
    · left; rw [show (q - min q r).toNat = 0 by omega, Nat.pow_zero, Nat.mul_one]; exact c2
    · right; rw [show (r - min q r).toNat = 0 by omega, Nat.pow_zero, Nat.mul_one]; exact d2
  rw [s1] at hv
  generalize FP.Core.inUnits c q (min q r) = A at hu hv hN
  generalize FP.Core.inUnits d r (min q r) = B at hw hv hN
  generalize min q r = mn at hu hw hv p1 p2
  have hp := Nat.two_pow_pos (mn - FP.Core.b64.qmin).toNat
  have o1 : B ≤ A := by
    apply Nat.le_of_not_lt
    intro hc
    have := Nat.mul_lt_mul_of_pos_right hc hp
    omega
  have o2 : A < 2 * B := by
    apply Nat.lt_of_not_le
    intro hc
    have := Nat.mul_le_mul_right (2 ^ (mn - FP.Core.b64.qmin).toNat) hc
    rw [Nat.mul_assoc] at this
    omega
  have s2 : FP.Core.sumSign false true ((A : Int) - (B : Int)) = false := by
    unfold FP.Core.sumSign
    split
    · rfl
    · exact decide_eq_false (by omega)
  rw [s2, show ((A : Int) - (B : Int)).natAbs = A - B by omega] at hv
  obtain ⟨c', q', w1, w2⟩ := FP.Core.round_exact FP.Core.good_b64 false (c := A - B) (q := mn) (show A - B < 2 ^ 53 by omega) p1 p2
  refine ⟨c', q', hv.trans w1, w2.trans ?_⟩
  unfold FP.Core.inUnits
  rw [Nat.sub_mul, hu, hw]
theorem un_vn {a : UInt64} {d : Nat} {r : Int} (e : Nat) (v : VN a d (r + e)) (hr : -1000 ≤ r) : UN a (d * 2 ^ (r + 1074).toNat * 2 ^ e) := by
  refine ⟨d, r + e, v.1, ?_⟩
  unfold FP.Core.inUnits
  rw [b64_qmin, show (r + (e : Int) - -1074).toNat = (r + 1074).toNat + e by omega, Nat.pow_add, Nat.mul_assoc]
theorem un_0 : UN 0 0 := ⟨0, -1074, by decide +kernel, by unfold FP.Core.inUnits; rw [Nat.zero_mul]⟩
/-- the second loop -/
theorem lo_23 {X d k : Nat} {r : Int} {h : jm_H} {res : jm_Rs} (r1 : -75 ≤ r) (r2 : r ≤ -42) (hk : k ≤ 60) (K : ∀ y, UN y (X % (d * 2 ^ (r + 1074).toNat)) → res = (some (.inl (.double y)), h)) : ∀ (e j : Nat) (part rest : UInt64) (U : Nat), j + e = k + 1 → VN part d (r + e - 1) → UN rest U → U < d * 2 ^ (r + 1074).toNat * 2 ^ e → U % (d * 2 ^ (r + 1074).toNat) = X % (d * 2 ^ (r + 1074).toNat) → l_Timer_leftOver_23 part (zI k) rest (zI j) h res := by
  intro e
  induction e with
  | zero =>
    intro j part rest U hj v u hU hm
    refine wp_Timer_leftOver_23 ⟨fun _ => K rest ?_, fun hc => ?_⟩
    · rw [← hm, Nat.mod_eq_of_lt (by rw [Nat.pow_zero, Nat.mul_one] at hU; exact hU)]
      exact u
    · rw [zI_lt (by omega) (by omega) (by omega) (by omega)] at hc; omega
  | succ e ih =>
    intro j part rest U hj v u hU hm
    rw [show r + ((e + 1 : Nat) : Int) - 1 = r + (e : Int) by omega] at v
    have up := un_vn e v (by omega)
    have v' := vn_half v (by omega)
    have nn := np_nn (vn_np v')
    rw [Nat.pow_succ, ← Nat.mul_assoc] at hU
    refine wp_Timer_leftOver_23 ⟨fun hc => ?_, fun _ => ⟨fun hc => ⟨nn, ?_⟩, fun hc => ⟨?_, nn, ?_⟩⟩⟩
    · rw [zI_lt (by omega) (by omega) (by omega) (by omega)] at hc; omega
    · have hl : U < d * 2 ^ (r + 1074).toNat * 2 ^ e := by
        apply Nat.lt_of_not_le
        intro hg
        by_cases he : U = d * 2 ^ (r + 1074).toNat * 2 ^ e
        · rw [un_eq u up he] at hc; exact absurd hc (by decide)
        · rw [un_gt u up (by omega)] at hc; exact absurd hc (by decide)
      rw [e_p1]
      exact ih (j + 1) _ _ U (by omega) v' u hl hm
    · have hg : d * 2 ^ (r + 1074).toNat * 2 ^ e ≤ U := by
        apply Nat.le_of_not_lt
        intro hl
        rw [un_lt u up hl] at hc; exact absurd (by decide) hc
      have := un_sub u up hg (by omega)
      exact nn_of (FP.Core.DFin.notNaN (by obtain ⟨c', q', w, -⟩ := this; exact ⟨_, _, _, w⟩))
    · have hg : d * 2 ^ (r + 1074).toNat * 2 ^ e ≤ U := by
        apply Nat.le_of_not_lt
        intro hl
        rw [un_lt u up hl] at hc; exact absurd (by decide) hc
      have us := un_sub u up hg (by omega)
      rw [e_p1]
      exact ih (j + 1) _ _ _ (by omega) v' us (by omega) ((Nat.sub_mul_mod hg).trans hm)
/-- the first loop -/
theorem lo_4 {x : UInt64} {X d T : Nat} {r : Int} {h : jm_H} {res : jm_Rs} (ux : UN x X) (hT : T = 1106) (hX : X < 2 ^ T) (d1 : 2 ^ 52 ≤ d) (r1 : -75 ≤ r) (r2 : r ≤ -42) (K : ∀ (k : Nat) (part : UInt64), k ≤ 60 → VN part d (r + k) → X < d * 2 ^ (r + 1074).toNat * 2 ^ (k + 1) → l_Timer_leftOver_23 part (zI k) x 0 h res) : ∀ (e i : Nat) (part : UInt64), i + e = 60 → VN part d (r + i) → l_Timer_leftOver_4 x part (zI i) h res := by
  have stop : ∀ (i : Nat) (part : UInt64), i ≤ 60 → VN part d (r + i) → X < d * 2 ^ (r + 1074).toNat * 2 ^ (i + 1) → l_Timer_leftOver_4 x part (zI i) h res := by
    intro i part hi v hl
    have v2 := vn_twice v (by omega)
    have u2 := un_vn (i + 1) (by rw [show r + ((i + 1 : Nat) : Int) = r + (i : Int) + 1 by omega]; exact v2) (by omega)
    refine wp_Timer_leftOver_4 ⟨fun hc => ?_, fun _ => ⟨np_nn (vn_np v2), fun _ => K i part hi v hl, fun hc => ?_⟩⟩
    · rw [zl_64, zI_le (by omega) (by omega) (by omega) (by omega)] at hc; omega
    · rw [un_gt u2 ux hl] at hc; exact absurd (by decide) hc
  intro e
  induction e with
  | zero =>
    intro i part hi v
    refine stop i part (by omega) v ?_
    calc X < 2 ^ T := hX
      _ ≤ 2 ^ (52 + (r + 1074).toNat + (i + 1)) := Nat.pow_le_pow_right (by decide) (by omega)
      _ = 2 ^ 52 * 2 ^ (r + 1074).toNat * 2 ^ (i + 1) := by rw [Nat.pow_add, Nat.pow_add]
      _ ≤ d * 2 ^ (r + 1074).toNat * 2 ^ (i + 1) := Nat.mul_le_mul_right _ (Nat.mul_le_mul_right _ d1)
  | succ e ih =>
    intro i part hi v
    by_cases hl : X < d * 2 ^ (r + 1074).toNat * 2 ^ (i + 1)
    · exact stop i part (by omega) v hl
    · have v2 := vn_twice v (by omega)
      rw [show r + (i : Int) + 1 = r + ((i + 1 : Nat) : Int) by omega] at v2
      have u2 := un_vn (i + 1) v2 (by omega)
      have nn := np_nn (vn_np v2)
      refine wp_Timer_leftOver_4 ⟨fun hc => ?_, fun _ => ⟨nn, fun hc => ?_, fun _ => ⟨nn, ?_⟩⟩⟩
      · rw [zl_64, zI_le (by omega) (by omega) (by omega) (by omega)] at hc; omega
      · by_cases he : d * 2 ^ (r + 1074).toNat * 2 ^ (i + 1) = X
        · rw [un_eq u2 ux he] at hc; exact absurd hc (by decide)
        · rw [un_lt u2 ux (by omega)] at hc; exact absurd hc (by decide)
      · rw [e_p1]
        exact ih (i + 1) _ (by omega) v2
theorem pw_lt {a b : Nat} (h : 2 ^ a < 2 ^ b) : a < b := (Nat.pow_lt_pow_iff_right (by decide : 1 < 2)).mp h
/-- leftOver's answer, and what it is -/
theorem lo_all {x y : UInt64} {X d T G : Nat} {r : Int} (ux : UN x X) (hT : T = 1106) (hG : G = 999) (hX : X < 2 ^ T) (hD : 2 ^ G ∣ X) (vy : VN y d r) (r1 : -75 ≤ r) (r2 : r ≤ -42) : (∀ g : jm_H, m_Timer_leftOver x y g (FP.drem x y) g) ∧ (FP.drem x y = 0 ∨ ∃ c q, VN (FP.drem x y) c q ∧ -170 ≤ q ∧ q ≤ 50) := by
  have d1 := vy.2.1
  have d2 := vy.2.2.1
  obtain ⟨c, q, e, hc⟩ := ux
  obtain ⟨c', q', w1, w2⟩ := FP.Core.drem_exact e vy.1 (by omega)
  have hY : FP.Core.inUnits d r FP.Core.b64.qmin = d * 2 ^ (r + 1074).toNat := by
    unfold FP.Core.inUnits
    rw [b64_qmin, show r - -1074 = r + 1074 by omega]
  rw [hc, hY] at w2
  have ud : UN (FP.drem x y) (X % (d * 2 ^ (r + 1074).toNat)) := ⟨c', q', w1, w2⟩
  have v0 : VN y d (r + ((0 : Nat) : Int)) := by rw [show r + ((0 : Nat) : Int) = r by omega]; exact vy
  refine ⟨fun g => ?_, ?_⟩
  · refine wp_Timer_leftOver (lo_4 (d := d) (r := r) ⟨c, q, e, hc⟩ hT hX d1 r1 r2 (fun k part hk v hl => ?_) 60 0 y (by omega) v0)
    exact lo_23 (d := d) (r := r) (X := X) r1 r2 hk (fun z hz => by rw [un_inj hz ud]) (k + 1) 0 part x X (by omega) (by rw [show r + ((k + 1 : Nat) : Int) - 1 = r + (k : Int) by omega]; exact v) ⟨c, q, e, hc⟩ hl rfl
  · by_cases hz : X % (d * 2 ^ (r + 1074).toNat) = 0
    · left
      rw [hz] at ud
      exact un_inj ud un_0
    · right
      have fx := FP.Core.val64_fits (FP.drem x y)
      have w1' : FP.Core.val64 (FP.drem x y) = .fin false c' q' := w1
      rw [w1'] at fx
      obtain ⟨f1, f2, f3, f4⟩ := fx
      have f5 : c' < 2 ^ 53 := f1
      rw [b64_qmin] at f2
      have hdy : 2 ^ G ∣ d * 2 ^ (r + 1074).toNat := Nat.dvd_trans (Nat.pow_dvd_pow 2 (by omega)) (Nat.dvd_mul_left _ _)
      have hge : 2 ^ G ≤ X % (d * 2 ^ (r + 1074).toNat) := Nat.le_of_dvd (by omega) ((Nat.dvd_mod_iff hdy).mpr hD)
      have hlt : X % (d * 2 ^ (r + 1074).toNat) < d * 2 ^ (r + 1074).toNat := Nat.mod_lt _ (Nat.mul_pos (by omega) (Nat.two_pow_pos _))
      unfold FP.Core.inUnits at w2
      rw [b64_qmin, show q' - -1074 = q' + 1074 by omega] at w2
      rw [← w2] at hge hlt
      have g1 : G < 53 + (q' + 1074).toNat := by
        apply pw_lt
        rw [Nat.pow_add]
        exact Nat.lt_of_le_of_lt hge (Nat.mul_lt_mul_of_pos_right f5 (Nat.two_pow_pos _))
      have f6 : 2 ^ 52 ≤ c' := by
        rcases f4 with f4 | f4
        · rw [b64_qmin] at f4; omega
        · exact f4
      have g2 : 52 + (q' + 1074).toNat < 53 + (r + 1074).toNat := by
        apply pw_lt
        rw [Nat.pow_add, Nat.pow_add]
        exact Nat.lt_of_le_of_lt (Nat.mul_le_mul_right _ f6) (Nat.lt_trans hlt (Nat.mul_lt_mul_of_pos_right d2 (Nat.two_pow_pos _)))
      exact ⟨c', q', ⟨w1', f6, f5, by omega, by omega⟩, by omega, by omega⟩
theorem lok : LOK := by
  intro n z n1 n2 z1 z2
  obtain ⟨d, r, e2, d1, d2, r1, r2⟩ := np_tick z1 z2
  have vy : VN (FP.ddiv 4652007308841189376 (FP.i2d (zI z))) d r := ⟨e2, d1, d2, by omega, by omega⟩
  obtain ⟨T, hT⟩ : ∃ T : Nat, T = 1106 := ⟨_, rfl⟩
  obtain ⟨G, hG⟩ : ∃ G : Nat, G = 999 := ⟨_, rfl⟩
  by_cases h0 : n = 0
  · subst h0
    have e0 : FP.i2d (zI 0) = 0 := by decide +kernel
    exact lo_all (X := 0) (by rw [e0]; exact un_0) hT hG (Nat.two_pow_pos _) (Nat.dvd_zero _) vy r1 r2
  · obtain ⟨c, q, e1, c1, c2, q1, q2⟩ := np_i2d (n := n) (by omega) (by omega)
    refine lo_all (X := c * 2 ^ (q + 1074).toNat) ⟨c, q, e1, ?_⟩ hT hG ?_ ?_ vy r1 r2
    · unfold FP.Core.inUnits
      rw [b64_qmin, show q - -1074 = q + 1074 by omega]
    · calc c * 2 ^ (q + 1074).toNat < 2 ^ 53 * 2 ^ (q + 1074).toNat := Nat.mul_lt_mul_of_pos_right c2 (Nat.two_pow_pos _)
        _ = 2 ^ (53 + (q + 1074).toNat) := (Nat.pow_add 2 53 _).symm
        _ ≤ 2 ^ T := Nat.pow_le_pow_right (by decide) (by omega)
    · exact Nat.dvd_trans (Nat.pow_dvd_pow 2 (by omega)) (Nat.dvd_mul_left _ _)
theorem c_astray : ∀ B, HA B := c_astray0 lok
end LOKS
