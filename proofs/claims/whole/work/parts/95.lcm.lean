/-! ===== rounds ===== -/
def LCf (pe : Nat → Int) : Nat → Nat
  | 0 => 1
  | t + 1 => Nat.lcm (LCf pe t) (pe t).toNat
theorem LCf_s (pe : Nat → Int) (t : Nat) : LCf pe (t + 1) = Nat.lcm (LCf pe t) (pe t).toNat := rfl
theorem lcm_q (a b : Nat) : a / Nat.gcd a b * b = Nat.lcm a b := by
  rw [Nat.div_mul_right_comm (Nat.gcd_dvd_left a b)]; rfl
theorem LCf_pos {pe : Nat → Int} : ∀ t : Nat, (∀ i, i < t → 1 ≤ pe i) → 0 < LCf pe t := by
  intro t
  induction t with
  | zero => intro _; show 0 < 1; omega
  | succ t ih =>
    intro H
    have h1 := ih (fun i hi => H i (by omega))
    have h2 := H t (by omega)
    rw [LCf_s]; exact Nat.lcm_pos h1 (by omega)
theorem LCf_dvd {pe : Nat → Int} {t : Nat} : ∀ u : Nat, t ≤ u → LCf pe t ∣ LCf pe u := by
  intro u
  induction u with
  | zero => intro h; rw [show t = 0 by omega]; exact Nat.dvd_refl _
  | succ u ih =>
    intro h
    by_cases e : t = u + 1
    · rw [e]; exact Nat.dvd_refl _
    · rw [LCf_s]; exact Nat.dvd_trans (ih (by omega)) (Nat.dvd_lcm_left _ _)
theorem LCf_p {pe : Nat → Int} {t u : Nat} (h : t < u) : (pe t).toNat ∣ LCf pe u := Nat.dvd_trans (by rw [LCf_s]; exact Nat.dvd_lcm_right _ _) (LCf_dvd (pe := pe) (t := t + 1) u h)
theorem LCf_cg {pe pe' : Nat → Int} : ∀ t : Nat, (∀ i, i < t → pe i = pe' i) → LCf pe t = LCf pe' t := by
  intro t
  induction t with
  | zero => intro _; rfl
  | succ t ih =>
    intro H
    rw [LCf_s, LCf_s, ih (fun i hi => H i (by omega)), H t (by omega)]
/-- how many jobs -/
def jbs (pe : Nat → Int) (L : Nat) (n : Nat) : Int := sm n (fun t => (L : Int) / pe t)
theorem jbs_b {pe : Nat → Int} {L : Nat} (hL : L ≤ 6000) : ∀ n : Nat, n ≤ 6 → (∀ i, i < n → 1 ≤ pe i) → 0 ≤ jbs pe L n ∧ jbs pe L n ≤ 6000 * n := by
  intro n
  induction n with
  | zero => intro _ _; exact ⟨Int.le_refl _, Int.le_refl _⟩
  | succ n ih =>
    intro hn H
    have h1 := ih (by omega) (fun i hi => H i (by omega))
    have h2 := div_b (a := (L : Int)) (g := pe n) (by omega) (H n (by omega))
    have e : jbs pe L (n + 1) = jbs pe L n + (L : Int) / pe n := rfl
    rw [e]; omega
section LCMS
variable {h g : jm_H}
theorem s_comW {o L : Nat} {p : Int} (e4 : h.1 2 o 4 = zI L) (L1 : 1 ≤ L) (L2 : L ≤ 96) (p1 : 1 ≤ p) (p2 : p ≤ 60) : m_Mode_commonWith o (zI p) h (zI (Nat.lcm L p.toNat : Nat)) h := by
  obtain ⟨q, rfl⟩ : ∃ q : Nat, p = q := ⟨p.toNat, by omega⟩
  have g1 : 0 < Nat.gcd L q := Nat.gcd_pos_of_pos_left _ (by omega)
  have g2 : Nat.gcd L q ≤ L := Nat.gcd_le_left _ (by omega)
  refine wp_Mode_commonWith ⟨_, h, by rw [e4]; exact s_cdiv (by omega) (by omega), fun hc => ?_, fun _ => ⟨?_, ?_⟩⟩
  · rw [zl_0, zI_le (by omega) (by omega) (by omega) (by omega)] at hc; omega
  · rw [zl_0, zI_eq (by omega) (by omega) (by omega) (by omega)]; omega
  · rw [e4, zI_div (by omega) (by omega) (by omega) (by omega), zI_mul, show (q : Int).toNat = q from rfl, ← lcm_q L q]
    rw [show ((L : Int) / (Nat.gcd L q : Int)) * (q : Int) = ((L / Nat.gcd L q * q : Nat) : Int) from rfl]
theorem s_jobW {o T L : Nat} {pe : Nat → Int} {p : Int} (e2 : h.1 2 o 2 = zI T) (T6 : T ≤ 6) (e23 : ∀ t, t < T → h.1 23 o t = zI (pe t)) (pb : ∀ t, t < T → 1 ≤ pe t ∧ pe t ≤ 60) (L2 : L ≤ 6000) : ∀ (e n : Nat) (w : Int), n + e = T → l_Mode_jobsWith_14 o (zI L) (zI (w + jbs pe L n)) (zI n) h (some (jm_i (zI (w + jbs pe L T))), h) := by
  intro e
  induction e with
  | zero =>
    intro n w en
    have en' : n = T := by omega
    subst en'
    refine wp_Mode_jobsWith_14 ⟨fun _ => rfl, fun hc => ?_⟩
    rw [e2, zI_le (by omega) (by omega) (by omega) (by omega)] at hc; omega
  | succ e ih =>
    intro n w en
    have b := pb n (by omega)
    have q := ih (n + 1) w (by omega)
    have ej : jbs pe L (n + 1) = jbs pe L n + (L : Int) / pe n := rfl
    have en' : (zI (n : Int)).toNatClampNeg = n := zI_cn (by omega)
    refine wp_Mode_jobsWith_14 ⟨fun hc => ?_, fun _ => ⟨zI_in (by omega) (by omega) (by omega), fun hc => ?_, fun _ => ⟨zI_in (by omega) (by omega) (by omega), ?_, ?_⟩⟩⟩
    · rw [e2, zI_le (by omega) (by omega) (by omega) (by omega)] at hc; omega
    · rw [en', e23 n (by omega), zl_0, zI_le (by omega) (by omega) (by omega) (by omega)] at hc; omega
    · rw [en', e23 n (by omega), zl_0, zI_eq (by omega) (by omega) (by omega) (by omega)]; omega
    · rw [en', e23 n (by omega), zI_div (by omega) (by omega) (by omega) (by omega), zI_add, e_p1, show w + jbs pe L n + (L : Int) / pe n = w + jbs pe L (n + 1) by rw [ej]; omega]; exact q
theorem s_jobWM {i T L : Nat} {pe : Nat → Int} (hi : i < 6) (e36 : g.1 36 0 i = zI T) (T6 : T ≤ 6) (e39 : ∀ t, t < T → g.1 39 0 (6 * i + t) = zI (pe t)) (pb : ∀ t, t < T → 1 ≤ pe t ∧ pe t ≤ 60) (L2 : L ≤ 6000) : ∀ (e n : Nat) (w : Int), n + e = T → l_M_jobsWith_6 (zI i) (zI L) (zI (w + jbs pe L n)) (zI n) g (some (jm_i (zI (w + jbs pe L T))), g) := by
  intro e
  induction e with
  | zero =>
    intro n w en
    have en' : n = T := by omega
    subst en'
    refine wp_M_jobsWith_6 ⟨zI_in (by omega) (by omega) (by omega), fun _ => rfl, fun hc => ?_⟩
    rw [zI_cn (by omega), e36, zI_le (by omega) (by omega) (by omega) (by omega)] at hc; omega
  | succ e ih =>
    intro n w en
    have b := pb n (by omega)
    have q := ih (n + 1) w (by omega)
    have ej : jbs pe L (n + 1) = jbs pe L n + (L : Int) / pe n := rfl
    have e6 : (6 * zI (i : Int)) + zI (n : Int) = zI ((6 * i + n : Nat) : Int) := by rw [zl_6, zI_mul, zI_add]; rfl
    refine wp_M_jobsWith_6 ⟨zI_in (by omega) (by omega) (by omega), fun hc => ?_, fun _ => ⟨by rw [e6]; exact zI_in (by omega) (by omega) (by omega), ?_, ?_⟩⟩
    · rw [zI_cn (by omega), e36, zI_le (by omega) (by omega) (by omega) (by omega)] at hc; omega
    · rw [e6, zI_cn (by omega), e39 n (by omega), zl_0, zI_eq (by omega) (by omega) (by omega) (by omega)]; omega
    · rw [e6, zI_cn (by omega), e39 n (by omega), zI_div (by omega) (by omega) (by omega) (by omega), zI_add, e_p1, show w + jbs pe L n + (L : Int) / pe n = w + jbs pe L (n + 1) by rw [ej]; omega]; exact q
theorem s_rndW {i T : Nat} {pe : Nat → Int} {p : Int} (hi : i < 6) (e36 : g.1 36 0 i = zI T) (T6 : T ≤ 6) (e39 : ∀ t, t < T → g.1 39 0 (6 * i + t) = zI (pe t)) (pb : ∀ t, t < T → 1 ≤ pe t ∧ pe t ≤ 60) (L2 : LCf pe T ≤ 96) (p1 : 1 ≤ p) (p2 : p ≤ 60) : ∀ (e n : Nat), n + e = T → l_M_roundWith_4 (zI i) (zI (Nat.lcm (LCf pe n) p.toNat : Nat)) (zI n) g (some (jm_i (zI (Nat.lcm (LCf pe T) p.toNat : Nat))), g) := by
  have lb : ∀ n, n ≤ T → 0 < Nat.lcm (LCf pe n) p.toNat ∧ Nat.lcm (LCf pe n) p.toNat ≤ 6000 := fun n hn => by
    have h1 := LCf_pos (pe := pe) n (fun i hi => (pb i (by omega)).1)
    have h2 : LCf pe n ≤ LCf pe T := Nat.le_of_dvd (LCf_pos (pe := pe) T (fun i hi => (pb i hi).1)) (LCf_dvd T hn)
    have h3 := Nat.lcm_le_mul h1 (show 0 < p.toNat by omega)
    have h4 : LCf pe n * p.toNat ≤ 96 * 60 := Nat.mul_le_mul (by omega) (by omega)
    exact ⟨Nat.lcm_pos h1 (by omega), by omega⟩
  intro e
  induction e with
  | zero =>
    intro n en
    have en' : n = T := by omega
    subst en'
    refine wp_M_roundWith_4 ⟨zI_in (by omega) (by omega) (by omega), fun _ => rfl, fun hc => ?_⟩
    rw [zI_cn (by omega), e36, zI_le (by omega) (by omega) (by omega) (by omega)] at hc; omega
  | succ e ih =>
    intro n en
    have b := pb n (by omega)
    have q := ih (n + 1) (by omega)
    have l1 := lb n (by omega)
    obtain ⟨u, eu⟩ : ∃ u : Nat, pe n = u := ⟨(pe n).toNat, by omega⟩
    obtain ⟨A, eA⟩ : ∃ A : Nat, A = Nat.lcm (LCf pe n) p.toNat := ⟨_, rfl⟩
    have e6 : (6 * zI (i : Int)) + zI (n : Int) = zI ((6 * i + n : Nat) : Int) := by rw [zl_6, zI_mul, zI_add]; rfl
    have g1 : 0 < Nat.gcd A u := Nat.gcd_pos_of_pos_left _ (by omega)
    have g2 : Nat.gcd A u ≤ A := Nat.gcd_le_left _ (by omega)
    have nxt : Nat.lcm (LCf pe (n + 1)) p.toNat = A / Nat.gcd A u * u := by
      rw [lcm_q A u, eA, LCf_s, eu, show (u : Int).toNat = u from rfl, Nat.lcm_assoc, Nat.lcm_assoc, Nat.lcm_comm u]
    rw [← eA] at l1 ⊢
    refine wp_M_roundWith_4 ⟨zI_in (by omega) (by omega) (by omega), fun hc => ?_, fun _ => ⟨by rw [e6]; exact zI_in (by omega) (by omega) (by omega), zI (Nat.gcd A u : Nat), g, ?_, ?_, by rw [e6]; exact zI_in (by omega) (by omega) (by omega), ?_⟩⟩
    · rw [zI_cn (by omega), e36, zI_le (by omega) (by omega) (by omega) (by omega)] at hc; omega
    · rw [e6, zI_cn (by omega), e39 n (by omega), eu]; exact s_common (by omega) (by omega)
    · rw [zl_0, zI_eq (by omega) (by omega) (by omega) (by omega)]; omega
    · rw [e6, zI_cn (by omega), e39 n (by omega), eu, zI_div (by omega) (by omega) (by omega) (by omega), zI_mul, e_p1]
      rw [nxt] at q
      exact q
end LCMS
