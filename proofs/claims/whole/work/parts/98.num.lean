/-! ===== jobs are numbered ===== -/
def rl (d : MD) (t : Nat) (T : Int) : Prop := md_ph d t ≤ T ∧ (T - md_ph d t) % md_pe d t = 0
def cn (d : MD) (t : Nat) (T : Int) : Int := (T + md_pe d t - 1 - md_ph d t) / md_pe d t
theorem div_suc {x p : Int} (p1 : 1 ≤ p) : (x + 1) / p = x / p + (if (x + 1) % p = 0 then 1 else 0) := by
  have h1 := Int.mul_ediv_add_emod x p
  have h2 := Int.emod_nonneg x (show p ≠ 0 by omega)
  have h3 := Int.emod_lt_of_pos x (show 0 < p by omega)
  by_cases hc : x % p + 1 = p
  · have u := (Int.ediv_emod_unique (a := x + 1) (b := p) (r := 0) (q := x / p + 1) (by omega)).mpr ⟨by rw [Int.mul_add, Int.mul_one]; omega, by omega, by omega⟩
    rw [u.1, if_pos u.2]
  · have u := (Int.ediv_emod_unique (a := x + 1) (b := p) (r := x % p + 1) (q := x / p) (by omega)).mpr ⟨by omega, by omega, by omega⟩
    rw [u.1, if_neg (by rw [u.2]; omega)]; omega
section NUM
variable {d : MD}
theorem cn_s {t : Nat} {T : Int} (T0 : 0 ≤ T) (p0 : 0 ≤ md_ph d t) (p1 : md_ph d t < md_pe d t) : (rl d t T → cn d t (T + 1) = cn d t T + 1) ∧ (¬ rl d t T → cn d t (T + 1) = cn d t T) := by
  have e1 : T + 1 + md_pe d t - 1 - md_ph d t = (T + md_pe d t - 1 - md_ph d t) + 1 := by omega
  have e2 : cn d t (T + 1) = cn d t T + (if ((T + md_pe d t - 1 - md_ph d t) + 1) % md_pe d t = 0 then 1 else 0) := by
    unfold cn
    rw [e1, div_suc (by omega)]
  have e3 : (T + md_pe d t - 1 - md_ph d t) + 1 = (T - md_ph d t) + md_pe d t := by omega
  rw [e3] at e2
  unfold rl
  by_cases hT : md_ph d t ≤ T
  · have e4 : (T - md_ph d t + md_pe d t) % md_pe d t = (T - md_ph d t) % md_pe d t := Int.add_emod_right _ _
    rw [e4] at e2
    refine ⟨fun q => ?_, fun q => ?_⟩
    · rw [e2, if_pos q.2]
    · rw [e2, if_neg (fun z => q ⟨hT, z⟩), Int.add_zero]
  · have e4 : (T - md_ph d t + md_pe d t) % md_pe d t = T - md_ph d t + md_pe d t := Int.emod_eq_of_lt (by omega) (by omega)
    rw [e4, if_neg (by omega), Int.add_zero] at e2
    exact ⟨fun q => absurd q.1 hT, fun _ => e2⟩
theorem cn_m {t : Nat} {S T : Int} (hST : S ≤ T) (p1 : 1 ≤ md_pe d t) : cn d t S ≤ cn d t T := Int.ediv_le_ediv (by omega) (by omega)
theorem cn_L {t L : Nat} (hd : (md_pe d t).toNat ∣ L) (p0 : 0 ≤ md_ph d t) (p1 : md_ph d t < md_pe d t) : cn d t L = (L : Int) / md_pe d t := by
  obtain ⟨c, hc⟩ := hd
  have e : (L : Int) = md_pe d t * (c : Int) := by
    rw [hc]
    show (((md_pe d t).toNat : Nat) : Int) * (c : Int) = _
    rw [Int.toNat_of_nonneg (by omega)]
  have u := (Int.ediv_emod_unique (a := (L : Int) + md_pe d t - 1 - md_ph d t) (b := md_pe d t) (r := md_pe d t - 1 - md_ph d t) (q := c) (by omega)).mpr ⟨by rw [e]; omega, by omega, by omega⟩
  unfold cn
  rw [u.1, e, Int.mul_ediv_cancel_left _ (by omega)]
def Jc (d : MD) (T : Int) (t : Nat) : Int := sm (md_tk d) (fun u => cn d u (if u < t then T + 1 else T))
/-- numbered up to here -/
def nJI (d : MD) (T t : Nat) (J : Nat) (jt : Nat → Nat) (ja : Nat → Int) : Prop := (J : Int) = Jc d T t ∧ (∀ j, j < J → jt j < md_tk d ∧ 0 ≤ ja j ∧ ja j ≤ T ∧ (ja j = T → jt j < t) ∧ rl d (jt j) (ja j)) ∧ (∀ i j, i < j → j < J → ja i ≤ ja j) ∧ (∀ (t' T' : Nat), t' < md_tk d → rl d t' T' → (T' < T ∨ (T' = T ∧ t' < t)) → ∃ j, j < J ∧ jt j = t' ∧ ja j = T')
def hJ (h : jm_H) (q J : Nat) (jt : Nat → Nat) (ja : Nat → Int) : Prop := h.1 2 q 3 = zI J ∧ ∀ j, j < J → h.1 26 q j = zI (jt j) ∧ h.1 27 q j = zI (ja j)
def gJ (g : jm_H) (m J : Nat) (jt : Nat → Nat) (ja : Nat → Int) : Prop := g.1 42 0 m = zI J ∧ ∀ j, j < J → g.1 43 0 (24 * m + j) = zI (jt j) ∧ g.1 44 0 (24 * m + j) = zI (ja j)
def cNh (q : Nat) : Nat → Nat → Nat → Prop := fun K i j => ((K = 2 ∧ j = 3) ∨ K = 26 ∨ K = 27) ∧ i = q
def cNg (m : Nat) : Nat → Nat → Nat → Prop := fun K _ j => (K = 42 ∧ j = m) ∨ ((K = 43 ∨ K = 44) ∧ 24 * m ≤ j ∧ j < 24 * m + 24)
def upN (f : Nat → Nat) (i v : Nat) : Nat → Nat := fun k => if k = i then v else f k
theorem num_i (W : wfD d) (ht0 : 0 < md_tk d) {T : Nat} (hT : T < md_L d) : ∀ (e t J : Nat) (jt : Nat → Nat) (ja : Nat → Int), t + e = md_tk d → nJI d T t J jt ja → ∃ J' jt' ja', nJI d (T + 1) 0 J' jt' ja' ∧ (∀ h q, drC1 h q d → hJ h q J jt ja → ∃ h', hJ h' q J' jt' ja' ∧ Ch (cNh q) h h' ∧ ∀ r, l_Mode_numberJobs_5 q (zI T + 1) h' r → l_Mode_numberJobs_11 q (zI T) (zI t) h r) ∧ (∀ g m, m < 3 → drR1 g m d → gJ g m J jt ja → ∃ g', gJ g' m J' jt' ja' ∧ Ch (cNg m) g g' ∧ ∀ r, l_M_findsJobs_7 (zI m) (zI T + 1) g' r → l_M_findsJobs_15 (zI m) (zI T) (zI t) g r) := by
  obtain ⟨w1, w2, w3, w4, w5, w6, w7⟩ := W
  -- never more than there is room for
  have most : ∀ (T' : Int) (t : Nat), T' + 1 ≤ md_L d → Jc d T' t ≤ 24 := fun T' t hT' => by
    have h1 : Jc d T' t ≤ jbs (md_pe d) (md_L d) (md_tk d) := sm_le (fun u hu => by
      have wu := w6 u hu
      have h2 := cn_L (d := d) (t := u) (L := md_L d) (LCf_p hu) wu.1.1 wu.1.2
      have h3 := cn_m (d := d) (t := u) (S := if u < t then T' + 1 else T') (T := (md_L d : Int)) (by split <;> omega) (by omega)
      rw [← h2]; exact h3)
    omega
  intro e
  induction e with
  | zero =>
    intro t J jt ja et N
    have et' : t = md_tk d := by omega
    subst et'
    obtain ⟨n1, n2, n3, n4⟩ := N
    refine ⟨J, jt, ja, ⟨?_, fun j hj => ?_, n3, fun t' T' h1 h2 h3 => n4 t' T' h1 h2 (by omega)⟩, fun h q D H => ⟨h, H, Ch.rf h, fun r hr => wp_Mode_numberJobs_11 ⟨fun _ => hr, fun hc => ?_⟩⟩, fun g m hm D H => ⟨g, H, Ch.rf g, fun r hr => wp_M_findsJobs_15 ⟨zI_in (by omega) (by omega) (by omega), fun _ => hr, fun hc => ?_⟩⟩⟩
    · rw [n1]
      unfold Jc
      exact sm_congr (fun u hu => by rw [if_pos hu, if_neg (by omega)]; rfl)
    · obtain ⟨a1, a2, a3, a4, a5⟩ := n2 j hj
      exact ⟨a1, a2, by omega, fun x => by omega, a5⟩
    · rw [D.2.2.1, zI_le (by omega) (by omega) (by omega) (by omega)] at hc; omega
    · rw [zI_cn (by omega), D.2.2.1, zI_le (by omega) (by omega) (by omega) (by omega)] at hc; omega
  | succ e ih =>
    intro t J jt ja et N
    have ht : t < md_tk d := by omega
    have wt := w6 t ht
    have N' := N
    obtain ⟨n1, n2, n3, n4⟩ := N
    have m1 := most T t (by omega)
    have m2 := most T (t + 1) (by omega)
    have jn : 0 ≤ (J : Int) := by omega
    have up1 : Jc d T (t + 1) = Jc d T t + (cn d t ((T : Int) + 1) - cn d t T) := by
      unfold Jc
      rw [sm_up (n := md_tk d) (i := t) (f := fun u => cn d u (if u < t then (T : Int) + 1 else T)) (g := fun u => cn d u (if u < t + 1 then (T : Int) + 1 else T)) ht (fun k hk hne => by
        by_cases hlt : k < t
        · rw [if_pos hlt, if_pos (by omega)]
        · rw [if_neg hlt, if_neg (by omega)])]
      rw [if_pos (by omega), if_neg (by omega)]
    have cs := cn_s (d := d) (t := t) (T := (T : Int)) (by omega) wt.1.1 wt.1.2
    have tin : (zI (t : Int)).toNatClampNeg = t := zI_cn (by omega)
    by_cases hr : rl d t T
    · have J24 : J < 24 := by
        have := cs.1 hr
        omega
      have N2 : nJI d T (t + 1) (J + 1) (upN jt J t) (up ja J T) := by
        have aU : ∀ j, j ≠ J → upN jt J t j = jt j := fun j hj => if_neg hj
        have aE : upN jt J t J = t := if_pos rfl
        refine ⟨?_, fun j hj => ?_, fun i j hij hj => ?_, fun t' T' h1 h2 h3 => ?_⟩
        · rw [up1, cs.1 hr, ← n1]; omega
        · by_cases ej : j = J
          · rw [ej, aE, up_eq]
            exact ⟨ht, by omega, by omega, fun _ => by omega, hr⟩
          · rw [aU j ej, up_ne ej]
            obtain ⟨a1, a2, a3, a4, a5⟩ := n2 j (by omega)
            exact ⟨a1, a2, a3, fun x => by have := a4 x; omega, a5⟩
        · by_cases ej : j = J
          · rw [ej, up_eq, up_ne (by omega)]
            exact (n2 i (by omega)).2.2.1
          · rw [up_ne ej, up_ne (by omega)]
            exact n3 i j hij (by omega)
        · by_cases hq : T' = T ∧ t' = t
          · exact ⟨J, by omega, by rw [aE, hq.2], by rw [up_eq, hq.1]⟩
          · obtain ⟨j, j1, j2, j3⟩ := n4 t' T' h1 h2 (by omega)
            exact ⟨j, by omega, by rw [aU j (by omega)]; exact j2, by rw [up_ne (by omega)]; exact j3⟩
      obtain ⟨J', jt', ja', M1, M2, M3⟩ := ih (t + 1) (J + 1) (upN jt J t) (up ja J T) (by omega) N2
      refine ⟨J', jt', ja', M1, fun h q D H => ?_, fun g m hm D H => ?_⟩
      · obtain ⟨k, ek⟩ : ∃ k, k = jm_sI (jm_sI (jm_sI h 26 q J (zI t)) 27 q J (zI T)) 2 q 3 (zI ((J + 1 : Nat) : Int)) := ⟨_, rfl⟩
        have ck : Ch (cNh q) h k := by
          rw [ek]
          exact ((Ch.sI (by unfold cNh; omega)).tr (Ch.sI (by unfold cNh; omega))).tr (Ch.sI (by unfold cNh; omega))
        have Hk : hJ k q (J + 1) (upN jt J t) (up ja J T) := by
          refine ⟨by rw [ek, sI_eq], fun j hj => ?_⟩
          by_cases ej : j = J
          · rw [ej, up_eq, show upN jt J t J = t from if_pos rfl, ek, sI_ne (by omega), sI_ne (by omega), sI_eq, sI_ne (by omega), sI_eq]; exact ⟨rfl, rfl⟩
          · rw [up_ne ej, show upN jt J t j = jt j from if_neg ej, ek, sI_ne (by omega), sI_ne (by omega), sI_ne (by omega), sI_ne (by omega), sI_ne (by omega), sI_ne (by omega)]; exact H.2 j (by omega)
        have Dk : drC1 k q d := by
          obtain ⟨v1, v2, v3, v4, v5⟩ := D
          refine ⟨?_, ?_, ?_, ?_, fun u hu => ?_⟩
          · rw [ck.at (by unfold cNh; omega)]; exact v1
          · rw [ck.at (by unfold cNh; omega)]; exact v2
          · rw [ck.at (by unfold cNh; omega)]; exact v3
          · rw [ck.at (by unfold cNh; omega)]; exact v4
          · rw [ck.at (by unfold cNh; omega), ck.at (by unfold cNh; omega), ck.at (by unfold cNh; omega), ck.at (by unfold cNh; omega)]; exact v5 u hu
        obtain ⟨h', p1, p2, p3⟩ := M2 k q Dk Hk
        have Dt := D.2.2.2.2 t ht
        have isR : m_Mode_isReleased q (zI t) (zI T) h 1 h := by
          refine wp_Mode_isReleased ⟨zI_in (by omega) (by omega) (by omega), fun hc => ?_, fun _ => ⟨zI_in (by omega) (by omega) (by omega), fun hc => ?_, fun _ => ⟨zI_in (by omega) (by omega) (by omega), zI_in (by omega) (by omega) (by omega), ?_, fun _ => rfl, fun hc => ?_⟩⟩⟩
          · rw [tin, Dt.1, zI_lt (by omega) (by omega) (by omega) (by omega)] at hc
            have := hr.1; omega
          · rw [tin, Dt.2.1, zl_0, zI_le (by omega) (by omega) (by omega) (by omega)] at hc; omega
          · rw [tin, Dt.2.1, zl_0, zI_eq (by omega) (by omega) (by omega) (by omega)]; omega
          · have := hr.1
            rw [tin, Dt.1, Dt.2.1, zI_sub, zI_rem (by omega) (by omega) (by omega) (by omega), hr.2] at hc; exact absurd rfl hc
        refine ⟨h', p1, ck.tr p2, fun r hr' => wp_Mode_numberJobs_11 ⟨fun hc => ?_, fun _ => ⟨1, h, isR, fun hc => absurd hc (by decide), fun _ => ⟨fun hc => ?_, fun _ => ⟨by rw [H.1]; exact zI_in (by omega) (by omega) (by omega), by rw [H.1]; exact zI_in (by omega) (by omega) (by omega), ?_⟩⟩⟩⟩⟩
        · rw [D.2.2.1, zI_le (by omega) (by omega) (by omega) (by omega)] at hc; omega
        · rw [H.1, zl_24, zI_le (by omega) (by omega) (by omega) (by omega)] at hc; omega
        · rw [H.1, zI_cn (by omega), e_p1, e_p1, ← ek]; exact p3 r hr'
      · obtain ⟨k, ek⟩ : ∃ k, k = jm_sI (jm_sI (jm_sI g 43 0 (24 * m + J) (zI t)) 44 0 (24 * m + J) (zI T)) 42 0 m (zI ((J + 1 : Nat) : Int)) := ⟨_, rfl⟩
        have ck : Ch (cNg m) g k := by
          rw [ek]
          exact ((Ch.sI (by unfold cNg; omega)).tr (Ch.sI (by unfold cNg; omega))).tr (Ch.sI (by unfold cNg; omega))
        have Hk : gJ k m (J + 1) (upN jt J t) (up ja J T) := by
          refine ⟨by rw [ek, sI_eq], fun j hj => ?_⟩
          by_cases ej : j = J
          · rw [ej, up_eq, show upN jt J t J = t from if_pos rfl, ek, sI_ne (by omega), sI_ne (by omega), sI_eq, sI_ne (by omega), sI_eq]; exact ⟨rfl, rfl⟩
          · rw [up_ne ej, show upN jt J t j = jt j from if_neg ej, ek, sI_ne (by omega), sI_ne (by omega), sI_ne (by omega), sI_ne (by omega), sI_ne (by omega), sI_ne (by omega)]; exact H.2 j (by omega)
        obtain ⟨g', p1, p2, p3⟩ := M3 k m hm (D.chg w3 (fun K j hK => ck.at (by unfold cNg; omega))) Hk
        have Dt := D.2.2.2.2 t ht
        have e6 : (6 * zI (m : Int)) + zI (t : Int) = zI ((6 * m + t : Nat) : Int) := by rw [zl_6, zI_mul, zI_add]; rfl
        have em : (zI (m : Int)).toNatClampNeg = m := zI_cn (by omega)
        have e24 : (24 * zI (m : Int)) + (g.1 42 0 (zI (m : Int)).toNatClampNeg) = zI ((24 * m + J : Nat) : Int) := by rw [em, H.1, zl_24, zI_mul, zI_add]; rfl
        refine ⟨g', p1, ck.tr p2, fun r hr' => wp_M_findsJobs_15 ⟨zI_in (by omega) (by omega) (by omega), fun hc => ?_, fun _ => ⟨by rw [e6]; exact zI_in (by omega) (by omega) (by omega), fun hc => ?_, fun _ => ⟨by rw [e6]; exact zI_in (by omega) (by omega) (by omega), by rw [e6]; exact zI_in (by omega) (by omega) (by omega), ?_, fun _ => ⟨zI_in (by omega) (by omega) (by omega), by rw [e24]; exact zI_in (by omega) (by omega) (by omega), zI_in (by omega) (by omega) (by omega), by rw [e24]; exact zI_in (by omega) (by omega) (by omega), zI_in (by omega) (by omega) (by omega), zI_in (by omega) (by omega) (by omega), ?_⟩, fun hc => ?_⟩⟩⟩⟩
        · rw [em, D.2.2.1, zI_le (by omega) (by omega) (by omega) (by omega)] at hc; omega
        · rw [e6, zI_cn (by omega), Dt.1, zI_lt (by omega) (by omega) (by omega) (by omega)] at hc
          have := hr.1; omega
        · rw [e6, zI_cn (by omega), Dt.2.1, zl_0, zI_eq (by omega) (by omega) (by omega) (by omega)]; omega
        · rw [e24, zI_cn (by omega), em, H.1, e_p1, e_p1, ← ek]; exact p3 r hr'
        · have := hr.1
          rw [e6, zI_cn (by omega), Dt.1, Dt.2.1, zI_sub, zI_rem (by omega) (by omega) (by omega) (by omega), hr.2] at hc; exact absurd rfl hc
    · have N2 : nJI d T (t + 1) J jt ja := by
        refine ⟨by rw [up1, cs.2 hr, ← n1]; omega, fun j hj => ?_, n3, fun t' T' h1 h2 h3 => ?_⟩
        · obtain ⟨a1, a2, a3, a4, a5⟩ := n2 j hj
          exact ⟨a1, a2, a3, fun x => by have := a4 x; omega, a5⟩
        · by_cases hq : T' = T ∧ t' = t
          · rw [hq.1, hq.2] at h2; exact absurd h2 hr
          · exact n4 t' T' h1 h2 (by omega)
      obtain ⟨J', jt', ja', M1, M2, M3⟩ := ih (t + 1) J jt ja (by omega) N2
      refine ⟨J', jt', ja', M1, fun h q D H => ?_, fun g m hm D H => ?_⟩
      · obtain ⟨h', p1, p2, p3⟩ := M2 h q D H
        have Dt := D.2.2.2.2 t ht
        have isR : m_Mode_isReleased q (zI t) (zI T) h 0 h := by
          refine wp_Mode_isReleased ⟨zI_in (by omega) (by omega) (by omega), fun _ => rfl, fun hc => ⟨zI_in (by omega) (by omega) (by omega), fun _ => rfl, fun _ => ⟨zI_in (by omega) (by omega) (by omega), zI_in (by omega) (by omega) (by omega), ?_, fun hc2 => ?_, fun _ => rfl⟩⟩⟩
          · rw [tin, Dt.2.1, zl_0, zI_eq (by omega) (by omega) (by omega) (by omega)]; omega
          · rw [tin, Dt.1, zI_lt (by omega) (by omega) (by omega) (by omega)] at hc
            have h0 := Int.emod_nonneg ((T : Int) - md_ph d t) (show md_pe d t ≠ 0 by omega)
            have h1 := Int.emod_lt_of_pos ((T : Int) - md_ph d t) (show 0 < md_pe d t by omega)
            rw [tin, Dt.1, Dt.2.1, zI_sub, zI_rem (by omega) (by omega) (by omega) (by omega), zl_0, zI_eq (by omega) (by omega) (by omega) (by omega)] at hc2
            exact absurd ⟨by omega, hc2⟩ hr
        refine ⟨h', p1, p2, fun r hr' => wp_Mode_numberJobs_11 ⟨fun hc => ?_, fun _ => ⟨0, h, isR, fun _ => by rw [e_p1]; exact p3 r hr', fun hc => absurd rfl hc⟩⟩⟩
        rw [D.2.2.1, zI_le (by omega) (by omega) (by omega) (by omega)] at hc; omega
      · obtain ⟨g', p1, p2, p3⟩ := M3 g m hm D H
        have Dt := D.2.2.2.2 t ht
        have e6 : (6 * zI (m : Int)) + zI (t : Int) = zI ((6 * m + t : Nat) : Int) := by rw [zl_6, zI_mul, zI_add]; rfl
        refine ⟨g', p1, p2, fun r hr' => wp_M_findsJobs_15 ⟨zI_in (by omega) (by omega) (by omega), fun hc => ?_, fun _ => ⟨by rw [e6]; exact zI_in (by omega) (by omega) (by omega), fun _ => by rw [e_p1]; exact p3 r hr', fun hc => ⟨by rw [e6]; exact zI_in (by omega) (by omega) (by omega), by rw [e6]; exact zI_in (by omega) (by omega) (by omega), ?_, fun hc2 => ?_, fun _ => by rw [e_p1]; exact p3 r hr'⟩⟩⟩⟩
        · rw [zI_cn (by omega), D.2.2.1, zI_le (by omega) (by omega) (by omega) (by omega)] at hc; omega
        · rw [e6, zI_cn (by omega), Dt.2.1, zl_0, zI_eq (by omega) (by omega) (by omega) (by omega)]; omega
        · rw [e6, zI_cn (by omega), Dt.1, zI_lt (by omega) (by omega) (by omega) (by omega)] at hc
          have h0 := Int.emod_nonneg ((T : Int) - md_ph d t) (show md_pe d t ≠ 0 by omega)
          have h1 := Int.emod_lt_of_pos ((T : Int) - md_ph d t) (show 0 < md_pe d t by omega)
          rw [e6, zI_cn (by omega), Dt.1, Dt.2.1, zI_sub, zI_rem (by omega) (by omega) (by omega) (by omega), zl_0, zI_eq (by omega) (by omega) (by omega) (by omega)] at hc2
          exact absurd ⟨by omega, hc2⟩ hr
end NUM
