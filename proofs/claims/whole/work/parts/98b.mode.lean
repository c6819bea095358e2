/-! ===== modes as read, whole ===== -/
def dF (d : MD) (J : Nat) (jt : Nat → Nat) (ja : Nat → Int) : MD := (d.1, (md_tk d, J), d.2.2.1, (jt, ja))
section MODEF
variable {d : MD}
theorem num_o (W : wfD d) (ht0 : 0 < md_tk d) : ∀ (e T J : Nat) (jt : Nat → Nat) (ja : Nat → Int), T + e = md_L d → nJI d T 0 J jt ja → ∃ J' jt' ja', nJI d (md_L d) 0 J' jt' ja' ∧ (∀ h q, drC1 h q d → hJ h q J jt ja → ∃ h', l_Mode_numberJobs_5 q (zI T) h (none, h') ∧ hJ h' q J' jt' ja' ∧ Ch (cNh q) h h') ∧ (∀ g m, m < 3 → drR1 g m d → gJ g m J jt ja → ∃ g', l_M_findsJobs_7 (zI m) (zI T) g (none, g') ∧ gJ g' m J' jt' ja' ∧ Ch (cNg m) g g') := by
  have w4 := W.2.2.2.1
  have w5 := W.2.2.2.2.1
  rw [if_neg (by omega)] at w5
  intro e
  induction e with
  | zero =>
    intro T J jt ja eT N
    have eT' : T = md_L d := by omega
    rw [eT'] at N
    refine ⟨J, jt, ja, N, fun h q D H => ⟨h, wp_Mode_numberJobs_5 ⟨fun _ => rfl, fun hc => ?_⟩, H, Ch.rf h⟩, fun g m hm D H => ⟨g, wp_M_findsJobs_7 ⟨zI_in (by omega) (by omega) (by omega), fun _ => rfl, fun hc => ?_⟩, H, Ch.rf g⟩⟩
    · rw [D.2.2.2.1, zI_le (by omega) (by omega) (by omega) (by omega)] at hc; omega
    · rw [zI_cn (by omega), D.2.2.2.1, w5, zI_le (by omega) (by omega) (by omega) (by omega)] at hc; omega
  | succ e ih =>
    intro T J jt ja eT N
    obtain ⟨J1, jt1, ja1, M1, M2, M3⟩ := num_i W ht0 (T := T) (by omega) (md_tk d) 0 J jt ja (by omega) N
    obtain ⟨J', jt', ja', O1, O2, O3⟩ := ih (T + 1) J1 jt1 ja1 (by omega) M1
    refine ⟨J', jt', ja', O1, fun h q D H => ?_, fun g m hm D H => ?_⟩
    · obtain ⟨h1, p1, p2, p3⟩ := M2 h q D H
      have D1 : drC1 h1 q d := by
        obtain ⟨v1, v2, v3, v4, v5⟩ := D
        refine ⟨?_, ?_, ?_, ?_, fun u hu => ?_⟩
        · rw [p2.at (by unfold cNh; omega)]; exact v1
        · rw [p2.at (by unfold cNh; omega)]; exact v2
        · rw [p2.at (by unfold cNh; omega)]; exact v3
        · rw [p2.at (by unfold cNh; omega)]; exact v4
        · rw [p2.at (by unfold cNh; omega), p2.at (by unfold cNh; omega), p2.at (by unfold cNh; omega), p2.at (by unfold cNh; omega)]; exact v5 u hu
      obtain ⟨h', r1, r2, r3⟩ := O2 h1 q D1 p1
      refine ⟨h', wp_Mode_numberJobs_5 ⟨fun hc => ?_, fun _ => p3 _ (by rw [e_p1]; exact r1)⟩, r2, p2.tr r3⟩
      rw [D.2.2.2.1, zI_le (by omega) (by omega) (by omega) (by omega)] at hc; omega
    · obtain ⟨g1, p1, p2, p3⟩ := M3 g m hm D H
      obtain ⟨g', r1, r2, r3⟩ := O3 g1 m hm (D.chg W.2.2.1 (fun K j hK => p2.at (by unfold cNg; omega))) p1
      refine ⟨g', wp_M_findsJobs_7 ⟨zI_in (by omega) (by omega) (by omega), fun hc => ?_, fun _ => p3 _ (by rw [e_p1]; exact r1)⟩, r2, p2.tr r3⟩
      rw [zI_cn (by omega), D.2.2.2.1, w5, zI_le (by omega) (by omega) (by omega) (by omega)] at hc; omega
theorem s_fj0 {m : Nat} (hm : m < 3) {F : Int} (F1 : F ≤ 1000) : ∀ (e T : Nat) (g : jm_H), (T : Int) + e = F → g.1 36 0 m = 0 → g.1 37 0 m = zI F → l_M_findsJobs_7 (zI m) (zI T) g (none, g) := by
  intro e
  induction e with
  | zero =>
    intro T g eT e36 e37
    refine wp_M_findsJobs_7 ⟨zI_in (by omega) (by omega) (by omega), fun _ => rfl, fun hc => ?_⟩
    rw [zI_cn (by omega), e37, zI_le (by omega) (by omega) (by omega) (by omega)] at hc; omega
  | succ e ih =>
    intro T g eT e36 e37
    have q := ih (T + 1) g (by omega) e36 e37
    refine wp_M_findsJobs_7 ⟨zI_in (by omega) (by omega) (by omega), fun hc => ?_, fun _ => wp_M_findsJobs_15 ⟨zI_in (by omega) (by omega) (by omega), fun _ => by rw [e_p1]; exact q, fun hc => ?_⟩⟩
    · rfl
    · rw [zI_cn (by omega), e36] at hc; exact absurd (by decide) hc
theorem num_ex (W : wfD d) : ∃ J jt ja, WFm (dF d J jt ja) ∧ (∀ h q, drC1 h q d → ∃ h', m_Mode_numberJobs q h h' ∧ vF h' q (dF d J jt ja) ∧ Ch (cNh q) h h') ∧ (∀ g m, m < 3 → drR1 g m d → ∃ g', m_M_findsJobs (zI m) g g' ∧ vM g' m (dF d J jt ja) ∧ Ch (cNg m) g g') := by
  have W' := W
  obtain ⟨w1, w2, w3, w4, w5, w6, w7⟩ := W
  by_cases h0 : md_tk d = 0
  · rw [if_pos h0] at w5
    have eL : md_L d = 1 := by unfold md_L; rw [h0]; rfl
    refine ⟨0, (fun _ => 0), (fun _ => 0), ⟨w1, w2, by show 1 ≤ md_rd d ∧ md_rd d ≤ 96; omega, w3, by show (0 : Nat) ≤ 24; omega, fun _ => w5, fun t ht => absurd ht (by show ¬ t < md_tk d; omega), fun j hj => absurd hj (by show ¬ j < 0; omega), fun i j _ hj => absurd hj (by show ¬ j < 0; omega), fun t ht => absurd ht (by show ¬ t < md_tk d; omega)⟩, fun h q D => ?_, fun g m hm D => ?_⟩
    · obtain ⟨v1, v2, v3, v4, v5⟩ := D
      have cg : Ch (cNh q) h (jm_sI h 2 q 3 0) := Ch.sI (by unfold cNh; omega)
      refine ⟨jm_sI h 2 q 3 0, wp_Mode_numberJobs (wp_Mode_numberJobs_5 ⟨fun hc => ?_, fun _ => wp_Mode_numberJobs_11 ⟨fun _ => wp_Mode_numberJobs_5 ⟨fun _ => rfl, fun hc => ?_⟩, fun hc => ?_⟩⟩), ⟨?_, ?_, ?_, ?_, fun z => absurd h0 z, fun t ht => absurd ht (by show ¬ t < md_tk d; omega), fun j hj => absurd hj (by show ¬ j < 0; omega)⟩, cg⟩
      · rfl
      · rw [sI_ne (by omega), v4, eL] at hc; exact absurd (by decide) hc
      · rw [sI_ne (by omega), v3, h0] at hc; exact absurd (by decide) hc
      · rw [sI_ne (by omega)]; exact v1
      · rw [sI_ne (by omega)]; exact v2
      · rw [sI_ne (by omega)]; exact v3
      · rw [sI_eq]; rfl
    · obtain ⟨v1, v2, v3, v4, v5⟩ := D
      obtain ⟨k, ek⟩ : ∃ k, k = jm_sI g 42 0 m 0 := ⟨_, rfl⟩
      have cg : Ch (cNg m) g k := by rw [ek]; exact Ch.sI (by unfold cNg; omega)
      have lp := s_fj0 hm (F := md_fr d) (by omega) (md_fr d).toNat 0 k (by omega) (by rw [ek, sI_ne (by omega), v3, h0]; rfl) (by rw [ek, sI_ne (by omega), v4, w5])
      refine ⟨k, wp_M_findsJobs ⟨zI_in (by omega) (by omega) (by omega), by rw [zI_cn (by omega), ← ek]; exact lp⟩, ⟨?_, ?_, ?_, ?_, ?_, fun t ht => absurd ht (by show ¬ t < md_tk d; omega), fun j hj => absurd hj (by show ¬ j < 0; omega)⟩, cg⟩
      · rw [ek, sI_ne (by omega)]; exact v1
      · rw [ek, sI_ne (by omega)]; exact v2
      · rw [ek, sI_ne (by omega)]; exact v3
      · rw [ek, sI_ne (by omega)]; exact v4
      · rw [ek, sI_eq]; rfl
  · have ht0 : 0 < md_tk d := by omega
    rw [if_neg h0] at w5
    have N0 : nJI d 0 0 0 (fun _ => 0) (fun _ => 0) := by
      refine ⟨?_, fun j hj => by omega, fun i j _ hj => by omega, fun t' T' _ _ h3 => by omega⟩
      unfold Jc
      refine (sm_zero (fun u hu => ?_)).symm
      have wu := w6 u hu
      rw [if_neg (by omega)]
      unfold cn
      exact Int.ediv_eq_zero_of_lt (by show (0 : Int) ≤ ((0 : Nat) : Int) + md_pe d u - 1 - md_ph d u; omega) (by show ((0 : Nat) : Int) + md_pe d u - 1 - md_ph d u < md_pe d u; omega)
    obtain ⟨J, jt, ja, O1, O2, O3⟩ := num_o W' ht0 (md_L d) 0 0 (fun _ => 0) (fun _ => 0) (by omega) N0
    obtain ⟨n1, n2, n3, n4⟩ := O1
    have hJ24 : (J : Int) ≤ 24 := by
      have e1 : Jc d (md_L d) 0 = jbs (md_pe d) (md_L d) (md_tk d) := by
        unfold Jc jbs
        refine sm_congr (fun u hu => ?_)
        have wu := w6 u hu
        rw [if_neg (by omega)]
        exact cn_L (LCf_p hu) wu.1.1 wu.1.2
      rw [n1, e1]; exact w7
    have pd : ∀ u, u < md_tk d → ∃ c : Int, (md_L d : Int) = md_pe d u * c := fun u hu => by
      have wu := w6 u hu
      obtain ⟨c, hc⟩ := LCf_p (pe := md_pe d) hu
      refine ⟨c, ?_⟩
      show ((LCf (md_pe d) (md_tk d) : Nat) : Int) = _
      rw [hc]
      show (((md_pe d u).toNat : Nat) : Int) * (c : Int) = _
      rw [Int.toNat_of_nonneg (by omega)]
    have wf : WFm (dF d J jt ja) := by
      refine ⟨w1, w2, by show 1 ≤ md_rd d ∧ md_rd d ≤ 96; omega, w3, by show J ≤ 24; omega, fun z => absurd z h0, fun u hu => ?_, fun j hj => ?_, n3, fun u hu => ?_⟩
      · have hu' : u < md_tk d := hu
        obtain ⟨a1, a2, a3, a4, a5⟩ := w6 u hu'
        obtain ⟨c, hc⟩ := pd u hu'
        refine ⟨a1, a2, a3, ⟨a4, by show md_sp d u ≤ 60; omega⟩, ?_⟩
        show md_rd d % md_pe d u = 0
        rw [w5, hc]; exact Int.mul_emod_right _ _
      · have hj' : j < J := hj
        obtain ⟨a1, a2, a3, a4, a5⟩ := n2 j hj'
        refine ⟨a1, a2, ?_⟩
        show ja j + md_sp d (jt j) ≤ md_rd d
        obtain ⟨b1, b2, b3, b4, b5⟩ := w6 (jt j) a1
        obtain ⟨c, hc⟩ := pd (jt j) a1
        have hlt : ja j < md_L d := by
          apply Decidable.byContradiction
          intro hx
          have := a4 (by omega)
          omega
        have hr := a5.2
        have hd := Int.ediv_mul_cancel (Int.dvd_of_emod_eq_zero hr)
        rw [Int.mul_comm] at hd
        have hlt2 : md_pe d (jt j) * ((ja j - md_ph d (jt j)) / md_pe d (jt j)) < md_pe d (jt j) * c := by rw [hd, ← hc]; omega
        have hq := Int.lt_of_mul_lt_mul_left hlt2 (by omega)
        have hm := Int.mul_le_mul_of_nonneg_left (show (ja j - md_ph d (jt j)) / md_pe d (jt j) + 1 ≤ c by omega) (show 0 ≤ md_pe d (jt j) by omega)
        rw [Int.mul_add, Int.mul_one, hd, ← hc] at hm
        omega
      · have hu' : u < md_tk d := hu
        have wu := w6 u hu'
        obtain ⟨c, hc⟩ := pd u hu'
        have hle : md_pe d u ≤ md_L d := by
          have := Nat.le_of_dvd (show 0 < md_L d by omega) (LCf_p (pe := md_pe d) hu')
          omega
        obtain ⟨j, j1, j2, j3⟩ := n4 u (md_ph d u).toNat hu' ⟨by omega, by rw [Int.toNat_of_nonneg wu.1.1, Int.sub_self]; exact Int.zero_emod _⟩ (Or.inl (by omega))
        exact ⟨j, j1, j2⟩
    refine ⟨J, jt, ja, wf, fun h q D => ?_, fun g m hm D => ?_⟩
    · have c0 : Ch (cNh q) h (jm_sI h 2 q 3 0) := Ch.sI (by unfold cNh; omega)
      have D0 : drC1 (jm_sI h 2 q 3 0) q d := by
        obtain ⟨v1, v2, v3, v4, v5⟩ := D
        refine ⟨?_, ?_, ?_, ?_, fun u hu => ?_⟩
        · rw [sI_ne (by omega)]; exact v1
        · rw [sI_ne (by omega)]; exact v2
        · rw [sI_ne (by omega)]; exact v3
        · rw [sI_ne (by omega)]; exact v4
        · rw [sI_ne (by omega), sI_ne (by omega), sI_ne (by omega), sI_ne (by omega)]; exact v5 u hu
      obtain ⟨h', r1, r2, r3⟩ := O2 (jm_sI h 2 q 3 0) q D0 ⟨by rw [sI_eq]; rfl, fun j hj => by omega⟩
      obtain ⟨v1, v2, v3, v4, v5⟩ := D0
      refine ⟨h', wp_Mode_numberJobs r1, ⟨?_, ?_, ?_, r2.1, fun _ => ?_, fun u hu => ?_, r2.2⟩, c0.tr r3⟩
      · rw [r3.at (by unfold cNh; omega)]; exact v1
      · rw [r3.at (by unfold cNh; omega)]; exact v2
      · rw [r3.at (by unfold cNh; omega)]; exact v3
      · show _ = zI (md_rd d)
        rw [w5, r3.at (by unfold cNh; omega)]; exact v4
      · rw [r3.at (by unfold cNh; omega), r3.at (by unfold cNh; omega), r3.at (by unfold cNh; omega), r3.at (by unfold cNh; omega)]; exact v5 u hu
    · obtain ⟨k, ek⟩ : ∃ k, k = jm_sI g 42 0 m 0 := ⟨_, rfl⟩
      have c0 : Ch (cNg m) g k := by rw [ek]; exact Ch.sI (by unfold cNg; omega)
      have D0 : drR1 k m d := D.chg w3 (fun K j hK => c0.at (by unfold cNg; omega))
      obtain ⟨g', r1, r2, r3⟩ := O3 k m hm D0 ⟨by rw [ek, sI_eq]; rfl, fun j hj => by omega⟩
      obtain ⟨v1, v2, v3, v4, v5⟩ := D0
      refine ⟨g', wp_M_findsJobs ⟨zI_in (by omega) (by omega) (by omega), by rw [zI_cn (by omega), ← ek]; exact r1⟩, ⟨?_, ?_, ?_, ?_, r2.1, fun u hu => ?_, r2.2⟩, c0.tr r3⟩
      · rw [r3.at (by unfold cNg; omega)]; exact v1
      · rw [r3.at (by unfold cNg; omega)]; exact v2
      · rw [r3.at (by unfold cNg; omega)]; exact v3
      · rw [r3.at (by unfold cNg; omega)]; exact v4
      · rw [r3.at (by unfold cNg; omega), r3.at (by unfold cNg; omega), r3.at (by unfold cNg; omega), r3.at (by unfold cNg; omega)]; exact v5 u hu
end MODEF
