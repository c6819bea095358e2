/-! ===== recost, reframe ===== -/
section CHG2
variable {B : Int} {h : jm_H} {nm : Nat} {D : Nat → MD} {m : Nat}
theorem c_reframe (hB : 0 ≤ B) (I : INV B h) (a b : Int32) : ∃ v h1 h2, m_FR_reframe a b h v h1 ∧ m_M_reframe a b h1 v h2 ∧ INV B h2 := by
  obtain ⟨nm, D, P, C, T, Q⟩ := I
  obtain ⟨x, rfl, x1, x2⟩ := i32x a
  obtain ⟨y, rfl, y1, y2⟩ := i32x b
  by_cases hx : 0 ≤ x ∧ x < nm
  · obtain ⟨m, hm, rfl⟩ := mode_of hx
    have n3 := P.1
    obtain ⟨q1, q2, q3, q4, q5, q6⟩ := P.2.2.2.2 m hm
    have w1 := q1.1
    have w2 := q1.2.1
    have w4 := q1.2.2.2.1
    have eq1 : h.1 2 (3 * (h.2.1 7 0 1) + (zI (m : Int)).toNatClampNeg) 1 = zI (md_rs (D m)) := by rw [qm P hm]; exact q2.2.1
    by_cases hy : (4 ≤ y ∧ y ≤ 60) ∧ md_rs (D m) < y
    · have etk : md_tk (dFr (D m) y) = md_tk (D m) := rfl
      have w' : WFm (dFr (D m) y) := by
        obtain ⟨u1, u2, u3, u4, u5, u6, u7, u8, u9⟩ := q1
        by_cases ht : md_tk (D m) = 0
        · have er : md_rd (dFr (D m) y) = y := by
            show (if md_tk (D m) = 0 then y else md_rd (D m)) = y
            rw [if_pos ht]
          refine ⟨hy.1, ⟨u2.1, hy.2⟩, by rw [er]; omega, u4, u5, fun _ => er, fun t htt => absurd htt (by show ¬ t < md_tk (D m); omega), fun j hj => ?_, u9⟩
          have hj' : j < md_jb (D m) := hj
          have := (u8 j hj').1
          omega
        · have er : md_rd (dFr (D m) y) = md_rd (D m) := by
            show (if md_tk (D m) = 0 then y else md_rd (D m)) = md_rd (D m)
            rw [if_neg ht]
          refine ⟨hy.1, ⟨u2.1, hy.2⟩, by rw [er]; exact u3, u4, u5, fun z => absurd z ht, fun t htt => ?_, fun j hj => ?_, u9⟩
          · rw [er]; exact u7 t htt
          · rw [er]; exact u8 j hj
      obtain ⟨g, eg⟩ : ∃ g, g = jm_sI h 2 (3 * (h.2.1 7 0 1) + m) 0 (zI y) := ⟨_, rfl⟩
      have cg : Ch (fun K i _ => (K = 2 ∨ K = 24) ∧ i = 3 * (h.2.1 7 0 1) + m) h g := by rw [eg]; exact Ch.sI ⟨Or.inl rfl, rfl⟩
      have vg : vF g (3 * (h.2.1 7 0 1) + m) (dFr (D m) y) := by
        obtain ⟨v1, v2, v3, v4, v5, v6, v7⟩ := q2
        refine ⟨?_, ?_, ?_, ?_, fun z => ?_, fun t ht => ?_, fun j hj => ?_⟩
        · rw [eg, sI_eq]; rfl
        · rw [eg, sI_ne (by omega)]; exact v2
        · rw [eg, sI_ne (by omega)]; exact v3
        · rw [eg, sI_ne (by omega)]; exact v4
        · rw [eg, sI_ne (by omega), v5 z]
          show _ = zI (if md_tk (D m) = 0 then y else md_rd (D m))
          rw [if_neg (show ¬ md_tk (D m) = 0 from z)]
        · rw [eg, sI_ne (by omega), sI_ne (by omega), sI_ne (by omega), sI_ne (by omega)]; exact v6 t ht
        · rw [eg, sI_ne (by omega), sI_ne (by omega)]; exact v7 j hj
      obtain ⟨h1, a1, a2, a3, a4, a5, a6, a7⟩ := s_anewF P hm w' vg cg
      have c1 : Ch (cCF (3 * (h.2.1 7 0 1) + m) m) h (jm_sI h1 7 0 8 0) := a7.tr (Ch.sI (Or.inr (Or.inr (Or.inr ⟨rfl, rfl⟩))))
      have eM : ∀ K j, 34 ≤ K → K ≤ 44 → (hAn (jm_sI h1 7 0 8 0)).1 K 0 j = h.1 K 0 j := fun K j z1 z2 => by rw [hAn56 _ (by omega), c1.at (by unfold cCF cMk cL cD cBg; omega)]
      have P8 : (hAn (jm_sI h1 7 0 8 0)).1 8 0 6 = h.1 8 0 6 := by rw [(hAn_c _).at (by unfold cM2 cMs; omega), c1.at (by unfold cCF cMk cL cD cBg; omega)]
      have iM : m_M_isMode (zI m) (hAn (jm_sI h1 7 0 8 0)) (zI (if 0 ≤ (m : Int) ∧ (m : Int) < nm then 1 else 0)) (hAn (jm_sI h1 7 0 8 0)) := s_isModeN (by rw [P8]; exact P.2.2.2.1) n3 x1 x2
      -- the reference's cells
      have fin : ∀ k, Ch (cCM m) (hAn (jm_sI h1 7 0 8 0)) k → k.1 34 0 m = zI y → k.1 37 0 m = zI (md_rd (dFr (D m) y)) → (∀ K j, 34 ≤ K → K ≤ 44 → ¬ ((K = 34 ∨ K = 37) ∧ j = m) → k.1 K 0 j = (hAn (jm_sI h1 7 0 8 0)).1 K 0 j) → k.1 8 0 1 = 0 → ∃ h2, m_M_startsClock k h2 ∧ INV B h2 := fun k ck k34 k37 ko k8 => by
        obtain ⟨h2, b1, b2, b3, b4, b5⟩ := s_starts (h := k)
        have c2 : Ch (cCM m) (jm_sI h1 7 0 8 0) h2 := ((hAn_m _ m).tr ck).tr (b5.mono (fun K i j z => Or.inl z))
        have v2 : vM h2 m (dFr (D m) y) := by
          obtain ⟨u1, u2, u3, u4, u5, u6, u7⟩ := q3
          have e : ∀ K j, 34 ≤ K → K ≤ 44 → ¬ ((K = 34 ∨ K = 37) ∧ j = m) → h2.1 K 0 j = h.1 K 0 j := fun K j z1 z2 z3 => by rw [b5.at (by unfold cSC; omega), ko K j z1 z2 z3, eM K j z1 z2]
          refine ⟨?_, ?_, ?_, ?_, ?_, fun t ht => ?_, fun j hj => ?_⟩
          · rw [b5.at (by unfold cSC; omega)]; exact k34
          · rw [e _ _ (by omega) (by omega) (by omega)]; exact u2
          · rw [e _ _ (by omega) (by omega) (by omega)]; exact u3
          · rw [b5.at (by unfold cSC; omega)]; exact k37
          · rw [e _ _ (by omega) (by omega) (by omega)]; exact u5
          · rw [e _ _ (by omega) (by omega) (by omega), e _ _ (by omega) (by omega) (by omega), e _ _ (by omega) (by omega) (by omega), e _ _ (by omega) (by omega) (by omega)]; exact u6 t ht
          · rw [e _ _ (by omega) (by omega) (by omega), e _ _ (by omega) (by omega) (by omega)]; exact u7 j hj
        exact ⟨h2, b1, chg_inv hB P T Q hm w' a4 c1 (a2.chg (fun K j hK => sI_ne (by omega))) (a3.chg w'.2.2.2.2.1 (fun K i j hK => sI_ne (by omega))) (a5.chg (fun K j hK => sI_ne (by omega))) (by rw [sI_ne (by omega)]; exact a6) sI_eq c2 v2 b2 b3 b4 (by rw [b5.at (by unfold cSC; omega)]; exact k8)⟩
      have F : m_FR_reframe (zI m) (zI y) h (zI (md_fr (D m))) (jm_sI h1 7 0 8 0) := by
        refine wp_FR_reframe ⟨_, h, s_isModeF P x1 x2, fun hc => absurd hc (nz1 hx), fun _ => ⟨in3 P hm, fun hc => ?_, fun _ => ⟨fun hc => ?_, fun _ => ⟨fun _ => ⟨h1, by rw [qm P hm, ← eg]; exact a1, _, _, wp_FR_answered rfl, ?_⟩, fun hc => ?_⟩⟩⟩⟩
        · rw [zl_4, zI_lt (by omega) (by omega) (by omega) (by omega)] at hc; omega
        · rw [zl_60, zI_lt (by omega) (by omega) (by omega) (by omega)] at hc; omega
        · rw [qm P hm, q2.1]
        · rw [eq1, zI_lt (by omega) (by omega) (by omega) (by omega)] at hc; omega
      have e34 : (hAn (jm_sI h1 7 0 8 0)).1 34 0 (zI (m : Int)).toNatClampNeg = zI (md_fr (D m)) := by rw [zI_cn (by omega), eM 34 m (by omega) (by omega)]; exact q3.1
      have e35 : (hAn (jm_sI h1 7 0 8 0)).1 35 0 (zI (m : Int)).toNatClampNeg = zI (md_rs (D m)) := by rw [zI_cn (by omega), eM 35 m (by omega) (by omega)]; exact q3.2.1
      have e36 : (hAn (jm_sI h1 7 0 8 0)).1 36 0 (zI (m : Int)).toNatClampNeg = zI (md_tk (D m)) := by rw [zI_cn (by omega), eM 36 m (by omega) (by omega)]; exact q3.2.2.1
      by_cases ht : md_tk (D m) = 0
      · obtain ⟨h2, b1, b2⟩ := fin (jm_sI (jm_sI (hAn (jm_sI h1 7 0 8 0)) 34 0 m (zI y)) 37 0 m (zI y)) ((Ch.sI (by unfold cCM; omega)).tr (Ch.sI (by unfold cCM; omega))) (by rw [sI_ne (by omega), sI_eq]) (by
          rw [sI_eq]
          show _ = zI (if md_tk (D m) = 0 then y else md_rd (D m))
          rw [if_pos ht]) (fun K j z1 z2 z3 => by rw [sI_ne (by omega), sI_ne (by omega)]) (by rw [sI_ne (by omega), sI_ne (by omega)]; exact hAn_t _)
        refine ⟨_, _, h2, F, wp_M_reframe ⟨_, s_an, _, _, iM, fun hc => absurd hc (nz1 hx), fun _ => ⟨_, _, s_in (x := y) (a := 4) (b := 60) y1 y2 (by omega) (by omega) (by omega) (by omega), fun hc => absurd hc (nz1 hy.1), fun _ => ⟨in6 P hm, fun _ => ⟨in6 P hm, in6 P hm, in6 P hm, fun _ => ⟨in6 P hm, h2, by rw [zI_cn (by omega)]; exact b1, by rw [e34]⟩, fun hc => ?_⟩, fun hc => ?_⟩⟩⟩, b2⟩
        · rw [e36, ht] at hc; exact absurd rfl hc
        · rw [e35, zI_lt (by omega) (by omega) (by omega) (by omega)] at hc; omega
      · obtain ⟨h2, b1, b2⟩ := fin (jm_sI (hAn (jm_sI h1 7 0 8 0)) 34 0 m (zI y)) (Ch.sI (by unfold cCM; omega)) (by rw [sI_eq]) (by
          rw [sI_ne (by omega), eM 37 m (by omega) (by omega), q3.2.2.2.1]
          show _ = zI (if md_tk (D m) = 0 then y else md_rd (D m))
          rw [if_neg ht]) (fun K j z1 z2 z3 => by rw [sI_ne (by omega)]) (by rw [sI_ne (by omega)]; exact hAn_t _)
        refine ⟨_, _, h2, F, wp_M_reframe ⟨_, s_an, _, _, iM, fun hc => absurd hc (nz1 hx), fun _ => ⟨_, _, s_in (x := y) (a := 4) (b := 60) y1 y2 (by omega) (by omega) (by omega) (by omega), fun hc => absurd hc (nz1 hy.1), fun _ => ⟨in6 P hm, fun _ => ⟨in6 P hm, in6 P hm, in6 P hm, fun hc => ?_, fun _ => ⟨h2, by rw [zI_cn (by omega)]; exact b1, by rw [e34]⟩⟩, fun hc => ?_⟩⟩⟩, b2⟩
        · rw [e36, zl_0, zI_eq (by omega) (by omega) (by omega) (by omega)] at hc; omega
        · rw [e35, zI_lt (by omega) (by omega) (by omega) (by omega)] at hc; omega
    · have Pa := PLa P 2
      have eM : (hAn (jm_sI h 7 0 8 2)).1 35 0 (zI (m : Int)).toNatClampNeg = zI (md_rs (D m)) := by rw [zI_cn (by omega)]; exact (Pa.2.2.2.2 m hm).2.2.1.2.1
      refine ⟨_, _, _, wp_FR_reframe ⟨_, h, s_isModeF P x1 x2, fun hc => absurd hc (nz1 hx), fun _ => ⟨in3 P hm, fun _ => ⟨_, _, wp_FR_refused rfl, rfl⟩, fun hc => ⟨fun _ => ⟨_, _, wp_FR_refused rfl, rfl⟩, fun hc2 => ⟨fun hc3 => ?_, fun _ => ⟨_, _, wp_FR_refused rfl, rfl⟩⟩⟩⟩⟩, wp_M_reframe ⟨_, s_an, _, _, s_isModeM Pa x1 x2, fun hc => absurd hc (nz1 hx), fun _ => ⟨_, _, s_in (x := y) (a := 4) (b := 60) y1 y2 (by omega) (by omega) (by omega) (by omega), fun _ => ⟨_, _, wp_M_no rfl, rfl⟩, fun hc => ⟨in6 P hm, fun hc2 => ?_, fun _ => ⟨_, _, wp_M_no rfl, rfl⟩⟩⟩⟩, ref_inv P C T Q (t := 2) (by decide)⟩
      · rw [zl_4, zI_lt (by omega) (by omega) (by omega) (by omega)] at hc
        rw [zl_60, zI_lt (by omega) (by omega) (by omega) (by omega)] at hc2
        rw [eq1, zI_lt (by omega) (by omega) (by omega) (by omega)] at hc3
        exact absurd ⟨⟨by omega, by omega⟩, hc3⟩ hy
      · rw [eM, zI_lt (by omega) (by omega) (by omega) (by omega)] at hc2
        have : 4 ≤ y ∧ y ≤ 60 := by
          apply Decidable.byContradiction
          intro hq
          exact hc (nz0 hq)
        exact absurd ⟨this, hc2⟩ hy
  · exact ⟨_, _, _, wp_FR_reframe ⟨_, h, s_isModeF P x1 x2, fun _ => ⟨_, _, wp_FR_refused rfl, rfl⟩, fun hc => absurd (nz0 hx) hc⟩, wp_M_reframe ⟨_, s_an, _, _, s_isModeM (PLa P 1) x1 x2, fun _ => ⟨_, _, wp_M_no rfl, rfl⟩, fun hc => absurd (nz0 hx) hc⟩, ref_inv P C T Q (t := 1) (by decide)⟩
theorem c_recost (hB : 0 ≤ B) (I : INV B h) (a b c : Int32) : ∃ v h1 h2, m_FR_recost a b c h v h1 ∧ m_M_recost a b c h1 v h2 ∧ INV B h2 := by
  obtain ⟨nm, D, P, C, T, Q⟩ := I
  obtain ⟨x, rfl, x1, x2⟩ := i32x a
  obtain ⟨z, rfl, z1, z2⟩ := i32x b
  obtain ⟨y, rfl, y1, y2⟩ := i32x c
  rcases s_isTaskF P x1 x2 z1 z2 with ⟨m, t, hm, ht, rfl, rfl, hF⟩ | ⟨hF, hno⟩
  · have n3 := P.1
    have hx : 0 ≤ (m : Int) ∧ (m : Int) < nm := by omega
    obtain ⟨q1, q2, q3, q4, q5, q6⟩ := P.2.2.2.2 m hm
    have w4 := q1.2.2.2.1
    have hz : 0 ≤ (t : Int) ∧ (t : Int) < md_tk (D m) := by omega
    have e6 : (6 * zI (m : Int)) + zI (t : Int) = zI ((6 * m + t : Nat) : Int) := by rw [zl_6, zI_mul, zI_add]; congr 1
    have et : (zI (t : Int)).toNatClampNeg = t := zI_cn (by omega)
    by_cases hy : 1 ≤ y ∧ y ≤ 60
    · have w' : WFm (dCo (D m) t y) := by
        obtain ⟨u1, u2, u3, u4, u5, u6, u7, u8, u9⟩ := q1
        refine ⟨u1, u2, u3, u4, u5, u6, fun i hi => ?_, u8, u9⟩
        obtain ⟨s1, s2, s3, s4, s5⟩ := u7 i hi
        refine ⟨s1, s2, ?_, s4, s5⟩
        show 1 ≤ up (md_co (D m)) t y i ∧ up (md_co (D m)) t y i ≤ 60
        unfold up
        split
        · exact hy
        · exact s3
      obtain ⟨g, eg⟩ : ∃ g, g = jm_sI h 24 (3 * (h.2.1 7 0 1) + m) t (zI y) := ⟨_, rfl⟩
      have cg : Ch (fun K i _ => (K = 2 ∨ K = 24) ∧ i = 3 * (h.2.1 7 0 1) + m) h g := by rw [eg]; exact Ch.sI ⟨Or.inr rfl, rfl⟩
      have vg : vF g (3 * (h.2.1 7 0 1) + m) (dCo (D m) t y) := by
        obtain ⟨v1, v2, v3, v4, v5, v6, v7⟩ := q2
        refine ⟨?_, ?_, ?_, ?_, fun q => ?_, fun i hi => ?_, fun j hj => ?_⟩
        · rw [eg, sI_ne (by omega)]; exact v1
        · rw [eg, sI_ne (by omega)]; exact v2
        · rw [eg, sI_ne (by omega)]; exact v3
        · rw [eg, sI_ne (by omega)]; exact v4
        · rw [eg, sI_ne (by omega)]; exact v5 q
        · obtain ⟨s1, s2, s3, s4⟩ := v6 i hi
          refine ⟨by rw [eg, sI_ne (by omega)]; exact s1, by rw [eg, sI_ne (by omega)]; exact s2, ?_, by rw [eg, sI_ne (by omega)]; exact s4⟩
          show _ = zI (up (md_co (D m)) t y i)
          by_cases ei : i = t
          · rw [ei, up_eq, eg, sI_eq]
          · rw [up_ne ei, eg, sI_ne (by omega)]; exact s3
        · rw [eg, sI_ne (by omega), sI_ne (by omega)]; exact v7 j hj
      obtain ⟨h1, a1, a2, a3, a4, a5, a6, a7⟩ := s_anewF P hm w' vg cg
      have c1 : Ch (cCF (3 * (h.2.1 7 0 1) + m) m) h (jm_sI h1 7 0 8 0) := a7.tr (Ch.sI (Or.inr (Or.inr (Or.inr ⟨rfl, rfl⟩))))
      have eM : ∀ K j, 34 ≤ K → K ≤ 44 → (hAn (jm_sI h1 7 0 8 0)).1 K 0 j = h.1 K 0 j := fun K j u1 u2 => by rw [hAn56 _ (by omega), c1.at (by unfold cCF cMk cL cD cBg; omega)]
      have P8 : (hAn (jm_sI h1 7 0 8 0)).1 8 0 6 = h.1 8 0 6 := by rw [(hAn_c _).at (by unfold cM2 cMs; omega), c1.at (by unfold cCF cMk cL cD cBg; omega)]
      have iM : m_M_isMode (zI m) (hAn (jm_sI h1 7 0 8 0)) (zI (if 0 ≤ (m : Int) ∧ (m : Int) < nm then 1 else 0)) (hAn (jm_sI h1 7 0 8 0)) := s_isModeN (by rw [P8]; exact P.2.2.2.1) n3 x1 x2
      have iT : m_M_in (zI (t : Int)) 0 (((hAn (jm_sI h1 7 0 8 0)).1 36 0 (zI (m : Int)).toNatClampNeg) - 1) (hAn (jm_sI h1 7 0 8 0)) (zI (if 0 ≤ (t : Int) ∧ (t : Int) < md_tk (D m) then 1 else 0)) (hAn (jm_sI h1 7 0 8 0)) := by
        rw [zI_cn (by omega), eM 36 m (by omega) (by omega), q3.2.2.1]; exact in_1 z1 z2 (by omega)
      obtain ⟨k, ek⟩ : ∃ k, k = jm_sI (hAn (jm_sI h1 7 0 8 0)) 40 0 (6 * m + t) (zI y) := ⟨_, rfl⟩
      have ck : Ch (cCM m) (hAn (jm_sI h1 7 0 8 0)) k := by rw [ek]; exact Ch.sI (by unfold cCM; omega)
      obtain ⟨h2, b1, b2, b3, b4, b5⟩ := s_starts (h := k)
      have c2 : Ch (cCM m) (jm_sI h1 7 0 8 0) h2 := ((hAn_m _ m).tr ck).tr (b5.mono (fun K i j u => Or.inl u))
      have v2 : vM h2 m (dCo (D m) t y) := by
        obtain ⟨u1, u2, u3, u4, u5, u6, u7⟩ := q3
        have e : ∀ K j, 34 ≤ K → K ≤ 44 → ¬ (K = 40 ∧ j = 6 * m + t) → h2.1 K 0 j = h.1 K 0 j := fun K j s1 s2 s3 => by rw [b5.at (by unfold cSC; omega), ek, sI_ne (by omega), eM K j s1 s2]
        refine ⟨?_, ?_, ?_, ?_, ?_, fun i hi => ?_, fun j hj => ?_⟩
        · rw [e _ _ (by omega) (by omega) (by omega)]; exact u1
        · rw [e _ _ (by omega) (by omega) (by omega)]; exact u2
        · rw [e _ _ (by omega) (by omega) (by omega)]; exact u3
        · rw [e _ _ (by omega) (by omega) (by omega)]; exact u4
        · rw [e _ _ (by omega) (by omega) (by omega)]; exact u5
        · obtain ⟨s1, s2, s3, s4⟩ := u6 i hi
          refine ⟨by rw [e _ _ (by omega) (by omega) (by omega)]; exact s1, by rw [e _ _ (by omega) (by omega) (by omega)]; exact s2, ?_, by rw [e _ _ (by omega) (by omega) (by omega)]; exact s4⟩
          show _ = zI (up (md_co (D m)) t y i)
          by_cases ei : i = t
          · rw [ei, up_eq, b5.at (by unfold cSC; omega), ek, sI_eq]
          · rw [up_ne ei, e _ _ (by omega) (by omega) (by omega)]; exact s3
        · rw [e _ _ (by omega) (by omega) (by omega), e _ _ (by omega) (by omega) (by omega)]; exact u7 j hj
      have t8 : h2.1 8 0 1 = 0 := by rw [b5.at (by unfold cSC; omega), ek, sI_ne (by omega)]; exact hAn_t _
      refine ⟨_, _, h2, wp_FR_recost ⟨1, h, hF, fun hc => absurd hc (by decide), fun _ => ⟨fun hc => ?_, fun _ => ⟨fun _ => ⟨in3 P hm, zI_in (by omega) (by omega) (by omega), in3 P hm, zI_in (by omega) (by omega) (by omega), h1, by rw [qm P hm, et, ← eg]; exact a1, _, _, wp_FR_answered rfl, rfl⟩, fun hc => ?_⟩⟩⟩, wp_M_recost ⟨_, s_an, _, _, iM, fun hc => absurd hc (nz1 hx), fun _ => ⟨in6 P hm, _, _, iT, fun hc => absurd hc (nz1 hz), fun _ => ⟨_, _, s_in (x := y) (a := 1) (b := 60) y1 y2 (by omega) (by omega) (by omega) (by omega), fun hc => absurd hc (nz1 hy), fun _ => ⟨by rw [e6]; exact zI_in (by omega) (by omega) (by omega), by rw [e6]; exact zI_in (by omega) (by omega) (by omega), h2, by rw [e6, zI_cn (by omega), ← ek]; exact b1, ?_⟩⟩⟩⟩, chg_inv hB P T Q hm w' a4 c1 (a2.chg (fun K j hK => sI_ne (by omega))) (a3.chg w'.2.2.2.2.1 (fun K i j hK => sI_ne (by omega))) (a5.chg (fun K j hK => sI_ne (by omega))) (by rw [sI_ne (by omega)]; exact a6) sI_eq c2 v2 b2 b3 b4 t8⟩
      · rw [zl_1, zI_lt (by omega) (by omega) (by omega) (by omega)] at hc; omega
      · rw [zl_60, zI_le (by omega) (by omega) (by omega) (by omega)] at hc; omega
      · rw [qm P hm, et, (q2.2.2.2.2.2.1 t ht).2.2.1, e6, zI_cn (by omega), eM 40 _ (by omega) (by omega), (q3.2.2.2.2.2.1 t ht).2.2.1]
    · have Pa := PLa P 2
      refine ⟨_, _, _, wp_FR_recost ⟨1, h, hF, fun hc => absurd hc (by decide), fun _ => ⟨fun _ => ⟨_, _, wp_FR_refused rfl, rfl⟩, fun hc => ⟨fun hc2 => ?_, fun _ => ⟨_, _, wp_FR_refused rfl, rfl⟩⟩⟩⟩, wp_M_recost ⟨_, s_an, _, _, s_isModeM Pa x1 x2, fun hc => absurd hc (nz1 hx), fun _ => ⟨in6 P hm, _, _, s_tkM Pa hm z1 z2, fun hc => absurd hc (nz1 hz), fun _ => ⟨_, _, s_in (x := y) (a := 1) (b := 60) y1 y2 (by omega) (by omega) (by omega) (by omega), fun _ => ⟨_, _, wp_M_no rfl, rfl⟩, fun hc => absurd (nz0 hy) hc⟩⟩⟩, ref_inv P C T Q (t := 2) (by decide)⟩
      rw [zl_1, zI_lt (by omega) (by omega) (by omega) (by omega)] at hc
      rw [zl_60, zI_le (by omega) (by omega) (by omega) (by omega)] at hc2; omega
  · have Pa := PLa P 1
    have F : m_FR_recost (zI x) (zI z) (zI y) h (-1) (jm_sI h 7 0 8 1) := wp_FR_recost ⟨0, h, hF, fun _ => ⟨_, _, wp_FR_refused rfl, rfl⟩, fun hc => absurd rfl hc⟩
    by_cases hx : 0 ≤ x ∧ x < nm
    · obtain ⟨m, hm, rfl⟩ := mode_of hx
      have hz : ¬ (0 ≤ z ∧ z < md_tk (D m)) := by
        rcases hno with q | ⟨m', _, q1, q2⟩
        · exact absurd hx q
        · have : m' = m := by omega
          subst this; exact q2
      exact ⟨_, _, _, F, wp_M_recost ⟨_, s_an, _, _, s_isModeM Pa x1 x2, fun hc => absurd hc (nz1 hx), fun _ => ⟨in6 P hm, _, _, s_tkM Pa hm z1 z2, fun _ => ⟨_, _, wp_M_no rfl, rfl⟩, fun hc => absurd (nz0 hz) hc⟩⟩, ref_inv P C T Q (t := 1) (by decide)⟩
    · exact ⟨_, _, _, F, wp_M_recost ⟨_, s_an, _, _, s_isModeM Pa x1 x2, fun _ => ⟨_, _, wp_M_no rfl, rfl⟩, fun hc => absurd (nz0 hx) hc⟩, ref_inv P C T Q (t := 1) (by decide)⟩
end CHG2
