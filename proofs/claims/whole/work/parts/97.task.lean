/-! ===== lines of tasks ===== -/
def dTk (d : MD) (x y z w : Int) (L : Nat) : MD := ((md_fr d, md_rs d, (L : Int)), (md_tk d + 1, 0), (up (md_ph d) (md_tk d) x, up (md_pe d) (md_tk d) y, up (md_co d) (md_tk d) z, up (md_sp d) (md_tk d) w), d.2.2.2)
section TASKL
variable {f : Nat → Int} {n nd : Nat} {E : Nat → MD} {s e : Nat} {v : Int}
theorem dTk_L {d : MD} {x y z w : Int} {L : Nat} (hL : L = Nat.lcm (md_L d) y.toNat) : md_L (dTk d x y z w L) = L := by
  show LCf (up (md_pe d) (md_tk d) y) (md_tk d + 1) = L
  rw [LCf_s, LCf_cg (pe' := md_pe d) (md_tk d) (fun i hi => up_ne (by omega)), up_eq, hL]; rfl
theorem dTk_wf {d : MD} (W : wfD d) {x y z w : Int} {L : Nat} (h6 : md_tk d < 6) (hL : L = Nat.lcm (md_L d) y.toNat) (L96 : L ≤ 96) (x1 : 0 ≤ x) (x2 : x < y) (y2 : y ≤ 60) (z1 : 1 ≤ z) (z2 : z ≤ 60) (w1 : 1 ≤ w) (w2 : x + w ≤ y) (J : (L : Int) / y + jbs (md_pe d) L (md_tk d) ≤ 24) : wfD (dTk d x y z w L) := by
  obtain ⟨a1, a2, a3, a4, a5, a6, a7⟩ := W
  have eL := dTk_L (d := d) (x := x) (y := y) (z := z) (w := w) hL
  have Lp : 0 < L := by rw [hL]; exact Nat.lcm_pos (by omega) (by omega)
  refine ⟨a1, a2, by show md_tk d + 1 ≤ 6; omega, by rw [eL]; omega, ?_, fun t ht => ?_, ?_⟩
  · rw [eL]
    show (L : Int) = if md_tk d + 1 = 0 then _ else (L : Int)
    rw [if_neg (by omega)]
  · have ht' : t < md_tk d + 1 := ht
    show (0 ≤ up (md_ph d) (md_tk d) x t ∧ up (md_ph d) (md_tk d) x t < up (md_pe d) (md_tk d) y t) ∧ up (md_pe d) (md_tk d) y t ≤ 60 ∧ (1 ≤ up (md_co d) (md_tk d) z t ∧ up (md_co d) (md_tk d) z t ≤ 60) ∧ 1 ≤ up (md_sp d) (md_tk d) w t ∧ up (md_ph d) (md_tk d) x t + up (md_sp d) (md_tk d) w t ≤ up (md_pe d) (md_tk d) y t
    by_cases et : t = md_tk d
    · rw [et, up_eq, up_eq, up_eq, up_eq]; omega
    · rw [up_ne et, up_ne et, up_ne et, up_ne et]; exact a6 t (by omega)
  · rw [eL]
    show jbs (up (md_pe d) (md_tk d) y) L (md_tk d + 1) ≤ 24
    have e1 : jbs (up (md_pe d) (md_tk d) y) L (md_tk d + 1) = jbs (up (md_pe d) (md_tk d) y) L (md_tk d) + (L : Int) / up (md_pe d) (md_tk d) y (md_tk d) := rfl
    have e2 : jbs (up (md_pe d) (md_tk d) y) L (md_tk d) = jbs (md_pe d) L (md_tk d) := sm_congr (fun i hi => by rw [up_ne (by omega)])
    rw [e1, e2, up_eq]; omega
theorem ln_task (t : txt f n) (hnd : nd ≤ 3) (W : ∀ m, m < nd → wfD (E m)) (he : e ≤ n) : (∃ q s', 1 ≤ q ∧ q ≤ 6 ∧ lnF m_Reader_readTask m_M_readTask f n 1 s e v nd E q s') ∨ ∃ nd' E' e' k2 s2 e2 v2, lnY m_Reader_readTask m_M_readTask f n 1 s e v nd E nd' E' e' k2 s2 e2 v2 := by
  have t1 := t.1
  by_cases h0 : nd = 0
  · refine Or.inl ⟨4, s, by omega, by omega, fun h dp X K d => ?_, fun g Y K d => ?_⟩
    · obtain ⟨h', f1, f2, f3, f4⟩ := s_fail (h := h) (q := 4) K.2.1
      refine ⟨h', wp_Reader_readTask ⟨fun _ => ⟨0, h', f1, rfl, rfl⟩, fun hc => ?_⟩, f2, f3, cDr_f (f4.mono (fun K i j x => by unfold cTf; omega))⟩
      rw [d.1, d.2.1, h0] at hc; exact absurd rfl hc
    · obtain ⟨g', f1, f2, f3, f4⟩ := s_errs (g := g) (q := 4) K.2.1
      refine ⟨g', wp_M_readTask ⟨fun _ => ⟨_, g', f1, rfl⟩, fun hc => ?_⟩, f2, f3, cDq_e (f4.mono (fun K i j x => by unfold cTe; omega))⟩
      rw [d.1, h0] at hc; exact absurd rfl hc
  · obtain ⟨m, em⟩ : ∃ m, nd = m + 1 := ⟨nd - 1, by omega⟩
    subst em
    have wm := W m (by omega)
    obtain ⟨w1, w2, w3, w4, w5, w6, w7⟩ := wm
    -- what is met at once, in the class
    have n0 : ∀ h dp, drC h dp (m + 1) E → ¬ h.1 3 (h.2.1 4 0 9) 0 = 0 := fun h dp d => by rw [d.1, d.2.1, zl_0, zI_eq (by omega) (by omega) (by omega) (by omega)]; omega
    have i3 : ∀ h dp, drC h dp (m + 1) E → jm_in ((h.1 3 (h.2.1 4 0 9) 0) - 1) 3 := fun h dp d => by rw [d.1, d.2.1, e_m1]; exact zI_in (by omega) (by omega) (by omega)
    have eo : ∀ h dp, drC h dp (m + 1) E → 3 * (h.2.1 4 0 9) + ((h.1 3 (h.2.1 4 0 9) 0) - 1).toNatClampNeg = 3 * dp + m := fun h dp d => by rw [d.1, d.2.1, e_m1, zI_cn (by omega)]
    have e2 : ∀ h dp, drC h dp (m + 1) E → h.1 2 (3 * dp + m) 2 = zI (md_tk (E m)) := fun h dp d => (d.2.2 m (by omega)).2.2.1
    -- and in the reference
    have r0 : ∀ g, drR g (m + 1) E → ¬ g.1 8 0 7 = 0 := fun g d => by rw [d.1, zl_0, zI_eq (by omega) (by omega) (by omega) (by omega)]; omega
    have ri : ∀ g, drR g (m + 1) E → ((3 : Int32) + (g.1 8 0 7)) - 1 = zI ((3 + m : Nat) : Int) := fun g d => by rw [d.1, zl_3, zI_add, zl_1, zI_sub]; congr 1; omega
    have rj : ∀ g, drR g (m + 1) E → jm_in (((3 : Int32) + (g.1 8 0 7)) - 1) 6 := fun g d => by rw [ri g d]; exact zI_in (by omega) (by omega) (by omega)
    have r6 : ∀ g, drR g (m + 1) E → g.1 36 0 ((((3 : Int32) + (g.1 8 0 7)) - 1).toNatClampNeg) = zI (md_tk (E m)) := fun g d => by rw [ri g d, zI_cn (by omega)]; exact (d.2 m (by omega)).2.2.1
    by_cases h6 : md_tk (E m) = 6
    · refine Or.inl ⟨3, s, by omega, by omega, fun h dp X K d => ?_, fun g Y K d => ?_⟩
      · obtain ⟨h', f1, f2, f3, f4⟩ := s_fail (h := h) (q := 3) K.2.1
        refine ⟨h', wp_Reader_readTask ⟨fun hc => absurd hc (n0 h dp d), fun _ => ⟨i3 h dp d, fun hc => ?_, fun _ => ⟨0, h', f1, rfl, rfl⟩⟩⟩, f2, f3, cDr_f (f4.mono (fun K i j x => by unfold cTf; omega))⟩
        rw [eo h dp d, e2 h dp d, h6] at hc; exact absurd hc (by decide)
      · obtain ⟨g', f1, f2, f3, f4⟩ := s_errs (g := g) (q := 3) K.2.1
        refine ⟨g', wp_M_readTask ⟨fun hc => absurd hc (r0 g d), fun _ => ⟨rj g d, fun _ => ⟨_, g', f1, rfl⟩, fun hc => ?_⟩⟩, f2, f3, cDq_e (f4.mono (fun K i j x => by unfold cTe; omega))⟩
        rw [r6 g d, h6] at hc; exact absurd rfl hc
    · have l6 : ∀ h dp, drC h dp (m + 1) E → h.1 2 (3 * (h.2.1 4 0 9) + ((h.1 3 (h.2.1 4 0 9) 0) - 1).toNatClampNeg) 2 < 6 := fun h dp d => by rw [eo h dp d, e2 h dp d, zl_6, zI_lt (by omega) (by omega) (by omega) (by omega)]; omega
      have q6 : ∀ g, drR g (m + 1) E → ¬ g.1 36 0 ((((3 : Int32) + (g.1 8 0 7)) - 1).toNatClampNeg) = 6 := fun g d => by rw [r6 g d, zl_6, zI_eq (by omega) (by omega) (by omega) (by omega)]; omega
      rcases part_ex t (p := e) (a := 4) he (by omega) (lo := 0) (hi := 59) (by omega) (by omega) (by omega) (by omega) with ⟨q, s', hq, pF⟩ | ⟨x, e1, s1, y1, y2, y3, y4, y5, y6, yC, yR⟩
      · refine Or.inl ⟨q, s', by omega, by omega, fun h dp X K d => ?_, fun g Y K d => ?_⟩
        · obtain ⟨h', c1, c2, c3, c4⟩ := pF.1 h X (K.2.2.1 (by omega))
          exact ⟨h', wp_Reader_readTask ⟨fun hc => absurd hc (n0 h dp d), fun _ => ⟨i3 h dp d, fun _ => ⟨0, h', c1, fun _ => rfl, fun hc => absurd rfl hc⟩, fun hc => absurd (l6 h dp d) hc⟩⟩, c2, c3, cDr_f c4⟩
        · obtain ⟨g1, g', c0, c1, c2, c3, c4⟩ := pF.2 g Y (K.2.2.1 (by omega))
          exact ⟨g', wp_M_readTask ⟨fun hc => absurd hc (r0 g d), fun _ => ⟨rj g d, fun hc => absurd hc (q6 g d), fun _ => ⟨g1, c0, _, g', c1, fun _ => rfl, fun hc => absurd rfl hc⟩⟩⟩, c2, c3, cDq_e c4⟩
      · have hx1 : ¬ zI x = -1 := by rw [zl_m1, zI_eq (by omega) (by omega) (by omega) (by omega)]; omega
        have ex1 : zI x + 1 = zI (x + 1) := by rw [zl_1, zI_add]
        rcases part_ex t (p := e1) (a := 5) y5 (by omega) (lo := x + 1) (hi := 60) (by omega) (by omega) (by omega) (by omega) with ⟨q, s', hq, pF⟩ | ⟨y, e2', s2, z1, z2, z3, z4, z5, z6, zC, zR⟩
        · refine Or.inl ⟨q, s', by omega, by omega, fun h dp X K d => ?_, fun g Y K d => ?_⟩
          · obtain ⟨h1, a1, a2, a3, a4, a5⟩ := yC h X (K.2.2.1 (by omega))
            obtain ⟨h', c1, c2, c3, c4⟩ := pF.1 h1 (X.tk a5) a2
            exact ⟨h', wp_Reader_readTask ⟨fun hc => absurd hc (n0 h dp d), fun _ => ⟨i3 h dp d, fun _ => ⟨1, h1, a1, fun hc => absurd hc (by decide), fun _ => ⟨0, h', by rw [a4, ex1]; exact c1, fun _ => rfl, fun hc => absurd rfl hc⟩⟩, fun hc => absurd (l6 h dp d) hc⟩⟩, c2, c3, cDr_f ((cTf_k a5).tr c4)⟩
          · obtain ⟨g1, g2, b1, b2, b3, b4, b5⟩ := yR g Y (K.2.2.1 (by omega))
            obtain ⟨g3, g', c0, c1, c2, c3, c4⟩ := pF.2 g2 (Y.tr b5) b3
            exact ⟨g', wp_M_readTask ⟨fun hc => absurd hc (r0 g d), fun _ => ⟨rj g d, fun hc => absurd hc (q6 g d), fun _ => ⟨g1, b1, _, g2, b2, fun hc => absurd hc hx1, fun _ => ⟨g3, c0, _, g', by rw [ex1]; exact c1, fun _ => rfl, fun hc => absurd rfl hc⟩⟩⟩⟩, c2, c3, cDq_e ((cTe_r b5).tr c4)⟩
        · have hy1 : ¬ zI y = -1 := by rw [zl_m1, zI_eq (by omega) (by omega) (by omega) (by omega)]; omega
          obtain ⟨L, eL⟩ : ∃ L : Nat, L = Nat.lcm (md_L (E m)) y.toNat := ⟨_, rfl⟩
          have Lp : 0 < L := by rw [eL]; exact Nat.lcm_pos (by omega) (by omega)
          have L6 : L ≤ 6000 := by
            have h3 := Nat.lcm_le_mul (show 0 < md_L (E m) by omega) (show 0 < y.toNat by omega)
            have h4 : md_L (E m) * y.toNat ≤ 96 * 60 := Nat.mul_le_mul (by omega) (by omega)
            omega
          have pb : ∀ u, u < md_tk (E m) → 1 ≤ md_pe (E m) u ∧ md_pe (E m) u ≤ 60 := fun u hu => by have := w6 u hu; omega
          have jb := jbs_b (pe := md_pe (E m)) (L := L) L6 (md_tk (E m)) w3 (fun u hu => (pb u hu).1)
          have db := div_b (a := (L : Int)) (g := y) (by omega) (by omega)
          -- up to the period, in both
          have goC : ∀ h dp, TX h f n → TKc h 1 s e v → drC h dp (m + 1) E → ∃ h1 h2, m_Reader_readPart 4 0 59 h 1 h1 ∧ h1.1 4 0 6 = zI x ∧ m_Reader_readPart 5 ((h1.1 4 0 6) + 1) 60 h1 1 h2 ∧ h2.1 4 0 6 = zI y ∧ h2.1 4 0 3 = zI e2' ∧ h2.1 4 0 5 = zI s2 ∧ Ch cTk h h2 ∧ m_Mode_commonWith (3 * dp + m) (zI y) h2 (zI (L : Nat)) h2 ∧ m_Mode_jobsWith (3 * dp + m) (zI y) h2 (zI ((L : Int) / y + jbs (md_pe (E m)) L (md_tk (E m)))) h2 := fun h dp X K d => by
            obtain ⟨h1, a1, a2, a3, a4, a5⟩ := yC h X (K.2.2.1 (by omega))
            obtain ⟨h2, b1, b2, b3, b4, b5⟩ := zC h1 (X.tk a5) a2
            have c2 := a5.tr b5
            have d2 : drC1 h2 (3 * dp + m) (E m) := (d.2.2 m (by omega)).chg (fun K j hK => c2.at (by unfold cTk; omega))
            have cw : m_Mode_commonWith (3 * dp + m) (zI y) h2 (zI (L : Nat)) h2 := by
              rw [eL]; exact s_comW d2.2.2.2.1 w4.1 w4.2 (by omega) (by omega)
            refine ⟨h1, h2, a1, a4, by rw [a4, ex1]; exact b1, b4, b2, b3, c2, cw, wp_Mode_jobsWith ⟨_, h2, cw, fun hc => ?_, fun _ => ⟨?_, ?_⟩⟩⟩
            · rw [zl_0, zI_le (by omega) (by omega) (by omega) (by omega)] at hc; omega
            · rw [zl_0, zI_eq (by omega) (by omega) (by omega) (by omega)]; omega
            · have := s_jobW (p := y) (L := L) d2.2.2.1 w3 (fun u hu => (d2.2.2.2.2 u hu).2.1) pb L6 (md_tk (E m)) 0 ((L : Int) / y) (by omega)
              rw [show jbs (md_pe (E m)) L 0 = 0 from rfl, Int.add_zero] at this
              rw [zI_div (by omega) (by omega) (by omega) (by omega)]; exact this
          have goR : ∀ g, TY g f n → TKr g 1 s e v → drR g (m + 1) E → ∃ g1 g2 g3 g4, m_M_reads g g1 ∧ m_M_told 4 0 59 g1 (zI x) g2 ∧ m_M_reads g2 g3 ∧ m_M_told 5 (zI x + 1) 60 g3 (zI y) g4 ∧ g4.1 8 0 18 = zI e2' ∧ g4.1 8 0 17 = zI s2 ∧ Ch cTr g g4 ∧ m_M_roundWith (((3 : Int32) + (g.1 8 0 7)) - 1) (zI y) g4 (zI (L : Nat)) g4 ∧ m_M_jobsWith (((3 : Int32) + (g.1 8 0 7)) - 1) (zI y) (zI (L : Nat)) g4 (zI ((L : Int) / y + jbs (md_pe (E m)) L (md_tk (E m)))) g4 := fun g Y K d => by
            obtain ⟨g1, g2, a1, a2, a3, a4, a5⟩ := yR g Y (K.2.2.1 (by omega))
            obtain ⟨g3, g4, b1, b2, b3, b4, b5⟩ := zR g2 (Y.tr a5) a3
            have c2 := a5.tr b5
            have d2 : drR1 g4 (3 + m) (E m) := (d.2 m (by omega)).chg w3 (fun K j hK => c2.at (by unfold cTr; omega))
            refine ⟨g1, g2, g3, g4, a1, a2, b1, by rw [ex1]; exact b2, b3, b4, c2, ?_, ?_⟩
            · rw [ri g d]
              have := s_rndW (p := y) (i := 3 + m) (by omega) d2.2.2.1 w3 (fun u hu => (d2.2.2.2.2 u hu).2.1) pb w4.2 (by omega) (by omega) (md_tk (E m)) 0 (by omega)
              rw [show Nat.lcm (LCf (md_pe (E m)) 0) y.toNat = y.toNat from Nat.lcm_one_left _, show ((y.toNat : Nat) : Int) = y by omega] at this
              rw [eL]; exact wp_M_roundWith this
            · rw [ri g d]
              have := s_jobWM (L := L) (i := 3 + m) (by omega) d2.2.2.1 w3 (fun u hu => (d2.2.2.2.2 u hu).2.1) pb L6 (md_tk (E m)) 0 ((L : Int) / y) (by omega)
              rw [show jbs (md_pe (E m)) L 0 = 0 from rfl, Int.add_zero] at this
              refine wp_M_jobsWith ⟨?_, ?_⟩
              · rw [zl_0, zI_eq (by omega) (by omega) (by omega) (by omega)]; omega
              · rw [zI_div (by omega) (by omega) (by omega) (by omega)]; exact this
          by_cases h96 : L ≤ 96
          · have le96 : zI ((L : Nat) : Int) ≤ 96 := by rw [zl_96, zI_le (by omega) (by omega) (by omega) (by omega)]; omega
            by_cases h24 : (L : Int) / y + jbs (md_pe (E m)) L (md_tk (E m)) ≤ 24
            · have le24 : zI ((L : Int) / y + jbs (md_pe (E m)) L (md_tk (E m))) ≤ 24 := by rw [zl_24, zI_le (by omega) (by omega) (by omega) (by omega)]; exact h24
              -- the task is put into the draft
              have goA : ∀ h dp, TX h f n → TKc h 1 s e v → drC h dp (m + 1) E → ∃ h1 h2 h3, m_Reader_readPart 4 0 59 h 1 h1 ∧ h1.1 4 0 6 = zI x ∧ m_Reader_readPart 5 ((h1.1 4 0 6) + 1) 60 h1 1 h2 ∧ h2.1 4 0 6 = zI y ∧ m_Mode_commonWith (3 * dp + m) (zI y) h2 (zI (L : Nat)) h2 ∧ m_Mode_jobsWith (3 * dp + m) (zI y) h2 (zI ((L : Int) / y + jbs (md_pe (E m)) L (md_tk (E m)))) h2 ∧ m_Mode_addTask (3 * dp + m) (zI x) (zI y) h2 (zI (md_tk (E m))) h3 ∧ h3.1 4 0 3 = zI e2' ∧ h3.1 2 (3 * dp + m) 4 = zI (L : Nat) ∧ h3.1 22 (3 * dp + m) (md_tk (E m)) = zI x ∧ h3.1 23 (3 * dp + m) (md_tk (E m)) = zI y ∧ h3.1 2 (3 * dp + m) 2 = zI ((md_tk (E m) + 1 : Nat) : Int) ∧ (∀ K i j, ¬ (cTk K i j ∨ (K = 2 ∧ i = 3 * dp + m ∧ (j = 2 ∨ j = 4)) ∨ ((K = 22 ∨ K = 23) ∧ i = 3 * dp + m ∧ j = md_tk (E m))) → h3.1 K i j = h.1 K i j) ∧ Ch (cDo dp) h h3 := fun h dp X K d => by
                obtain ⟨h1, h2, a1, a2, a3, a4, a5, a6, a7, a8, a9⟩ := goC h dp X K d
                have et : h2.1 2 (3 * dp + m) 2 = zI (md_tk (E m)) := by rw [a7.at (by unfold cTk; omega)]; exact e2 h dp d
                have em : (if (5 : Int32) < (h2.1 2 (3 * dp + m) 2) then 5 else (h2.1 2 (3 * dp + m) 2)) = zI (md_tk (E m)) := by
                  rw [et, if_neg (by rw [zl_5, zI_lt (by omega) (by omega) (by omega) (by omega)]; omega)]
                obtain ⟨h3, eh⟩ : ∃ h3, h3 = jm_sI (jm_sI (jm_sI (jm_sI h2 2 (3 * dp + m) 4 (zI (L : Nat))) 22 (3 * dp + m) (md_tk (E m)) (zI x)) 23 (3 * dp + m) (md_tk (E m)) (zI y)) 2 (3 * dp + m) 2 (zI ((md_tk (E m) + 1 : Nat) : Int)) := ⟨_, rfl⟩
                have c3 : Ch (cDo dp) h2 h3 := by
                  rw [eh]
                  exact (((Ch.sI (by unfold cDo; omega)).tr (Ch.sI (by unfold cDo; omega))).tr (Ch.sI (by unfold cDo; omega))).tr (Ch.sI (by unfold cDo; omega))
                refine ⟨h1, h2, h3, a1, a2, a3, a4, a8, a9, wp_Mode_addTask ⟨_, h2, a8, by rw [em]; exact zI_in (by omega) (by omega) (by omega), by rw [em]; exact zI_in (by omega) (by omega) (by omega), ?_⟩, ?_, ?_, ?_, ?_, ?_, fun K i j hK => ?_, (cDo_k a7).tr c3⟩
                · rw [em, zI_cn (by omega), e_p1, eh]
                · rw [eh, sI_ne (by omega), sI_ne (by omega), sI_ne (by omega), sI_ne (by omega)]; exact a5
                · rw [eh, sI_ne (by omega), sI_ne (by omega), sI_ne (by omega), sI_eq]
                · rw [eh, sI_ne (by omega), sI_ne (by omega), sI_eq]
                · rw [eh, sI_ne (by omega), sI_eq]
                · rw [eh, sI_eq]
                · rw [eh, sI_ne (by omega), sI_ne (by omega), sI_ne (by omega), sI_ne (by omega), a7.at (fun z => hK (Or.inl z))]
              rcases part_ex t (p := e2') (a := 6) z5 (by omega) (lo := 1) (hi := 60) (by omega) (by omega) (by omega) (by omega) with ⟨q, s', hq, pF⟩ | ⟨z, e3, s3, u1, u2, u3, u4, u5, u6, uC, uR⟩
              · refine Or.inl ⟨q, s', by omega, by omega, fun h dp X K d => ?_, fun g Y K d => ?_⟩
                · obtain ⟨h1, h2, h3, a1, a2, a3, a4, a5, a6, a7, a8, a9, a10, a11, a12, a13, a14⟩ := goA h dp X K d
                  obtain ⟨h', c1, c2, c3, c4⟩ := pF.1 h3 (X.dr (cDr_o a14)) a8
                  exact ⟨h', wp_Reader_readTask ⟨fun hc => absurd hc (n0 h dp d), fun _ => ⟨i3 h dp d, fun _ => ⟨1, h1, a1, fun hc => absurd hc (by decide), fun _ => ⟨1, h2, a3, fun hc => absurd hc (by decide), fun _ => ⟨_, h2, by rw [eo h dp d, a4]; exact a5, fun _ => ⟨_, h2, by rw [eo h dp d, a4]; exact a6, fun _ => ⟨_, h3, by rw [eo h dp d, a4, a2]; exact a7, 0, h', c1, fun _ => rfl, fun hc => absurd rfl hc⟩, fun hc => absurd le24 hc⟩, fun hc => absurd le96 hc⟩⟩⟩, fun hc => absurd (l6 h dp d) hc⟩⟩, c2, c3, (cDr_o a14).tr (cDr_f c4)⟩
                · obtain ⟨g1, g2, g3, g4, a1, a2, a3, a4, a5, a6, a7, a8, a9⟩ := goR g Y K d
                  obtain ⟨g5, g', c0, c1, c2, c3, c4⟩ := pF.2 g4 (Y.tr a7) a5
                  exact ⟨g', wp_M_readTask ⟨fun hc => absurd hc (r0 g d), fun _ => ⟨rj g d, fun hc => absurd hc (q6 g d), fun _ => ⟨g1, a1, _, g2, a2, fun hc => absurd hc hx1, fun _ => ⟨g3, a3, _, g4, a4, fun hc => absurd hc hy1, fun _ => ⟨_, g4, a8, fun _ => ⟨_, g4, a9, fun _ => ⟨g5, c0, _, g', c1, fun _ => rfl, fun hc => absurd rfl hc⟩, fun hc => absurd le24 hc⟩, fun hc => absurd le96 hc⟩⟩⟩⟩⟩, c2, c3, cDq_e ((cTe_r a7).tr c4)⟩
              · have hz1 : ¬ zI z = -1 := by rw [zl_m1, zI_eq (by omega) (by omega) (by omega) (by omega)]; omega
                have exy : zI y - zI x = zI (y - x) := zI_sub y x
                rcases part_ex t (p := e3) (a := 7) u5 (by omega) (lo := 1) (hi := y - x) (by omega) (by omega) (by omega) (by omega) with ⟨q, s', hq, pF⟩ | ⟨w, e4, s4, v1, v2, v3, v4, v5, v6, vC, vR⟩
                · refine Or.inl ⟨q, s', by omega, by omega, fun h dp X K d => ?_, fun g Y K d => ?_⟩
                  · obtain ⟨h1, h2, h3, a1, a2, a3, a4, a5, a6, a7, a8, a9, a10, a11, a12, a13, a14⟩ := goA h dp X K d
                    obtain ⟨h4, b1, b2, b3, b4, b5⟩ := uC h3 (X.dr (cDr_o a14)) a8
                    obtain ⟨k, ek⟩ : ∃ k, k = jm_sI h4 24 (3 * dp + m) (md_tk (E m)) (zI z) := ⟨_, rfl⟩
                    have ck : Ch (cDo dp) h4 k := by rw [ek]; exact Ch.sI (by unfold cDo; omega)
                    have c0 : Ch (cDo dp) h k := (a14.tr (cDo_k b5)).tr ck
                    obtain ⟨h', c1, c2, c3, c4⟩ := pF.1 k (X.dr (cDr_o c0)) (by rw [ek, sI_ne (by omega)]; exact b2)
                    exact ⟨h', wp_Reader_readTask ⟨fun hc => absurd hc (n0 h dp d), fun _ => ⟨i3 h dp d, fun _ => ⟨1, h1, a1, fun hc => absurd hc (by decide), fun _ => ⟨1, h2, a3, fun hc => absurd hc (by decide), fun _ => ⟨_, h2, by rw [eo h dp d, a4]; exact a5, fun _ => ⟨_, h2, by rw [eo h dp d, a4]; exact a6, fun _ => ⟨_, h3, by rw [eo h dp d, a4, a2]; exact a7, 1, h4, b1, fun hc => absurd hc (by decide), fun _ => ⟨zI_in (by omega) (by omega) (by omega), 0, h', by rw [eo h dp d, a4, a2, exy, zI_cn (by omega), b4, ← ek]; exact c1, fun _ => rfl, fun hc => absurd rfl hc⟩⟩, fun hc => absurd le24 hc⟩, fun hc => absurd le96 hc⟩⟩⟩, fun hc => absurd (l6 h dp d) hc⟩⟩, c2, c3, (cDr_o c0).tr (cDr_f c4)⟩
                  · obtain ⟨g1, g2, g3, g4, a1, a2, a3, a4, a5, a6, a7, a8, a9⟩ := goR g Y K d
                    obtain ⟨g5, g6, b1, b2, b3, b4, b5⟩ := uR g4 (Y.tr a7) a5
                    obtain ⟨g7, g', c0, c1, c2, c3, c4⟩ := pF.2 g6 ((Y.tr a7).tr b5) b3
                    exact ⟨g', wp_M_readTask ⟨fun hc => absurd hc (r0 g d), fun _ => ⟨rj g d, fun hc => absurd hc (q6 g d), fun _ => ⟨g1, a1, _, g2, a2, fun hc => absurd hc hx1, fun _ => ⟨g3, a3, _, g4, a4, fun hc => absurd hc hy1, fun _ => ⟨_, g4, a8, fun _ => ⟨_, g4, a9, fun _ => ⟨g5, b1, _, g6, b2, fun hc => absurd hc hz1, fun _ => ⟨g7, c0, _, g', by rw [exy]; exact c1, fun _ => rfl, fun hc => absurd rfl hc⟩⟩, fun hc => absurd le24 hc⟩, fun hc => absurd le96 hc⟩⟩⟩⟩⟩, c2, c3, cDq_e (((cTe_r a7).tr (cTe_r b5)).tr c4)⟩
                · have hw1 : ¬ zI w = -1 := by rw [zl_m1, zI_eq (by omega) (by omega) (by omega) (by omega)]; omega
                  obtain ⟨k2, t2, n2, o, O⟩ := tok_ex t v5
                  have O' := O
                  obtain ⟨o0, o1, o2, o3, o4, o5, o6, o7⟩ := O
                  have dL := dTk_L (d := E m) (x := x) (y := y) (z := z) (w := w) eL
                  refine Or.inr ⟨m + 1, dWith E m (dTk (E m) x y z w L), e4, k2, t2, n2, o, ⟨by omega, by omega⟩, fun i hi => ?_, by omega, v5, O', fun h dp X K d => ?_, fun g Y K d => ?_⟩
                  · by_cases ei : i = m
                    · rw [ei, dW_eq]
                      exact dTk_wf (W m (by omega)) (by omega) eL h96 y1 (by omega) z2 u1 u2 v1 (by omega) h24
                    · rw [dW_ne ei]; exact W i hi
                  · obtain ⟨h1, h2, h3, a1, a2, a3, a4, a5, a6, a7, a8, a9, a10, a11, a12, a13, a14⟩ := goA h dp X K d
                    obtain ⟨h4, b1, b2, b3, b4, b5⟩ := uC h3 (X.dr (cDr_o a14)) a8
                    obtain ⟨k, ek⟩ : ∃ k, k = jm_sI h4 24 (3 * dp + m) (md_tk (E m)) (zI z) := ⟨_, rfl⟩
                    have ck : Ch (fun K i j => K = 24 ∧ i = 3 * dp + m ∧ j = md_tk (E m)) h4 k := by rw [ek]; exact Ch.sI ⟨rfl, rfl, rfl⟩
                    have c0 : Ch (cDo dp) h k := (a14.tr (cDo_k b5)).tr (ck.mono (fun K i j q => by unfold cDo; omega))
                    obtain ⟨h5, c1, c2, c3, c4, c5⟩ := vC k (X.dr (cDr_o c0)) (by rw [ek, sI_ne (by omega)]; exact b2)
                    obtain ⟨h6, eh6⟩ : ∃ h6, h6 = jm_sI h5 25 (3 * dp + m) (md_tk (E m)) (zI w) := ⟨_, rfl⟩
                    have c7 : Ch (cDo dp) h h6 := (c0.tr (cDo_k c5)).tr (by rw [eh6]; exact Ch.sI (by unfold cDo; omega))
                    -- cells other than the new ones
                    have ot : ∀ K i j, (K = 2 ∨ K = 3 ∨ (22 ≤ K ∧ K ≤ 25)) → ¬ (K = 2 ∧ i = 3 * dp + m ∧ (j = 2 ∨ j = 4)) → ¬ ((22 ≤ K ∧ K ≤ 25) ∧ i = 3 * dp + m ∧ j = md_tk (E m)) → h6.1 K i j = h.1 K i j := fun K i j q1 q2 q3 => by
                      rw [eh6, sI_ne (by omega), c5.at (by unfold cTk; omega), ck.at (by omega), b5.at (by unfold cTk; omega), a13 K i j (by unfold cTk; omega)]
                    -- the new ones
                    have nw : h6.1 2 (3 * dp + m) 4 = zI (L : Nat) ∧ h6.1 2 (3 * dp + m) 2 = zI ((md_tk (E m) + 1 : Nat) : Int) ∧ h6.1 22 (3 * dp + m) (md_tk (E m)) = zI x ∧ h6.1 23 (3 * dp + m) (md_tk (E m)) = zI y ∧ h6.1 24 (3 * dp + m) (md_tk (E m)) = zI z ∧ h6.1 25 (3 * dp + m) (md_tk (E m)) = zI w := by
                      refine ⟨?_, ?_, ?_, ?_, ?_, ?_⟩
                      · rw [eh6, sI_ne (by omega), c5.at (by unfold cTk; omega), ck.at (by omega), b5.at (by unfold cTk; omega)]; exact a9
                      · rw [eh6, sI_ne (by omega), c5.at (by unfold cTk; omega), ck.at (by omega), b5.at (by unfold cTk; omega)]; exact a12
                      · rw [eh6, sI_ne (by omega), c5.at (by unfold cTk; omega), ck.at (by omega), b5.at (by unfold cTk; omega)]; exact a10
                      · rw [eh6, sI_ne (by omega), c5.at (by unfold cTk; omega), ck.at (by omega), b5.at (by unfold cTk; omega)]; exact a11
                      · rw [eh6, sI_ne (by omega), c5.at (by unfold cTk; omega), ek, sI_eq]
                      · rw [eh6, sI_eq]
                    refine ⟨h6, wp_Reader_readTask ⟨fun hc => absurd hc (n0 h dp d), fun _ => ⟨i3 h dp d, fun _ => ⟨1, h1, a1, fun hc => absurd hc (by decide), fun _ => ⟨1, h2, a3, fun hc => absurd hc (by decide), fun _ => ⟨_, h2, by rw [eo h dp d, a4]; exact a5, fun _ => ⟨_, h2, by rw [eo h dp d, a4]; exact a6, fun _ => ⟨_, h3, by rw [eo h dp d, a4, a2]; exact a7, 1, h4, b1, fun hc => absurd hc (by decide), fun _ => ⟨zI_in (by omega) (by omega) (by omega), 1, h5, by rw [eo h dp d, a4, a2, exy, zI_cn (by omega), b4, ← ek]; exact c1, fun hc => absurd hc (by decide), fun _ => ⟨zI_in (by omega) (by omega) (by omega), by rw [eo h dp d, zI_cn (by omega), c4, ← eh6]⟩⟩⟩, fun hc => absurd le24 hc⟩, fun hc => absurd le96 hc⟩⟩⟩, fun hc => absurd (l6 h dp d) hc⟩⟩, ⟨by rw [c7.2]; exact d.1, by rw [ot _ _ _ (by omega) (by omega) (by omega)]; exact d.2.1, fun i hi => ?_⟩, by rw [eh6, sI_ne (by omega)]; exact c2, c7⟩
                    by_cases ei : i = m
                    · rw [ei, dW_eq]
                      obtain ⟨q1, q2, q3, q4, q5⟩ := d.2.2 m (by omega)
                      refine ⟨by rw [ot _ _ _ (by omega) (by omega) (by omega)]; exact q1, by rw [ot _ _ _ (by omega) (by omega) (by omega)]; exact q2, nw.2.1, by rw [dL]; exact nw.1, fun u hu => ?_⟩
                      have hu' : u < md_tk (E m) + 1 := hu
                      show _ = zI (up (md_ph (E m)) (md_tk (E m)) x u) ∧ _ = zI (up (md_pe (E m)) (md_tk (E m)) y u) ∧ _ = zI (up (md_co (E m)) (md_tk (E m)) z u) ∧ _ = zI (up (md_sp (E m)) (md_tk (E m)) w u)
                      by_cases eu : u = md_tk (E m)
                      · rw [eu, up_eq, up_eq, up_eq, up_eq]; exact nw.2.2
                      · rw [up_ne eu, up_ne eu, up_ne eu, up_ne eu, ot _ _ _ (by omega) (by omega) (by omega), ot _ _ _ (by omega) (by omega) (by omega), ot _ _ _ (by omega) (by omega) (by omega), ot _ _ _ (by omega) (by omega) (by omega)]
                        exact q5 u (by omega)
                    · rw [dW_ne ei]
                      exact (d.2.2 i hi).chg (fun K j hK => ot _ _ _ (by omega) (by omega) (by omega))
                  · obtain ⟨g1, g2, g3, g4, a1, a2, a3, a4, a5, a6, a7, a8, a9⟩ := goR g Y K d
                    obtain ⟨g5, g6, b1, b2, b3, b4, b5⟩ := uR g4 (Y.tr a7) a5
                    obtain ⟨g7, g8, c1, c2, c3, c4, c5⟩ := vR g6 ((Y.tr a7).tr b5) b3
                    have c58 := (a7.tr b5).tr c5
                    obtain ⟨g9, p1, p2, p3⟩ := o7 g8 (Y.tr c58) c3
                    have c9 : Ch cTr g g9 := c58.tr p3
                    have e36 : g9.1 36 0 ((((3 : Int32) + (g.1 8 0 7)) - 1).toNatClampNeg) = zI (md_tk (E m)) := by rw [ri g d, zI_cn (by omega), c9.at (by unfold cTr; omega)]; exact (d.2 m (by omega)).2.2.1
                    have ei : (6 * (((3 : Int32) + (g.1 8 0 7)) - 1)) + (g9.1 36 0 ((((3 : Int32) + (g.1 8 0 7)) - 1).toNatClampNeg)) = zI ((6 * (3 + m) + md_tk (E m) : Nat) : Int) := by
                      rw [e36, ri g d, zl_6, zI_mul, zI_add]; rfl
                    have jj : jm_in ((6 * (((3 : Int32) + (g.1 8 0 7)) - 1)) + (g9.1 36 0 ((((3 : Int32) + (g.1 8 0 7)) - 1).toNatClampNeg))) 36 := by rw [ei]; exact zI_in (by omega) (by omega) (by omega)
                    obtain ⟨k, ek⟩ : ∃ k, k = jm_sI (jm_sI (jm_sI (jm_sI (jm_sI (jm_sI g9 38 0 (6 * (3 + m) + md_tk (E m)) (zI x)) 39 0 (6 * (3 + m) + md_tk (E m)) (zI y)) 40 0 (6 * (3 + m) + md_tk (E m)) (zI z)) 41 0 (6 * (3 + m) + md_tk (E m)) (zI w)) 36 0 (3 + m) (zI ((md_tk (E m) + 1 : Nat) : Int))) 37 0 (3 + m) (zI (L : Nat)) := ⟨_, rfl⟩
                    have ck : Ch cDq g9 k := by
                      rw [ek]
                      exact (((((Ch.sI (by unfold cDq; omega)).tr (Ch.sI (by unfold cDq; omega))).tr (Ch.sI (by unfold cDq; omega))).tr (Ch.sI (by unfold cDq; omega))).tr (Ch.sI (by unfold cDq; omega))).tr (Ch.sI (by unfold cDq; omega))
                    have ko : ∀ K j, ¬ ((K = 36 ∨ K = 37) ∧ j = 3 + m) → ¬ (38 ≤ K ∧ K ≤ 41 ∧ j = 6 * (3 + m) + md_tk (E m)) → k.1 K 0 j = g9.1 K 0 j := fun K j q1 q2 => by rw [ek, sI_ne (by omega), sI_ne (by omega), sI_ne (by omega), sI_ne (by omega), sI_ne (by omega), sI_ne (by omega)]
                    refine ⟨k, wp_M_readTask ⟨fun hc => absurd hc (r0 g d), fun _ => ⟨rj g d, fun hc => absurd hc (q6 g d), fun _ => ⟨g1, a1, _, g2, a2, fun hc => absurd hc hx1, fun _ => ⟨g3, a3, _, g4, a4, fun hc => absurd hc hy1, fun _ => ⟨_, g4, a8, fun _ => ⟨_, g4, a9, fun _ => ⟨g5, b1, _, g6, b2, fun hc => absurd hc hz1, fun _ => ⟨g7, c1, _, g8, by rw [exy]; exact c2, fun hc => absurd hc hw1, fun _ => ⟨g9, p1, rj g d, jj, jj, jj, jj, rj g d, rj g d, rj g d, ?_⟩⟩⟩, fun hc => absurd le24 hc⟩, fun hc => absurd le96 hc⟩⟩⟩⟩⟩, ⟨by rw [ko _ _ (by omega) (by omega), c9.at (by unfold cTr; omega)]; exact d.1, fun i hi => ?_⟩, ⟨?_, ?_, fun q => ?_, fun q => ?_⟩, (cDq_r c9).tr ck⟩
                    · rw [ei, e36, ri g d, zI_cn (by omega), zI_cn (by omega), e_p1, ← ek]
                    · by_cases em : i = m
                      · rw [em, dW_eq]
                        obtain ⟨q1, q2, q3, q4, q5⟩ := d.2 m (by omega)
                        refine ⟨by rw [ko _ _ (by omega) (by omega), c9.at (by unfold cTr; omega)]; exact q1, by rw [ko _ _ (by omega) (by omega), c9.at (by unfold cTr; omega)]; exact q2, by rw [ek, sI_ne (by omega), sI_eq]; rfl, by rw [ek, sI_eq]; rfl, fun u hu => ?_⟩
                        have hu' : u < md_tk (E m) + 1 := hu
                        show _ = zI (up (md_ph (E m)) (md_tk (E m)) x u) ∧ _ = zI (up (md_pe (E m)) (md_tk (E m)) y u) ∧ _ = zI (up (md_co (E m)) (md_tk (E m)) z u) ∧ _ = zI (up (md_sp (E m)) (md_tk (E m)) w u)
                        by_cases eu : u = md_tk (E m)
                        · rw [eu, up_eq, up_eq, up_eq, up_eq]
                          refine ⟨?_, ?_, ?_, ?_⟩
                          · rw [ek, sI_ne (by omega), sI_ne (by omega), sI_ne (by omega), sI_ne (by omega), sI_ne (by omega), sI_eq]
                          · rw [ek, sI_ne (by omega), sI_ne (by omega), sI_ne (by omega), sI_ne (by omega), sI_eq]
                          · rw [ek, sI_ne (by omega), sI_ne (by omega), sI_ne (by omega), sI_eq]
                          · rw [ek, sI_ne (by omega), sI_ne (by omega), sI_eq]
                        · rw [up_ne eu, up_ne eu, up_ne eu, up_ne eu, ko _ _ (by omega) (by omega), ko _ _ (by omega) (by omega), ko _ _ (by omega) (by omega), ko _ _ (by omega) (by omega), c9.at (by unfold cTr; omega), c9.at (by unfold cTr; omega), c9.at (by unfold cTr; omega), c9.at (by unfold cTr; omega)]
                          exact q5 u (by omega)
                      · rw [dW_ne em]
                        exact (d.2 i hi).chg (W i hi).2.2.1 (fun K j hK => by rw [ko _ _ (by omega) (by omega), c9.at (by unfold cTr; omega)])
                    · rw [ko _ _ (by omega) (by omega)]; exact p2.1
                    · rw [ko _ _ (by omega) (by omega)]; exact p2.2.1
                    · rw [ko _ _ (by omega) (by omega)]; exact p2.2.2.1 q
                    · rw [ko _ _ (by omega) (by omega)]; exact p2.2.2.2 q
            · have n24 : ¬ zI ((L : Int) / y + jbs (md_pe (E m)) L (md_tk (E m))) ≤ 24 := by rw [zl_24, zI_le (by omega) (by omega) (by omega) (by omega)]; exact h24
              refine Or.inl ⟨6, s2, by omega, by omega, fun h dp X K d => ?_, fun g Y K d => ?_⟩
              · obtain ⟨h1, h2, a1, a2, a3, a4, a5, a6, a7, a8, a9⟩ := goC h dp X K d
                obtain ⟨h', f1, f2, f3, f4⟩ := s_fail (h := h2) (q := 6) a6
                exact ⟨h', wp_Reader_readTask ⟨fun hc => absurd hc (n0 h dp d), fun _ => ⟨i3 h dp d, fun _ => ⟨1, h1, a1, fun hc => absurd hc (by decide), fun _ => ⟨1, h2, a3, fun hc => absurd hc (by decide), fun _ => ⟨_, h2, by rw [eo h dp d, a4]; exact a8, fun _ => ⟨_, h2, by rw [eo h dp d, a4]; exact a9, fun hc => absurd hc n24, fun _ => ⟨0, h', f1, rfl, rfl⟩⟩, fun hc => absurd le96 hc⟩⟩⟩, fun hc => absurd (l6 h dp d) hc⟩⟩, f2, f3, cDr_f ((cTf_k a7).tr (f4.mono (fun K i j x => by unfold cTf; omega)))⟩
              · obtain ⟨g1, g2, g3, g4, a1, a2, a3, a4, a5, a6, a7, a8, a9⟩ := goR g Y K d
                obtain ⟨g', f1, f2, f3, f4⟩ := s_errs (g := g4) (q := 6) a6
                exact ⟨g', wp_M_readTask ⟨fun hc => absurd hc (r0 g d), fun _ => ⟨rj g d, fun hc => absurd hc (q6 g d), fun _ => ⟨g1, a1, _, g2, a2, fun hc => absurd hc hx1, fun _ => ⟨g3, a3, _, g4, a4, fun hc => absurd hc hy1, fun _ => ⟨_, g4, a8, fun _ => ⟨_, g4, a9, fun hc => absurd hc n24, fun _ => ⟨_, g', f1, rfl⟩⟩, fun hc => absurd le96 hc⟩⟩⟩⟩⟩, f2, f3, cDq_e ((cTe_r a7).tr (f4.mono (fun K i j x => by unfold cTe; omega)))⟩
          · have n96 : ¬ zI ((L : Nat) : Int) ≤ 96 := by rw [zl_96, zI_le (by omega) (by omega) (by omega) (by omega)]; omega
            refine Or.inl ⟨5, s2, by omega, by omega, fun h dp X K d => ?_, fun g Y K d => ?_⟩
            · obtain ⟨h1, h2, a1, a2, a3, a4, a5, a6, a7, a8, a9⟩ := goC h dp X K d
              obtain ⟨h', f1, f2, f3, f4⟩ := s_fail (h := h2) (q := 5) a6
              exact ⟨h', wp_Reader_readTask ⟨fun hc => absurd hc (n0 h dp d), fun _ => ⟨i3 h dp d, fun _ => ⟨1, h1, a1, fun hc => absurd hc (by decide), fun _ => ⟨1, h2, a3, fun hc => absurd hc (by decide), fun _ => ⟨_, h2, by rw [eo h dp d, a4]; exact a8, fun hc => absurd hc n96, fun _ => ⟨0, h', f1, rfl, rfl⟩⟩⟩⟩, fun hc => absurd (l6 h dp d) hc⟩⟩, f2, f3, cDr_f ((cTf_k a7).tr (f4.mono (fun K i j x => by unfold cTf; omega)))⟩
            · obtain ⟨g1, g2, g3, g4, a1, a2, a3, a4, a5, a6, a7, a8, a9⟩ := goR g Y K d
              obtain ⟨g', f1, f2, f3, f4⟩ := s_errs (g := g4) (q := 5) a6
              exact ⟨g', wp_M_readTask ⟨fun hc => absurd hc (r0 g d), fun _ => ⟨rj g d, fun hc => absurd hc (q6 g d), fun _ => ⟨g1, a1, _, g2, a2, fun hc => absurd hc hx1, fun _ => ⟨g3, a3, _, g4, a4, fun hc => absurd hc hy1, fun _ => ⟨_, g4, a8, fun hc => absurd hc n96, fun _ => ⟨_, g', f1, rfl⟩⟩⟩⟩⟩⟩, f2, f3, cDq_e ((cTe_r a7).tr (f4.mono (fun K i j x => by unfold cTe; omega)))⟩
end TASKL
