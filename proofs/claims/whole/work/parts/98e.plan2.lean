/-! ===== the call plan ===== -/
/-- what a plan with a fault changes -/
def cPf (dp : Nat) : Nat → Nat → Nat → Prop := fun K i j => K = 4 ∨ ((K = 2 ∨ (22 ≤ K ∧ K ≤ 25)) ∧ 3 * dp ≤ i ∧ i < 3 * dp + 3) ∨ (K = 3 ∧ i = dp) ∨ (K = 7 ∧ (j = 8 ∨ j = 9 ∨ j = 10)) ∨ (K = 8 ∧ (j ≤ 3 ∨ j = 5 ∨ j = 7 ∨ (16 ≤ j ∧ j ≤ 22))) ∨ (34 ≤ K ∧ K ≤ 37 ∧ 3 ≤ j) ∨ (38 ≤ K ∧ K ≤ 41 ∧ 18 ≤ j)
theorem sR_at (h : jm_H) (K i j x a b c : Nat) : (jm_sR h K i j x).2.1 a b c = if a = K ∧ c = j ∧ b = i then x else h.2.1 a b c := rfl
section PLAN2
variable {B : Int} {h : jm_H} {nm : Nat} {D : Nat → MD}
theorem PL.pf {h' : jm_H} (P : PL h nm D) {dp : Nat} (hdp : dp + h.2.1 7 0 1 = 1) (a : Ch (cPf dp) h h') : PL h' nm D := by
  have F24 := fun m (hm : m < nm) => P.F24 hm
  obtain ⟨p1, p2, p3, p4, p5⟩ := P
  refine ⟨p1, by rw [a.2]; exact p2, by rw [a.2, a.at (by unfold cPf; omega)]; exact p3, by rw [a.at (by unfold cPf; omega)]; exact p4, fun m hm => ?_⟩
  obtain ⟨q1, q2, q3, q4, q5, q6⟩ := p5 m hm
  exact ⟨q1, by rw [a.2]; exact q2.chg (fun K j hK => a.at (by unfold cPf; omega)), q3.chg2 q1.2.2.2.1 q1.2.2.2.2.1 (fun K j hK => a.at (by unfold cPf; omega)), q4.chg q1.2.2.2.2.1 (fun K i j hK => a.at (by unfold cPf; omega)), q5.chg (F24 m hm) (fun K j hK => a.at (by unfold cPf; omega)), q6⟩
theorem CKI.pf {h' : jm_H} (P : PL h nm D) (C : CKI h nm D B) {dp : Nat} (a : Ch (cPf dp) h h') : CKI h' nm D B := by
  obtain ⟨c1, c2, b, b1, b2, b3, b4⟩ := C
  have tl : ∀ m, m < nm → TL h m (D m) → TL h' m (D m) := fun m hm t => t.chg (P.F24 hm) (fun K j hK => a.at (by unfold cPf; omega))
  refine ⟨fun x => by rw [a.at (by unfold cPf; omega)]; exact c1 x, fun x => ?_, b, b1, ?_, ?_, fun x => ?_⟩
  · obtain ⟨c, k1, k2, k3, k4⟩ := c2 x
    exact ⟨c, k1.chg (fun K j hK => a.at (by unfold cPf; omega)), k2.chg (fun j => a.at (by unfold cPf; omega)), k3, k4.M k3 tl⟩
  · rw [a.at (by unfold cPf; omega)]; exact b2
  · rw [a.at (by unfold cPf; omega)]; exact b3
  · obtain ⟨x0, c, k1, k2, k3, k4⟩ := b4 x
    exact ⟨x0, c, k1.chg (fun K j hK => a.at (by unfold cPf; omega)), k2.chg (fun j => a.at (by unfold cPf; omega)), k3, k4.M k3 tl⟩
theorem c_plan (hB : 0 ≤ B) (I : INV B h) (a : Int32) : ∃ v h1 h2, m_FR_plan a h v h1 ∧ m_M_plan a h1 v h2 ∧ INV B h2 := by
  obtain ⟨nm, D, P, C, T, Q⟩ := I
  obtain ⟨x, rfl, x1, x2⟩ := i32x a
  have Q' := Q
  obtain ⟨n0, n1, n2, n3, n4⟩ := Q
  have inx : ∀ g : jm_H, g.1 8 0 5 = zI n0 → m_M_in (zI x) 0 (g.1 8 0 5) g (zI (if 0 ≤ x ∧ x ≤ (n0 : Int) then 1 else 0)) g := fun g e5 => by
    rw [e5]; exact s_in (x := x) (a := 0) (b := (n0 : Int)) x1 x2 (by omega) (by omega) (by omega) (by omega)
  by_cases hx : 0 ≤ x ∧ x ≤ (n0 : Int)
  · obtain ⟨n, rfl⟩ : ∃ n : Nat, x = n := ⟨x.toNat, by omega⟩
    obtain ⟨dp, edp⟩ : ∃ dp, dp = h.2.1 4 0 9 := ⟨_, rfl⟩
    obtain ⟨pl, epl⟩ : ∃ pl, pl = h.2.1 7 0 1 := ⟨_, rfl⟩
    have hdp : dp + pl = 1 := by rw [edp, epl]; exact P.2.1.2
    -- the text
    obtain ⟨f, ef⟩ : ∃ f : Nat → Int, f = fun i => (h.1 33 0 i).toInt := ⟨_, rfl⟩
    have e33 : ∀ i, h.1 33 0 i = zI (f i) := fun i => by rw [ef]; exact (zI_of _).symm
    have t : txt f n := ⟨by omega, fun i hi => by
      obtain ⟨_, z, z1, z2, z3⟩ := n4 i (by omega)
      have : f i = z := by rw [ef]; show (h.1 33 0 i).toInt = z; rw [z3]; exact zI_toInt (by omega) (by omega)
      omega⟩
    -- the class begins to read
    obtain ⟨h0, eh0⟩ : ∃ h0, h0 = jm_sI (jm_sI (jm_sI (jm_sI (jm_sI h 4 0 2 (zI n)) 4 0 1 0) 4 0 3 0) 3 dp 0 0) 4 0 7 0 := ⟨_, rfl⟩
    have c0 : Ch (cPf dp) h h0 := by
      rw [eh0]
      exact ((((Ch.sI (by unfold cPf; omega)).tr (Ch.sI (by unfold cPf; omega))).tr (Ch.sI (by unfold cPf; omega))).tr (Ch.sI (by unfold cPf; omega))).tr (Ch.sI (by unfold cPf; omega))
    have h41 : h0.1 4 0 1 = 0 := by rw [eh0, sI_ne (by omega), sI_ne (by omega), sI_ne (by omega), sI_eq]
    have h47 : h0.1 4 0 7 = 0 := by rw [eh0, sI_eq]
    have X0 : TX h0 f n := ⟨by rw [eh0, sI_ne (by omega), sI_ne (by omega), sI_ne (by omega), sI_ne (by omega), sI_eq], fun i hi => by
      rw [c0.at (by unfold cPf; omega), (n4 i (by omega)).1]; exact e33 i⟩
    have a30 : h0.1 4 0 3 = zI ((0 : Nat) : Int) := by rw [eh0, sI_ne (by omega), sI_ne (by omega), sI_eq]; rfl
    have d0 : drC h0 dp 0 D := ⟨by rw [c0.2]; exact edp.symm, by rw [eh0, sI_ne (by omega), sI_eq]; rfl, fun m hm => by omega⟩
    have rd : ∀ v h2, l_Reader_read_21 (zI ((0 : Nat) : Int)) h0 (some (jm_i v), h2) → m_Reader_read (zI n) h v h2 := fun v h2 r => by
      refine wp_Reader_read ?_
      have ei : (if (h.1 4 0 1) < zI (n : Int) then (h.1 4 0 1) else zI (n : Int)) = zI (n : Int) := if_neg (by rw [n2, zI_lt (by omega) (by omega) (by omega) (by omega)]; omega)
      rw [ei, ← edp, ← eh0]; exact r
    -- the reference begins to read
    have refs : ∀ g : jm_H, (∀ j, g.1 33 0 j = h.1 33 0 j) → ∃ k, k = jm_sI (jm_sI (jm_sI (jm_sI (jm_sI (hAn g) 8 0 5 0) 8 0 2 0) 8 0 16 (zI n)) 8 0 18 0) 8 0 7 0 ∧ TY k f n ∧ k.1 8 0 18 = zI ((0 : Nat) : Int) ∧ drR k 0 D ∧ k.1 8 0 5 = 0 ∧ k.1 8 0 2 = 0 ∧ k.1 8 0 1 = 0 ∧ Ch (cPf dp) g k ∧ ∀ v g2, RLn k (some (jm_i v), g2) → m_M_readPlan (zI n) (jm_sI (jm_sI (hAn g) 8 0 5 0) 8 0 2 0) v g2 := fun g e => by
      have cA : Ch (cPf dp) g (hAn g) := ((Ch.sI (by unfold cPf; omega)).tr (Ch.sI (by unfold cPf; omega))).tr (Ch.sI (by unfold cPf; omega))
      obtain ⟨k, ek⟩ : ∃ k, k = jm_sI (jm_sI (jm_sI (jm_sI (jm_sI (hAn g) 8 0 5 0) 8 0 2 0) 8 0 16 (zI n)) 8 0 18 0) 8 0 7 0 := ⟨_, rfl⟩
      have ck : Ch (cPf dp) g k := by
        rw [ek]
        exact ((((cA.tr (Ch.sI (by unfold cPf; omega))).tr (Ch.sI (by unfold cPf; omega))).tr (Ch.sI (by unfold cPf; omega))).tr (Ch.sI (by unfold cPf; omega))).tr (Ch.sI (by unfold cPf; omega))
      refine ⟨k, ek, ⟨by rw [ek, sI_ne (by omega), sI_ne (by omega), sI_eq], fun i hi => by rw [ck.at (by unfold cPf; omega), e]; exact e33 i⟩, by rw [ek, sI_ne (by omega), sI_eq]; rfl, ⟨by rw [ek, sI_eq]; rfl, fun m hm => by omega⟩, ?_, ?_, ?_, ck, fun v g2 r => ?_⟩
      · rw [ek, sI_ne (by omega), sI_ne (by omega), sI_ne (by omega), sI_ne (by omega), sI_eq]
      · rw [ek, sI_ne (by omega), sI_ne (by omega), sI_ne (by omega), sI_eq]
      · rw [ek, sI_ne (by omega), sI_ne (by omega), sI_ne (by omega), sI_ne (by omega), sI_ne (by omega)]; exact hAn_t g
      · refine wp_M_readPlan ?_
        rw [← ek]; exact r
    have nlt : ¬ (zI (n : Int) < 0) := by rw [zl_0, zI_lt (by omega) (by omega) (by omega) (by omega)]; omega
    have nle : zI (n : Int) ≤ h.1 4 0 1 := by rw [n2, zI_le (by omega) (by omega) (by omega) (by omega)]; omega
    have hx' : 0 ≤ (n : Int) ∧ (n : Int) ≤ (n0 : Int) := hx
    rcases read_ex t (n + 1) 0 0 0 D (by omega) (by omega) (by omega) (by omega) (fun m hm => by omega) with ⟨q, s', q1, q2, F1, F2⟩ | ⟨nd, E, y1, y2, yC, yR⟩
    · -- a fault
      obtain ⟨h2, a1, a2, a3⟩ := F1 h0 dp X0 a30 d0
      have c2 : Ch (cPf dp) h h2 := c0.tr (a3.mono (fun K i j z => by unfold cDr cTf at z; unfold cPf; omega))
      obtain ⟨g, eg⟩ : ∃ g, g = jm_sI (jm_sI (jm_sI h2 7 0 9 (zI q)) 7 0 10 (zI s')) 7 0 8 4 := ⟨_, rfl⟩
      have cg : Ch (cPf dp) h g := by
        rw [eg]
        exact ((c2.tr (Ch.sI (by unfold cPf; omega))).tr (Ch.sI (by unfold cPf; omega))).tr (Ch.sI (by unfold cPf; omega))
      obtain ⟨k, ek, k1, k2, k3, k5, k6, k7, k8, k9⟩ := refs g (fun j => cg.at (by unfold cPf; omega))
      obtain ⟨g2, b1, b2, b3, b4⟩ := F2 k k1 k2 k3
      have c4 : Ch (cPf dp) g g2 := k8.tr (b4.mono (fun K i j z => by unfold cDq cTe at z; unfold cPf; omega))
      obtain ⟨g3, eg3⟩ : ∃ g3, g3 = jm_sI (jm_sI (jm_sI g2 8 0 2 (zI q)) 8 0 3 (zI s')) 8 0 1 4 := ⟨_, rfl⟩
      have c5 : Ch (cPf dp) g g3 := by
        rw [eg3]
        exact ((c4.tr (Ch.sI (by unfold cPf; omega))).tr (Ch.sI (by unfold cPf; omega))).tr (Ch.sI (by unfold cPf; omega))
      have cA : Ch (cPf dp) h g3 := cg.tr c5
      have u7 : ∀ j, g3.1 7 0 j = g.1 7 0 j := fun j => by
        rw [eg3, sI_ne (by omega), sI_ne (by omega), sI_ne (by omega), b4.at (by unfold cDq cTe; omega), ek, sI_ne (by omega), sI_ne (by omega), sI_ne (by omega), sI_ne (by omega), sI_ne (by omega), hAn56 _ (by omega)]
      have nq : ¬ zI q = 0 := by rw [zl_0, zI_eq (by omega) (by omega) (by omega) (by omega)]; omega
      refine ⟨-1, g, g3, wp_FR_plan ⟨fun hc => absurd hc nlt, fun _ => ⟨fun _ => ⟨zI q, h2, rd _ _ a1, fun hc => absurd hc nq, fun _ => ⟨_, _, wp_FR_refused rfl, by rw [a2, ← eg]⟩⟩, fun hc => absurd nle hc⟩⟩, wp_M_plan ⟨_, s_an, _, _, inx (hAn g) ?_, fun hc => absurd hc (nz1 hx'), fun _ => ⟨_, g2, k9 _ _ b1, fun _ => ⟨_, _, wp_M_no rfl, by rw [b2, b3, ← eg3]⟩, fun hc => absurd rfl hc⟩⟩, nm, D, P.pf (by omega) cA, C.pf P cA, ⟨?_, ?_, fun _ => ?_⟩, 0, by omega, ?_, ?_, fun i hi => by omega⟩
      · rw [(hAn_c g).at (by unfold cM2 cMs; omega), eg, sI_ne (by omega), sI_ne (by omega), sI_ne (by omega), a3.at (by unfold cDr cTf; omega), eh0, sI_ne (by omega), sI_ne (by omega), sI_ne (by omega), sI_ne (by omega), sI_ne (by omega)]; exact n3
      · rw [u7, eg, sI_eq, eg3, sI_eq]
      · rw [u7, eg, sI_ne (by omega), sI_ne (by omega), sI_eq, eg3, sI_ne (by omega), sI_ne (by omega), sI_eq]
      · rw [u7, eg, sI_ne (by omega), sI_eq, eg3, sI_ne (by omega), sI_eq]
      · rw [eg3, sI_ne (by omega), sI_ne (by omega), sI_ne (by omega), b4.at (by unfold cDq cTe; omega), ek, sI_ne (by omega), sI_ne (by omega), sI_ne (by omega), sI_ne (by omega), sI_ne (by omega), hAn56 _ (by omega), eg, sI_ne (by omega), sI_ne (by omega), sI_ne (by omega), a3.at (by unfold cDr cTf; omega)]; exact h41
      · rw [eg3, sI_ne (by omega), sI_ne (by omega), sI_ne (by omega), b4.at (by unfold cDq cTe; omega)]; exact k5
    · -- a plan
      have key : ∀ m, ∃ Fm : MD, m < nd → WFm Fm ∧ PCf (E m) Fm ∧ PRf (E m) Fm := fun m => by
        by_cases hm : m < nd
        · obtain ⟨J, jt, ja, w1, w2, w3⟩ := num_ex (y2 m hm)
          exact ⟨dF (E m) J jt ja, fun _ => ⟨w1, w2, w3⟩⟩
        · exact ⟨E m, fun z => absurd z hm⟩
      obtain ⟨F, HF⟩ := Classical.axiomOfChoice key
      obtain ⟨h2, a1, a2, a3⟩ := yC h0 dp X0 a30 d0
      have h27 : h2.1 4 0 7 = 0 := by rw [a2.at (by unfold cDo cTk; omega)]; exact h47
      obtain ⟨h3, b1, b2, b3⟩ := s_rd_80 (E := E) (F := F) y1.2 (dp := dp) (q := 0) (fun m hm => (HF m hm).2.1) nd 0 h2 (by omega) a1.1 a1.2.1 h27 (fun i hi => by omega) (fun i _ hi => a1.2.2 i hi)
      have r3 : m_Reader_read (zI n) h 0 h3 := rd _ _ (a3 _ b1)
      have c3 : Ch (fun K i j => cPf dp K i j ∨ cNm dp K i j) h h3 := ((c0.mono (fun K i j z => Or.inl z)).tr (a2.mono (fun K i j z => by unfold cDo cTk at z; unfold cPf; omega))).tr (b3.mono (fun K i j z => Or.inr z))
      -- plan and draft change places
      obtain ⟨h4, eh4⟩ : ∃ h4, h4 = jm_sR (jm_sR (jm_sI h3 7 0 9 0) 7 0 1 dp) 4 0 9 pl := ⟨_, rfl⟩
      have h41' : ∀ K i j, h4.1 K i j = (jm_sI h3 7 0 9 0).1 K i j := fun K i j => by rw [eh4]; rfl
      have r71 : h4.2.1 7 0 1 = dp := by rw [eh4, sR_at, if_neg (by omega), sR_at, if_pos ⟨rfl, rfl, rfl⟩]
      have r49 : h4.2.1 4 0 9 = pl := by rw [eh4, sR_at, if_pos ⟨rfl, rfl, rfl⟩]
      have n3' : h4.1 3 dp 0 = zI nd := by rw [h41', sI_ne (by omega), b3.at (by unfold cNm; omega)]; exact a1.2.1
      obtain ⟨h5, p1, p2, p3, p4, p5, p6⟩ := s_pl_43 (F := F) y1.2 (pl := dp) (fun m hm => (HF m hm).1) nd 0 h4 (by omega) r71 n3' (fun i hi => (b2 i hi).chg (fun K j hK => by rw [h41', sI_ne (by omega)])) (fun i hi => by omega)
      have o5 : ∀ K i j, ¬ (cPf dp K i j ∨ cNm dp K i j) → ¬ cPt K i j → h5.1 K i j = h.1 K i j := fun K i j z1 z2 => by
        rw [p6.at z2, h41', sI_ne (by unfold cPf at z1; omega), c3.at z1]
      have F1 : m_FR_plan (zI n) h (zI nd) h5 := by
        refine wp_FR_plan ⟨fun hc => absurd hc nlt, fun _ => ⟨fun _ => ⟨0, h3, r3, fun _ => ?_, fun hc => absurd rfl hc⟩, fun hc => absurd nle hc⟩⟩
        have e2 : h3.2 = h.2 := c3.2
        rw [e2, ← edp, ← epl, ← eh4]; exact p1
      obtain ⟨k, ek, k1, k2, k3, k5, k6, k7, k8, k9⟩ := refs h5 (fun j => o5 33 0 j (by unfold cPf cNm; omega) (by unfold cPt cBg; omega))
      obtain ⟨g2, u1, u2, u3⟩ := yR k k1 k2 k3
      have c4 : Ch (cPf dp) h5 g2 := k8.tr (u3.mono (fun K i j z => by unfold cDq cTe at z; unfold cPf; omega))
      obtain ⟨g3, eg3⟩ : ∃ g3, g3 = jm_sI g2 8 0 6 (zI nd) := ⟨_, rfl⟩
      have g3n : ∀ K i j, ¬ (K = 8 ∧ j = 6) → g3.1 K i j = g2.1 K i j := fun K i j z => by rw [eg3, sI_ne (by omega)]
      obtain ⟨g4, v1, v2, v3, v4, v5, v6⟩ := s_pm_41 (E := E) (F := F) y1.2 (fun m hm => (HF m hm).2.2) y2 (fun m hm => (HF m hm).1) nd 0 g3 (by omega) (by rw [eg3, sI_eq]) (fun i hi => by omega) (fun i hi => (u2.2 i hi).chg (y2 i hi).2.2.1 (fun K j hK => g3n _ _ _ (by omega)))
      have o4 : ∀ K i j, ¬ (cPf dp K i j ∨ (K = 8 ∧ j = 6) ∨ cPm K i j) → g4.1 K i j = h5.1 K i j := fun K i j z => by
        rw [v6.at (fun w => z (Or.inr (Or.inr w))), g3n _ _ _ (fun w => z (Or.inr (Or.inl w))), c4.at (fun w => z (Or.inl w))]
      have e2 : g4.2 = h5.2 := by rw [v6.2, eg3]; exact c4.2
      have e2' : h5.2 = h4.2 := p6.2
      -- the class's troubles aren't the reference's to change
      have o7 : ∀ j, g4.1 7 0 j = h5.1 7 0 j := fun j => by
        rw [v6.at (by unfold cPm cSC; omega), g3n _ _ _ (by omega), u3.at (by unfold cDq cTe; omega), ek, sI_ne (by omega), sI_ne (by omega), sI_ne (by omega), sI_ne (by omega), sI_ne (by omega), hAn56 _ (by omega)]
      -- nor its draft and plan
      have oC : ∀ K i j, (K = 2 ∨ K = 3 ∨ K = 4 ∨ (22 ≤ K ∧ K ≤ 27) ∨ K = 29) → g4.1 K i j = h5.1 K i j := fun K i j hK => by
        rw [v6.at (by unfold cPm cSC; omega), g3n _ _ _ (by omega), u3.at (by unfold cDq cTe; omega), ek, sI_ne (by omega), sI_ne (by omega), sI_ne (by omega), sI_ne (by omega), sI_ne (by omega), hAn56 _ (by omega)]
      have nm1 : ¬ zI (nd : Int) = -1 := by rw [zl_m1, zI_eq (by omega) (by omega) (by omega) (by omega)]; omega
      have t58 : (hAn h5).1 8 0 5 = zI n0 := by
        rw [(hAn_c h5).at (by unfold cM2 cMs; omega), p6.at (by unfold cPt cBg; omega), h41', sI_ne (by omega), b3.at (by unfold cNm; omega), a2.at (by unfold cDo cTk; omega), eh0, sI_ne (by omega), sI_ne (by omega), sI_ne (by omega), sI_ne (by omega), sI_ne (by omega)]; exact n3
      have fl8 : ∀ j, j = 1 ∨ j = 2 ∨ j = 5 → g4.1 8 0 j = k.1 8 0 j := fun j hj => by
        rw [v6.at (by unfold cPm cSC; omega), g3n _ _ _ (by omega), u3.at (by unfold cDq cTe; omega)]
      refine ⟨zI nd, h5, g4, F1, wp_M_plan ⟨_, s_an, _, _, inx (hAn h5) t58, fun hc => absurd hc (nz1 hx'), fun _ => ⟨_, g2, k9 _ _ u1, fun hc => absurd hc nm1, fun _ => by rw [u2.1, ← eg3]; exact v1⟩⟩, INV.new (nm := nd) (D := F) hB (by omega) ⟨y1.2, ?_, ?_, ?_, fun i hi => ?_⟩ (p3.chg (fun K j hK => ?_)) v3 ?_ v4 ?_ ?_ ?_ ⟨0, by omega, ?_, ?_, fun i hi => by omega⟩⟩
      · rw [e2, e2', r71, r49]; omega
      · rw [e2, e2', r71, oC _ _ _ (by omega), p6.at (by unfold cPt cBg; omega)]; exact n3'
      · rw [v6.at (by unfold cPm cSC; omega), eg3, sI_eq]
      · obtain ⟨w1, w2, w3⟩ := HF i hi
        obtain ⟨z1, z2, z3⟩ := p2 i hi
        rw [e2, e2', r71]
        refine ⟨w1, z1.chg (fun K j hK => oC _ _ _ (by omega)), v2 i hi, z2.chg w1.2.2.2.2.1 (fun K i' j hK => ?_), ⟨0, v5 i (by omega), Or.inl rfl⟩, z3⟩
        rw [v6.at (by unfold cPm cSC; omega), g3n _ _ _ (by omega), u3.at (by unfold cDq cTe; omega), ek, sI_ne (by omega), sI_ne (by omega), sI_ne (by omega), sI_ne (by omega), sI_ne (by omega), hAn56 _ (by omega)]
      · rw [v6.at (by unfold cPm cSC; omega), g3n _ _ _ (by omega), u3.at (by unfold cDq cTe; omega), ek, sI_ne (by omega), sI_ne (by omega), sI_ne (by omega), sI_ne (by omega), sI_ne (by omega), hAn56 _ (by omega)]
      · rw [o7]; exact p4
      · rw [o7]; exact p5
      · rw [fl8 _ (by omega)]; exact k7
      · rw [o7, p6.at (by unfold cPt cBg; omega), h41', sI_eq, fl8 _ (by omega), k6]
      · rw [oC _ _ _ (by omega), p6.at (by unfold cPt cBg; omega), h41', sI_ne (by omega), b3.at (by unfold cNm; omega), a2.at (by unfold cDo cTk; omega)]; exact h41
      · rw [fl8 _ (by omega)]; exact k5
  · have Pa := PLa P 2
    have e5 : (hAn (jm_sI h 7 0 8 2)).1 8 0 5 = zI n0 := by rw [(hAn_c _).at (by unfold cM2 cMs; omega), sI_ne (by omega)]; exact n3
    refine ⟨_, _, _, wp_FR_plan ⟨fun _ => ⟨_, _, wp_FR_refused rfl, rfl⟩, fun hc => ⟨fun hc2 => ?_, fun _ => ⟨_, _, wp_FR_refused rfl, rfl⟩⟩⟩, wp_M_plan ⟨_, s_an, _, _, inx _ e5, fun _ => ⟨_, _, wp_M_no rfl, rfl⟩, fun hc => absurd (nz0 hx) hc⟩, ref_inv P C T Q' (t := 2) (by decide)⟩
    rw [zl_0, zI_lt (by omega) (by omega) (by omega) (by omega)] at hc
    rw [n2, zI_le (by omega) (by omega) (by omega) (by omega)] at hc2; omega
end PLAN2
