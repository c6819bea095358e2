/-! ===== ahead, waiting ===== -/
section AHEAD2
variable {B : Int} {h : jm_H} {nm : Nat} {D : Nat → MD} {c : CK}
theorem s_fts (P : PL h nm D) (S : swOk nm D c) (k : KF h 0 c) : m_FR_framesToSwitch h (zI (sN D c)) h := by
  have hm := S.2.2.2.1
  have L := sw_L S
  have hto := sw_to S
  have fl := P.fl hm S.2.2.1
  have hn := S.2.2.2.2.2.1
  obtain ⟨k0, k1, k2, k3, k4, k5, k6, k7, k8, k9, k10⟩ := k
  have hs := s_hasSw (o := 0) k7 (by omega) (by omega)
  have el : h.1 1 (3 * 0 + (h.1 0 0 1).toNatClampNeg) 0 = zI (md_fr (D (k_mo c))) := by rw [k1, tq P hm]; exact fl.1
  rcases sw_n S with ⟨x1, x2, x3⟩ | ⟨x1, x2, x3, x4⟩
  · refine wp_FR_framesToSwitch ⟨by rw [k1]; exact in3 P hm, _, h, hs, fun _ => by rw [x2]; rfl, fun hc => absurd (nz0 (by omega)) hc⟩
  · refine wp_FR_framesToSwitch ⟨by rw [k1]; exact in3 P hm, _, h, hs, fun hc => absurd hc (nz1 x1), fun _ => ⟨fun _ => ⟨?_, ?_⟩, fun hc => ?_⟩⟩
    · rw [el, zl_0, zI_eq (by omega) (by omega) (by omega) (by omega)]; omega
    · have hz : 0 ≤ (sN D c : Int) * md_fr (D (k_mo c)) := Int.mul_nonneg (by omega) (by omega)
      have hat : k_at c ≤ k_now c + 600 := by
        rcases S.2.2.2.2.2.2 with y | ⟨_, _, _, _, y, _⟩ <;> omega
      rw [el, k8, k0, zI_sub, zI_div (by omega) (by omega) (by omega) (by omega), show k_at c - k_now c = (sN D c : Int) * md_fr (D (k_mo c)) by omega, Int.mul_ediv_cancel _ (by omega)]
    · rw [el, zl_0, zI_lt (by omega) (by omega) (by omega) (by omega)] at hc; omega
theorem s_moA (P : PL h nm D) (S : swOk nm D c) (k : KF h 0 c) {n : Nat} (hn : n ≤ 1000) : m_FR_modeAhead (zI n) h (zI (aMo D c n)) h := by
  have n3 := S.2.1
  have hs : sN D c ≤ 1000000 := by rcases sw_n S with x | x <;> omega
  refine wp_FR_modeAhead ⟨_, h, s_fts P S k, fun hc => ?_, fun hc => ?_⟩
  · rw [zI_le (by omega) (by omega) (by omega) (by omega)] at hc
    unfold aMo
    rw [if_neg (by omega), k.2.2.2.2.2.2.2.1]
    rcases sw_n S with ⟨x1, x2, x3⟩ | ⟨x1, x2, x3, x4⟩
    · omega
    · rw [Int.toNat_of_nonneg x1]
  · rw [zI_le (by omega) (by omega) (by omega) (by omega)] at hc
    unfold aMo
    rw [if_pos (by omega), k.2.1]
theorem s_frA (P : PL h nm D) (S : swOk nm D c) (k : KF h 0 c) {n : Nat} (hn : n ≤ 1000) : m_FR_frameAhead (zI n) h (zI (aFr D c n)) h := by
  have hm := sw_m S hn
  have fl := P.fl hm.1 hm.2.1
  have hF := (mF_b (S.1 _ hm.1)).1
  have hs : sN D c ≤ 1000000 := by rcases sw_n S with x | x <;> omega
  have el : h.1 1 (3 * 0 + (zI (aMo D c n : Int)).toNatClampNeg) 2 = zI (mF (D (aMo D c n))) := by rw [tq P hm.1]; exact fl.2.1
  have hfr := S.2.2.2.2.1
  have hF0 := (mF_b (S.1 _ S.2.2.2.1)).1
  refine wp_FR_frameAhead ⟨_, h, s_fts P S k, _, h, s_moA P S k hn, in3 P hm.1, fun _ => ⟨fun hc => ⟨?_, ?_⟩, fun hc => ⟨?_, ?_⟩⟩, fun hc => ?_⟩
  · rw [el, zl_0, zI_eq (by omega) (by omega) (by omega) (by omega)]; omega
  · rw [zI_le (by omega) (by omega) (by omega) (by omega)] at hc
    have e : aFr D c n = (n - sN D c) % mF (D (aMo D c n)) := by
      unfold aFr aMo
      rw [if_neg (by omega), if_neg (by omega)]
    rw [el, zI_sub, zI_rem (by omega) (by omega) (by omega) (by omega), e, show ((n : Int) - sN D c) = ((n - sN D c : Nat) : Int) by omega]; rfl
  · rw [el, zl_0, zI_eq (by omega) (by omega) (by omega) (by omega)]; omega
  · rw [zI_le (by omega) (by omega) (by omega) (by omega)] at hc
    have e : aFr D c n = (k_fr c + n) % mF (D (aMo D c n)) := by
      unfold aFr aMo
      rw [if_pos (by omega), if_pos (by omega)]
    rw [el, k.2.2.1, zI_add, zI_rem (by omega) (by omega) (by omega) (by omega), e]; rfl
  · rw [el, zl_0, zI_lt (by omega) (by omega) (by omega) (by omega)] at hc; omega
theorem s_beA (P : PL h nm D) (S : swOk nm D c) (k : KF h 0 c) {n : Nat} (hn : n ≤ 1000) : m_FR_beginningAhead (zI n) h (zI (aTi D c n)) h := by
  have hm := sw_m S hn
  have fl := P.fl hm.1 hm.2.1
  have hs : sN D c ≤ 1000000 := by rcases sw_n S with x | x <;> omega
  have el : h.1 1 (3 * 0 + (zI (aMo D c n : Int)).toNatClampNeg) 0 = zI (md_fr (D (aMo D c n))) := by rw [tq P hm.1]; exact fl.1
  refine wp_FR_beginningAhead ⟨_, h, s_fts P S k, _, h, s_moA P S k hn, in3 P hm.1, fun hc => ?_, fun hc => ?_⟩
  · rw [zI_le (by omega) (by omega) (by omega) (by omega)] at hc
    have e : aTi D c n = k_at c + ((n - sN D c : Nat) : Int) * md_fr (D (aMo D c n)) := by
      unfold aTi aMo
      rw [if_neg (by omega), if_neg (by omega)]
    rw [el, k.2.2.2.2.2.2.2.2.1, zI_sub, zI_mul, zI_add, e, show ((n : Int) - sN D c) = ((n - sN D c : Nat) : Int) by omega]
  · rw [zI_le (by omega) (by omega) (by omega) (by omega)] at hc
    have e : aTi D c n = k_now c + (n : Int) * md_fr (D (aMo D c n)) := by
      unfold aTi aMo
      rw [if_pos (by omega), if_pos (by omega)]
    rw [el, k.1, zI_mul, zI_add, e]
theorem s_slA (P : PL h nm D) (S : swOk nm D c) (k : KF h 0 c) {n : Nat} (hn : n ≤ 1000) : m_FR_slackAhead (zI n) h (zI (aSl D c n)) h := by
  have hm := sw_m S hn
  have fl := P.fl hm.1 hm.2.1
  have hF := (mF_b (S.1 _ hm.1)).1
  refine wp_FR_slackAhead ⟨_, h, s_moA P S k hn, in3 P hm.1, _, h, s_frA P S k hn, zI_in (by omega) (by omega) (by omega), ?_⟩
  rw [tq P hm.1, zI_cn (by omega), fl.2.2 _ hm.2.2]; rfl
noncomputable def ahV (D : Nat → MD) (c : CK) (n : Nat) (y : Int) : Int := if y = 0 then aTi D c n else if y = 1 then aMo D c n else if y = 2 then aFr D c n else aSl D c n
theorem s_ahM_28 (S : swOk nm D c) {n : Nat} (hn : n ≤ 99) {y : Int} (y1 : 0 ≤ y) (y2 : y ≤ 3) : ∀ (e q : Nat) (h : jm_H), q + e = n → CM h D c q → CB h nm D c → ∃ h', l_M_ahead_28 (zI n) (zI y) (zI q) h (some (jm_i (zI (ahV D c n y))), h') ∧ Ch c44 h h' := by
  intro e
  induction e with
  | zero =>
    intro q h eq C b
    have eq' : q = n := by omega
    subst eq'
    unfold ahV
    refine ⟨h, wp_M_ahead_28 ⟨fun _ => ⟨fun hc => ?_, fun h0 => ⟨fun hc => ?_, fun h1 => ⟨fun hc => ?_, fun h2 => ⟨_, h, s_seenSlack S b (by omega) C, ?_⟩⟩⟩⟩, fun hc => ?_⟩, Ch.rf h⟩
    · rw [zl_0, zI_eq (by omega) (by omega) (by omega) (by omega)] at hc
      rw [if_pos hc, C.1]
    · rw [zl_0, zI_eq (by omega) (by omega) (by omega) (by omega)] at h0
      rw [zl_1, zI_eq (by omega) (by omega) (by omega) (by omega)] at hc
      rw [if_neg h0, if_pos hc, C.2.1]
    · rw [zl_0, zI_eq (by omega) (by omega) (by omega) (by omega)] at h0
      rw [zl_1, zI_eq (by omega) (by omega) (by omega) (by omega)] at h1
      rw [zl_2, zI_eq (by omega) (by omega) (by omega) (by omega)] at hc
      rw [if_neg h0, if_neg h1, if_pos hc, C.2.2.1]
    · rw [zl_0, zI_eq (by omega) (by omega) (by omega) (by omega)] at h0
      rw [zl_1, zI_eq (by omega) (by omega) (by omega) (by omega)] at h1
      rw [zl_2, zI_eq (by omega) (by omega) (by omega) (by omega)] at h2
      rw [if_neg h0, if_neg h1, if_neg h2]
    · rw [zI_le (by omega) (by omega) (by omega) (by omega)] at hc; omega
  | succ e ih =>
    intro q h eq C b
    obtain ⟨h1, g1, g2, g3⟩ := s_goesOn S b (show q ≤ 999 by omega) C
    obtain ⟨h', r1, r2⟩ := ih (q + 1) h1 (by omega) g2 (b.ch S (fun K j hK => g3.at (by unfold c44; omega)))
    refine ⟨h', wp_M_ahead_28 ⟨fun hc => ?_, fun _ => ⟨h1, g1, ?_⟩⟩, g3.tr r2⟩
    · rw [zI_le (by omega) (by omega) (by omega) (by omega)] at hc; omega
    · rw [e_p1]; exact r1
theorem c_ahead (hB : B ≤ 1000000000) (I : INV B h) (a b : Int32) : ∃ v h1 h2, m_FR_ahead a b h v h1 ∧ m_M_ahead a b h1 v h2 ∧ INV B h2 := by
  obtain ⟨nm, D, P, C, T, Q⟩ := I
  obtain ⟨x, rfl, x1, x2⟩ := i32x a
  obtain ⟨y, rfl, y1, y2⟩ := i32x b
  have hin := fun g => s_in (h := g) (x := y) (a := 0) (b := 3) y1 y2 (by omega) (by omega) (by omega) (by omega)
  by_cases hz : nm = 0
  · exact ⟨_, _, _, wp_FR_ahead ⟨fun _ => ⟨_, _, wp_FR_refused rfl, rfl⟩, fun hc => absurd ((pz P).1.mpr hz) hc⟩, wp_M_ahead ⟨_, s_an, _, _, hin _, 1, _, s_clW1 (PLa P 1) hz, fun hc => absurd hc (by decide), fun _ => ⟨_, _, wp_M_no rfl, rfl⟩⟩, ref_inv P C T Q (t := 1) (by decide)⟩
  · by_cases hy : 0 ≤ y ∧ y ≤ 3
    · obtain ⟨c, k1, k2, k3, k4⟩ := C.2.1 (by omega)
      have nlt : ¬ (zI y < 0) := by rw [zl_0, zI_lt (by omega) (by omega) (by omega) (by omega)]; omega
      have le3 : zI y ≤ 3 := by rw [zl_3, zI_le (by omega) (by omega) (by omega) (by omega)]; omega
      have F : ∀ (t : Int32), ¬ t = 0 → m_FR_clockRefusal 0 h t h → (0 ≤ x ∧ x ≤ 99 → m_FR_clockRefusal 1 h t h) → m_FR_ahead (zI x) (zI y) h (-1) (jm_sI h 7 0 8 t) := fun t tn R0 R1 => by
        refine wp_FR_ahead ⟨fun hc => absurd ((pz P).1.mp hc) hz, fun _ => ⟨fun hc => absurd hc nlt, fun _ => ⟨fun _ => ⟨fun _ => ⟨t, h, R0, fun hc => absurd hc tn, fun _ => ⟨_, _, wp_FR_refused rfl, rfl⟩⟩, fun hx => ⟨fun _ => ⟨t, h, R0, fun hc => absurd hc tn, fun _ => ⟨_, _, wp_FR_refused rfl, rfl⟩⟩, fun hx2 => ⟨t, h, R1 ?_, fun hc => absurd hc tn, fun _ => ⟨_, _, wp_FR_refused rfl, rfl⟩⟩⟩⟩, fun hc => absurd le3 hc⟩⟩⟩
        rw [zl_0, zI_lt (by omega) (by omega) (by omega) (by omega)] at hx
        rw [zl_99, zI_lt (by omega) (by omega) (by omega) (by omega)] at hx2
        omega
      have in1 : ∀ g, m_M_in (zI y) 0 3 g 1 g := fun g => by
        have := hin g
        rw [if_pos hy] at this; exact this
      by_cases G : gdm (D (k_mo c))
      · have R := s_clR P k1 k3.2.1 G
        by_cases hx : 0 ≤ x ∧ x ≤ 99
        · obtain ⟨S, w, It⟩ := sw_of P k3 G hB
          obtain ⟨n, rfl⟩ : ∃ n : Nat, x = n := ⟨x.toNat, by omega⟩
          have E1 : EF h (jm_sI h 7 0 8 0) 0 := EF.of (Ch.rf h) 0
          have P1 := P.F E1.1
          obtain ⟨h4, b1, b2, b3, b4, b5, b6, b7, b8⟩ := ref_go P1 (k2.chg (fun j => sI_ne (by omega))) k3 (k4.M k3 (fun m hm t => t.chg (P.F24 hm) (fun K j hK => sI_ne (by omega)))) G
          obtain ⟨h5, l1, l2, l3⟩ := s_looksAhead S b3
          obtain ⟨h6, r1, r2⟩ := s_ahM_28 S (n := n) (by omega) hy.1 hy.2 n 0 h5 (by omega) l2 (b4.ch S (fun K j hK => l3.at (by unfold c44; omega)))
          have m2 : Ch cMs h4 h6 := (l3.tr r2).mono (fun K i j q => by unfold c44 at q; unfold cMs; omega)
          refine ⟨zI (ahV D c n y), _, h6, wp_FR_ahead ⟨fun hc => absurd ((pz P).1.mp hc) hz, fun _ => ⟨fun hc => absurd hc nlt, fun _ => ⟨fun _ => ⟨fun hc => ?_, fun _ => ⟨fun hc => ?_, fun _ => ⟨0, h, R.2, fun _ => ⟨fun hc => ?_, fun hc => ?_, fun hc => ?_, fun hc => ?_⟩, fun hc => absurd rfl hc⟩⟩⟩, fun hc => absurd le3 hc⟩⟩⟩, wp_M_ahead ⟨_, s_an, _, _, in1 _, 0, h4, b1, fun _ => ⟨_, h4, s_in (x := (n : Int)) (a := 0) (b := 99) (by omega) (by omega) (by omega) (by omega) (by omega) (by omega), fun hc => absurd hc (nz1 hx), fun _ => ⟨h5, l1, r1⟩⟩, fun hc => absurd rfl hc⟩, INV.mk1 P C T Q E1.1 (b6.tr (MX.of P (cM2_s m2))) (t := 0) sI_eq (by rw [m2.at (by unfold cMs; omega)]; exact b7) (by decide)⟩
          · rw [zl_0, zI_lt (by omega) (by omega) (by omega) (by omega)] at hc; omega
          · rw [zl_99, zI_lt (by omega) (by omega) (by omega) (by omega)] at hc; omega
          · rw [zl_0, zI_eq (by omega) (by omega) (by omega) (by omega)] at hc
            refine ⟨_, h, s_beA P S k1 (by omega), _, _, wp_FR_answered rfl, ?_⟩
            unfold ahV; rw [if_pos hc]
          · rw [zl_1, zI_eq (by omega) (by omega) (by omega) (by omega)] at hc
            refine ⟨_, h, s_moA P S k1 (by omega), _, _, wp_FR_answered rfl, ?_⟩
            unfold ahV; rw [if_neg (by omega), if_pos hc]
          · rw [zl_2, zI_eq (by omega) (by omega) (by omega) (by omega)] at hc
            refine ⟨_, h, s_frA P S k1 (by omega), _, _, wp_FR_answered rfl, ?_⟩
            unfold ahV; rw [if_neg (by omega), if_neg (by omega), if_pos hc]
          · rw [i32eq (by omega) (by omega)] at hc
            refine ⟨_, h, s_slA P S k1 (by omega), _, _, wp_FR_answered rfl, ?_⟩
            unfold ahV; rw [if_neg (by omega), if_neg (by omega), if_neg (by omega)]
        · obtain ⟨h2, b1, b2, b3⟩ := ref_no2 P k2 k3 G
          exact ⟨_, _, _, F 2 (by decide) R.1 (fun q => absurd q hx), wp_M_ahead ⟨_, s_an, _, _, in1 _, 0, h2, b1, fun _ => ⟨_, h2, s_in (x := x) (a := 0) (b := 99) x1 x2 (by omega) (by omega) (by omega) (by omega), fun _ => ⟨_, _, wp_M_no rfl, rfl⟩, fun hc => absurd (nz0 hx) hc⟩, fun hc => absurd rfl hc⟩, no_inv P C T Q (Ch.rf h) b2 (t := 2) (by decide)⟩
      · obtain ⟨h2, b1, b2⟩ := ref_no5 P k2 k3 G
        exact ⟨_, _, _, F 5 (by decide) (s_clR5 P k1 k3.2.1 G) (fun _ => s_clR5 P k1 k3.2.1 G), wp_M_ahead ⟨_, s_an, _, _, in1 _, 5, h2, b1, fun hc => absurd hc (by decide), fun _ => ⟨_, _, wp_M_no rfl, rfl⟩⟩, no_inv P C T Q (Ch.rf h) b2 (t := 5) (by decide)⟩
    · have in0 : ∀ g, m_M_in (zI y) 0 3 g 0 g := fun g => by
        have := hin g
        rw [if_neg hy] at this; exact this
      refine ⟨_, _, _, wp_FR_ahead ⟨fun _ => ⟨_, _, wp_FR_refused rfl, rfl⟩, fun _ => ⟨fun _ => ⟨_, _, wp_FR_refused rfl, rfl⟩, fun hc => ⟨fun hc2 => ?_, fun _ => ⟨_, _, wp_FR_refused rfl, rfl⟩⟩⟩⟩, wp_M_ahead ⟨_, s_an, _, _, in0 _, 1, _, s_clW0 (PLa P 1), fun hc => absurd hc (by decide), fun _ => ⟨_, _, wp_M_no rfl, rfl⟩⟩, ref_inv P C T Q (t := 1) (by decide)⟩
      rw [zl_0, zI_lt (by omega) (by omega) (by omega) (by omega)] at hc
      rw [zl_3, zI_le (by omega) (by omega) (by omega) (by omega)] at hc2; omega
/-! ===== waiting ===== -/
theorem s_nut_4 (k : KF h 0 c) (w8 : k_wn c ≤ 8) {i : Nat} (hi : i < k_wn c) : ∀ (e n : Nat), n + e = i + 1 → l_Clock_needsUpTo_4 0 (zI i) (zI (sm n (k_ne c))) (zI n) h (some (jm_i (zI (sm (i + 1) (k_ne c)))), h) := by
  intro e
  induction e with
  | zero =>
    intro n en
    have en' : n = i + 1 := by omega
    subst en'
    refine wp_Clock_needsUpTo_4 ⟨fun _ => rfl, fun hc => ?_⟩
    rw [zI_lt (by omega) (by omega) (by omega) (by omega)] at hc; omega
  | succ e ih =>
    intro n en
    have r := ih (n + 1) (by omega)
    rw [sm_s n] at r
    refine wp_Clock_needsUpTo_4 ⟨fun hc => ?_, fun _ => ⟨fun hc => ?_, fun _ => ⟨zI_in (by omega) (by omega) (by omega), ?_⟩⟩⟩
    · rw [zI_lt (by omega) (by omega) (by omega) (by omega)] at hc; omega
    · rw [k.2.2.2.1, zI_le (by omega) (by omega) (by omega) (by omega)] at hc; omega
    · rw [zI_cn (by omega), (k.2.2.2.2.2.2.2.2.2.2 n (by omega)).1, zI_add, e_p1]; exact r
/-- the first that is enough -/
theorem first_n {f : Nat → Int} {X : Int} (h0 : f 0 < X) : ∀ N : Nat, X ≤ f N → ∃ n, n < N ∧ (∀ j, j ≤ n → f j < X) ∧ X ≤ f (n + 1) := by
  intro N
  have key : ∀ N : Nat, (∀ j, j ≤ N → f j < X) ∨ ∃ n, n < N ∧ (∀ j, j ≤ n → f j < X) ∧ X ≤ f (n + 1) := by
    intro N
    induction N with
    | zero => exact Or.inl (fun j hj => by rw [show j = 0 by omega]; exact h0)
    | succ N ih =>
      rcases ih with a | ⟨n, n1, n2, n3⟩
      · by_cases hc : f (N + 1) < X
        · refine Or.inl (fun j hj => ?_)
          by_cases e : j = N + 1
          · rw [e]; exact hc
          · exact a j (by omega)
        · exact Or.inr ⟨N, by omega, a, by omega⟩
      · exact Or.inr ⟨n, by omega, n2, n3⟩
  intro hN
  rcases key N with a | a
  · have := a N (Nat.le_refl _)
    omega
  · exact a
theorem s_eow_9 (P : PL h nm D) (S : swOk nm D c) (Z : tId nm D) (k : KF h 0 c) {X : Int} (X1 : X ≤ 4000) (X0 : 1 ≤ X) {n : Nat} (hn : n ≤ 100) (n1 : ∀ j, j ≤ n → sm j (aSl D c) < X) (n2 : X ≤ sm (n + 1) (aSl D c)) : ∀ (e q : Nat), q + e = n → l_FR_endOfWaiting_9 (zI X) (zI (sm q (aSl D c))) (zI q) h (some (jm_i (zI (aTi D c (n + 1)))), h) := by
  have step : ∀ q : Nat, q ≤ n → zI (sm q (aSl D c)) + zI (aSl D c q) = zI (sm (q + 1) (aSl D c)) := fun q _ => by rw [zI_add, sm_s q]
  intro e
  induction e with
  | zero =>
    intro q eq
    have eq' : q = n := by omega
    subst eq'
    have cb := cs_b S Z (q + 1) (by omega)
    have hm := sw_m S (show q ≤ 1000 by omega)
    refine wp_FR_endOfWaiting_9 ⟨fun hc => ?_, fun _ => ⟨_, h, s_slA P S k (by omega), fun hc => ?_, fun _ => ⟨_, h, s_beA P S k (by omega), _, h, s_moA P S k (by omega), in3 P hm.1, ?_⟩⟩⟩
    · rw [zl_400, zI_le (by omega) (by omega) (by omega) (by omega)] at hc; omega
    · rw [step q (Nat.le_refl _), zI_lt (by omega) (by omega) (by omega) (by omega)] at hc; omega
    · rw [tq P hm.1, (P.fl hm.1 hm.2.1).1, zI_add, ti_s S (by omega)]
  | succ e ih =>
    intro q eq
    have r := ih (q + 1) (by omega)
    have cb := cs_b S Z (q + 1) (by omega)
    have := n1 (q + 1) (by omega)
    refine wp_FR_endOfWaiting_9 ⟨fun hc => ?_, fun _ => ⟨_, h, s_slA P S k (by omega), fun _ => ?_, fun hc => ?_⟩⟩
    · rw [zl_400, zI_le (by omega) (by omega) (by omega) (by omega)] at hc; omega
    · rw [step q (by omega), e_p1]; exact r
    · rw [step q (by omega), zI_lt (by omega) (by omega) (by omega) (by omega)] at hc; omega
theorem s_wtM_61 (S : swOk nm D c) (Z : tId nm D) {X : Int} (X1 : X ≤ 4000) (X0 : 1 ≤ X) {n : Nat} (hn : n ≤ 100) (n1 : ∀ j, j ≤ n → sm j (aSl D c) < X) (n2 : X ≤ sm (n + 1) (aSl D c)) : ∀ (e q : Nat) (h : jm_H), q + e = n → CM h D c q → CB h nm D c → ∃ h', l_M_waiting_61 (zI X) (zI (sm (q + 1) (aSl D c))) h (some (jm_i (zI (aTi D c (n + 1)))), h') ∧ Ch c44 h h' := by
  intro e
  induction e with
  | zero =>
    intro q h eq C b
    have eq' : q = n := by omega
    subst eq'
    have cb := cs_b S Z (q + 1) (by omega)
    refine ⟨h, wp_M_waiting_61 ⟨fun _ => ⟨_, h, s_seenEnd S b (by omega) C, rfl⟩, fun hc => ?_⟩, Ch.rf h⟩
    rw [zI_le (by omega) (by omega) (by omega) (by omega)] at hc; omega
  | succ e ih =>
    intro q h eq C b
    have cb := cs_b S Z (q + 1) (by omega)
    have := n1 (q + 1) (by omega)
    obtain ⟨h1, g1, g2, g3⟩ := s_goesOn S b (show q ≤ 999 by omega) C
    have b1 := b.ch S (fun K j hK => g3.at (by unfold c44; omega))
    obtain ⟨h', r1, r2⟩ := ih (q + 1) h1 (by omega) g2 b1
    refine ⟨h', wp_M_waiting_61 ⟨fun hc => ?_, fun _ => ⟨h1, g1, _, h1, s_seenSlack S b1 (by omega) g2, ?_⟩⟩, g3.tr r2⟩
    · rw [zI_le (by omega) (by omega) (by omega) (by omega)] at hc; omega
    · rw [zI_add, ← sm_s (q + 1)]; exact r1
theorem s_wtM_42 {i : Nat} {r : jm_Rs} (k : KV h c) (w8 : k_wn c ≤ 8) (hi : i < k_wn c) (R : ∃ h7, m_M_looksAhead h h7 ∧ ∃ (v8 : Int32) (h8 : jm_H), m_M_seenSlack h7 v8 h8 ∧ l_M_waiting_61 (zI (sm (i + 1) (k_ne c))) v8 h8 r) : ∀ (e n : Nat), n + e = i + 1 → l_M_waiting_42 (zI i) (zI (sm n (k_ne c))) (zI n) h r := by
  intro e
  induction e with
  | zero =>
    intro n en
    have en' : n = i + 1 := by omega
    subst en'
    refine wp_M_waiting_42 ⟨fun _ => R, fun hc => ?_⟩
    rw [zI_lt (by omega) (by omega) (by omega) (by omega)] at hc; omega
  | succ e ih =>
    intro n en
    have q := ih (n + 1) (by omega)
    rw [sm_s n] at q
    refine wp_M_waiting_42 ⟨fun hc => ?_, fun _ => ⟨by rw [e_10]; exact zI_in (by omega) (by omega) (by omega), ?_⟩⟩
    · rw [zI_lt (by omega) (by omega) (by omega) (by omega)] at hc; omega
    · rw [e_10, zI_cn (by omega), (k.2 n (by omega)).1, zI_add, e_p1]; exact q
theorem c_waiting (hB : B ≤ 1000000000) (I : INV B h) (a b : Int32) : ∃ v h1 h2, m_FR_waiting a b h v h1 ∧ m_M_waiting a b h1 v h2 ∧ INV B h2 := by
  obtain ⟨nm, D, P, C, T, Q⟩ := I
  obtain ⟨x, rfl, x1, x2⟩ := i32x a
  obtain ⟨y, rfl, y1, y2⟩ := i32x b
  have hr := ref_inv P C T Q (t := 1) (by decide)
  by_cases hz : nm = 0
  · have e3 := C.1 hz
    refine ⟨_, _, _, wp_FR_waiting ⟨fun _ => ⟨_, _, wp_FR_refused rfl, rfl⟩, fun hc => ⟨fun _ => ⟨_, _, wp_FR_refused rfl, rfl⟩, fun hc2 => ?_⟩⟩, wp_M_waiting ⟨_, s_an, fun _ => ⟨_, _, wp_M_no rfl, rfl⟩, fun hc => absurd ((pz (PLa P 1)).2.mpr hz) hc⟩, hr⟩
    rw [zl_0, zI_lt (by omega) (by omega) (by omega) (by omega)] at hc
    rw [e3, zl_0, zI_le (by omega) (by omega) (by omega) (by omega)] at hc2; omega
  · obtain ⟨c, k1, k2, k3, k4⟩ := C.2.1 (by omega)
    have w8 := k3.2.2.1
    have nz : ∀ g, PL g nm D → ¬ g.1 8 0 6 = 0 := fun g Pg hc => hz ((pz Pg).2.mp hc)
    have inx : ∀ g, KM g 56 c → m_M_in (zI x) 0 ((g.1 56 0 3) - 1) g (zI (if 0 ≤ x ∧ x < k_wn c then 1 else 0)) g := fun g k => by
      rw [k.2.2.2.1]; exact in_1 x1 x2 (by omega)
    have iny : ∀ g, m_M_in (zI y) 0 2 g (zI (if 0 ≤ y ∧ y ≤ 2 then 1 else 0)) g := fun g => s_in (x := y) (a := 0) (b := 2) y1 y2 (by omega) (by omega) (by omega) (by omega)
    have ka : ∀ t, KM (hAn (jm_sI h 7 0 8 t)) 56 c := fun t => k2.chg (fun j => by rw [hAn56 _ (by omega), sI_ne (by omega)])
    by_cases hx : 0 ≤ x ∧ x < k_wn c
    · obtain ⟨i, rfl⟩ : ∃ n : Nat, x = n := ⟨x.toNat, by omega⟩
      have hi : i < k_wn c := by omega
      have a0 : ¬ (zI (i : Int) < 0) := by rw [zl_0, zI_lt (by omega) (by omega) (by omega) (by omega)]; omega
      have a3 : ¬ (h.1 0 0 3 ≤ zI (i : Int)) := by rw [k1.2.2.2.1, zI_le (by omega) (by omega) (by omega) (by omega)]; omega
      by_cases hy : 0 ≤ y ∧ y ≤ 2
      · have y0 : ¬ (zI y < 0) := by rw [zl_0, zI_lt (by omega) (by omega) (by omega) (by omega)]; omega
        have yl : zI y ≤ 2 := by rw [zl_2, zI_le (by omega) (by omega) (by omega) (by omega)]; omega
        have E1 : EF h (jm_sI h 7 0 8 0) 0 := EF.of (Ch.rf h) 0
        have P1 := P.F E1.1
        have Pa := PLa P 0
        have ki := k1.2.2.2.2.2.2.2.2.2.2 i hi
        have kj := (ka 0).2.2.2.2.2.2.2.2.2.2 i hi
        by_cases y2' : y = 2
        · subst y2'
          have G := k3.2.2.2.2.2.2.1 (by omega)
          obtain ⟨S, w, It⟩ := sw_of P k3 G hB
          have Z := P.tId
          obtain ⟨N, N1, N2, N3⟩ := It i hi
          have hw := w.2.1 i hi
          have nb := ne_b w (i + 1) (by omega)
          have tb := ti_b S N N1
          obtain ⟨n, n1, n2, n3⟩ := first_n (f := fun n => sm n (aSl D c)) (X := sm (i + 1) (k_ne c)) (by show (0 : Int) < _; omega) N (by show _ ≤ sm N (aSl D c); omega)
          have L1 : ckL (hAn (jm_sI h 7 0 8 0)) D c := k4.M k3 (fun m hm t => t.chg (P.F24 hm) (fun K j hK => by rw [hAn56 _ (by omega), sI_ne (by omega)]))
          have b1 : CB (hAn (jm_sI h 7 0 8 0)) nm D c := CB.of Pa L1 (L1.1 (by omega))
          obtain ⟨h5, l1, l2, l3⟩ := s_looksAhead S (ka 0)
          have b5 := b1.ch S (fun K j hK => l3.at (by unfold c44; omega))
          obtain ⟨h6, r1, r2⟩ := s_wtM_61 S Z (X := sm (i + 1) (k_ne c)) (by omega) (by omega) (n := n) (by omega) n2 n3 n 0 h5 (by omega) l2 b5
          have m2 : Ch cMs (hAn (jm_sI h 7 0 8 0)) h6 := (l3.tr r2).mono (fun K i j q => by unfold c44 at q; unfold cMs; omega)
          have s0 : m_M_seenSlack h5 (zI (sm (0 + 1) (aSl D c))) h5 := by
            have := s_seenSlack S b5 (n := 0) (by omega) l2
            rw [show sm (0 + 1) (aSl D c) = aSl D c 0 from Int.zero_add _]; exact this
          have f1 := s_nut_4 k1 w8 hi (i + 1) 0 (by omega)
          have f2 := s_eow_9 P S Z k1 (X := sm (i + 1) (k_ne c)) (by omega) (by omega) (n := n) (by omega) n2 n3 n 0 (by omega)
          refine ⟨_, _, h6, wp_FR_waiting ⟨fun hc => absurd hc a0, fun _ => ⟨fun hc => absurd hc a3, fun _ => ⟨fun hc => absurd hc y0, fun _ => ⟨fun _ => ⟨fun hc => absurd hc (by decide), fun hc => absurd hc (by decide), fun _ => ⟨_, h, wp_FR_endOfWaiting ⟨_, h, wp_Clock_needsUpTo f1, f2⟩, _, _, wp_FR_answered rfl, rfl⟩⟩, fun hc => absurd yl hc⟩⟩⟩⟩, wp_M_waiting ⟨_, s_an, fun hc => absurd hc (nz _ Pa), fun _ => ⟨_, _, inx _ (ka 0), fun hc => absurd hc (nz1 hx), fun _ => ⟨_, _, iny _, fun hc => absurd hc (nz1 hy), fun _ => ⟨fun _ => s_wtM_42 (ka 0).kv w8 hi ⟨h5, l1, _, h5, s0, r1⟩ (i + 1) 0 (by omega), fun hc => absurd (by decide) hc⟩⟩⟩⟩, INV.mk1 P C T Q E1.1 ((EM.an P1).1.tr (MX.of P (cM2_s m2))) (t := 0) sI_eq (by rw [m2.at (by unfold cMs; omega)]; exact hAn_t _) (by decide)⟩
        · have n2 : ¬ ((2 : Int32) ≤ zI y) := by rw [zl_2, zI_le (by omega) (by omega) (by omega) (by omega)]; omega
          by_cases y0' : y = 0
          · subst y0'
            exact ⟨_, _, _, wp_FR_waiting ⟨fun hc => absurd hc a0, fun _ => ⟨fun hc => absurd hc a3, fun _ => ⟨fun hc => absurd hc y0, fun _ => ⟨fun _ => ⟨fun _ => ⟨zI_in (by omega) (by omega) (by omega), _, _, wp_FR_answered rfl, rfl⟩, fun hc => absurd hc (by decide), fun hc => absurd rfl hc.1⟩, fun hc => absurd yl hc⟩⟩⟩⟩, wp_M_waiting ⟨_, s_an, fun hc => absurd hc (nz _ Pa), fun _ => ⟨_, _, inx _ (ka 0), fun hc => absurd hc (nz1 hx), fun _ => ⟨_, _, iny _, fun hc => absurd hc (nz1 hy), fun _ => ⟨fun hc => absurd hc n2, fun _ => ⟨fun _ => ⟨by rw [e_10]; exact zI_in (by omega) (by omega) (by omega), by rw [e_10, zI_cn (by omega), zI_cn (by omega), kj.1, ki.1]⟩, fun hc => absurd rfl hc⟩⟩⟩⟩⟩, INV.mk1 P C T Q E1.1 (EM.an P1).1 (t := 0) sI_eq (hAn_t _) (by decide)⟩
          · have hy1 : y = 1 := by omega
            subst hy1
            exact ⟨_, _, _, wp_FR_waiting ⟨fun hc => absurd hc a0, fun _ => ⟨fun hc => absurd hc a3, fun _ => ⟨fun hc => absurd hc y0, fun _ => ⟨fun _ => ⟨fun hc => absurd hc (by decide), fun _ => ⟨zI_in (by omega) (by omega) (by omega), _, _, wp_FR_answered rfl, rfl⟩, fun hc => absurd rfl hc.2⟩, fun hc => absurd yl hc⟩⟩⟩⟩, wp_M_waiting ⟨_, s_an, fun hc => absurd hc (nz _ Pa), fun _ => ⟨_, _, inx _ (ka 0), fun hc => absurd hc (nz1 hx), fun _ => ⟨_, _, iny _, fun hc => absurd hc (nz1 hy), fun _ => ⟨fun hc => absurd hc n2, fun _ => ⟨fun hc => absurd hc (by decide), fun _ => ⟨by rw [e_19]; exact zI_in (by omega) (by omega) (by omega), by rw [e_19, zI_cn (by omega), zI_cn (by omega), kj.2, ki.2]⟩⟩⟩⟩⟩⟩, INV.mk1 P C T Q E1.1 (EM.an P1).1 (t := 0) sI_eq (hAn_t _) (by decide)⟩
      · refine ⟨_, _, _, wp_FR_waiting ⟨fun hc => absurd hc a0, fun _ => ⟨fun hc => absurd hc a3, fun _ => ⟨fun _ => ⟨_, _, wp_FR_refused rfl, rfl⟩, fun hc => ⟨fun hc2 => ?_, fun _ => ⟨_, _, wp_FR_refused rfl, rfl⟩⟩⟩⟩⟩, wp_M_waiting ⟨_, s_an, fun hc => absurd hc (nz _ (PLa P 1)), fun _ => ⟨_, _, inx _ (ka 1), fun hc => absurd hc (nz1 hx), fun _ => ⟨_, _, iny _, fun _ => ⟨_, _, wp_M_no rfl, rfl⟩, fun hc => absurd (nz0 hy) hc⟩⟩⟩, hr⟩
        rw [zl_0, zI_lt (by omega) (by omega) (by omega) (by omega)] at hc
        rw [zl_2, zI_le (by omega) (by omega) (by omega) (by omega)] at hc2; omega
    · refine ⟨_, _, _, wp_FR_waiting ⟨fun _ => ⟨_, _, wp_FR_refused rfl, rfl⟩, fun hc => ⟨fun _ => ⟨_, _, wp_FR_refused rfl, rfl⟩, fun hc2 => ?_⟩⟩, wp_M_waiting ⟨_, s_an, fun hc => absurd hc (nz _ (PLa P 1)), fun _ => ⟨_, _, inx _ (ka 1), fun _ => ⟨_, _, wp_M_no rfl, rfl⟩, fun hc => absurd (nz0 hx) hc⟩⟩, hr⟩
      rw [zl_0, zI_lt (by omega) (by omega) (by omega) (by omega)] at hc
      rw [k1.2.2.2.1, zI_le (by omega) (by omega) (by omega) (by omega)] at hc2; omega
end AHEAD2
