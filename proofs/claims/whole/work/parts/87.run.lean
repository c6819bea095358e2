/-! ===== run ===== -/
noncomputable def nE (c : CK) (R : Int) : Nat := @dite _ (0 ≤ R) (Classical.propDecidable _) (fun h => Classical.choose (isE_ex c h)) (fun _ => 0)
theorem nE_is {c : CK} {R : Int} (h : 0 ≤ R) : isE c R (nE c R) := by
  unfold nE
  rw [dif_pos h]; exact Classical.choose_spec (isE_ex c h)
noncomputable def nx (D : Nat → MD) (c : CK) : CK := stp D c (aSl D c 0) (nE c (aSl D c 0))
noncomputable def itn (D : Nat → MD) : Nat → CK → CK
  | 0, c => c
  | n + 1, c => itn D n (nx D c)
section RUN
variable {nm : Nat} {D : Nat → MD}
theorem nx_ok {B : Int} {h : jm_H} {c : CK} (P : PL h nm D) (k : ckOk nm D B c) (G : gdm (D (k_mo c))) (hB : B ≤ 1000000000) : ckOk nm D (B + 60) (nx D c) ∧ gdm (D (k_mo (nx D c))) := by
  obtain ⟨S, w, It⟩ := sw_of P k G hB
  have ab := asl_b S P.tId (n := 0) (by omega)
  exact ⟨stp_ok S P.tId k w (got := 0) (Int.le_refl _) (by omega) ab.1 It (nE_is ab.1), (sw_m S (n := 1) (by omega)).2.1⟩
theorem s_runF_24 {n : Nat} (hn : n ≤ 100) {x3 : Int32} : ∀ (e i : Nat) (h : jm_H) (c : CK) (B : Int), i + e = n → B + 60 * e ≤ 1000000000 → PL h nm D → KF h 0 c → ckOk nm D B c → gdm (D (k_mo c)) → ∃ h', l_FR_run_24 (zI n) x3 (zI i) h (some (jm_i (k_do (itn D e c) - x3)), jm_sI h' 7 0 8 0) ∧ KF h' 0 (itn D e c) ∧ Ch cAv h h' := by
  intro e
  induction e with
  | zero =>
    intro i h c B ei hB P k k3 G
    refine ⟨h, wp_FR_run_24 ⟨fun _ => ⟨_, _, wp_FR_answered rfl, ?_⟩, fun hc => ?_⟩, k, Ch.rf h⟩
    · rw [k.2.2.2.2.1]; rfl
    · rw [zI_le (by omega) (by omega) (by omega) (by omega)] at hc; omega
  | succ e ih =>
    intro i h c B ei hB P k k3 G
    obtain ⟨S, w, It⟩ := sw_of P k3 G (by omega)
    have ab := asl_b S P.tId (n := 0) (by omega)
    obtain ⟨h1, q1, q2, q3⟩ := s_goThrough (got := 0) (R := aSl D c 0) (e := nE c (aSl D c 0)) P S P.tId w k3.2.2.1 (sN_pos k3 S) k (Int.le_refl _) (by omega) ab.1 (nE_is ab.1)
    have ok := nx_ok P k3 G (by omega)
    obtain ⟨h', r1, r2, r3⟩ := ih (i + 1) h1 (nx D c) (B + 60) (by omega) (by omega) (P.k (KX.of P (cKY_Av q3))) q2 ok.1 ok.2
    refine ⟨h', wp_FR_run_24 ⟨fun hc => ?_, fun _ => ⟨h1, by rw [zl_0]; exact q1, by rw [e_p1]; exact r1⟩⟩, r2, q3.tr r3⟩
    rw [zI_le (by omega) (by omega) (by omega) (by omega)] at hc; omega
theorem afO0 (c : CK) : afO c 0 0 = c := by
  unfold afO
  rw [show zI 0 - zI 0 = 0 from by decide, show zI 0 = 0 from rfl, Int32.add_zero, Int32.add_zero]; rfl
theorem s_runM_28 {h0 : jm_H} (P : PL h0 nm D) {n : Nat} (hn : n ≤ 100) {x3 : Int32} : ∀ (e i : Nat) (h : jm_H) (c : CK) (B : Int), i + e = n → B + 60 * e ≤ 1000000000 → CB h nm D c → KM h 56 c → ckOk nm D B c → gdm (D (k_mo c)) → ∃ h', l_M_run_28 (zI n) x3 (zI i) h (some (jm_i (k_do (itn D e c) - x3)), h') ∧ KM h' 56 (itn D e c) ∧ CB h' nm D (itn D e c) ∧ ckOk nm D (B + 60 * e) (itn D e c) ∧ Ch cS56 h h' := by
  intro e
  induction e with
  | zero =>
    intro i h c B ei hB b k k3 G
    refine ⟨h, wp_M_run_28 ⟨fun _ => ?_, fun hc => ?_⟩, k, b, k3.mono (by omega), Ch.rf h⟩
    · rw [k.2.2.2.2.1]; rfl
    · rw [zI_le (by omega) (by omega) (by omega) (by omega)] at hc; omega
  | succ e ih =>
    intro i h c B ei hB b k k3 G
    obtain ⟨S, w, It⟩ := sw_of P k3 G (by omega)
    have ab := asl_b S P.tId (n := 0) (by omega)
    have sb := spr_b S P.tId w It
    have g0 : gotF D c 0 = 0 := by
      unfold gotF
      rw [if_neg (by omega)]
    obtain ⟨h1, q1, q2, q3⟩ := s_steps (x := 0) (R := aSl D c 0) (e := nE c (aSl D c 0)) S P.tId w k3.2.2.1 It b k (Int.le_refl _) (by omega) (by rw [g0]; omega) (nE_is ab.1)
    rw [g0, afO0] at q2
    have ok := nx_ok P k3 G (by omega)
    have b1 : CB h1 nm D (nx D c) := CB.stp S (b.ch S (fun K j hK => q3.at (by unfold cS56 c44; omega)))
    obtain ⟨h', r1, r2, r3, r4, r5⟩ := ih (i + 1) h1 (nx D c) (B + 60) (by omega) (by omega) b1 q2 ok.1 ok.2
    refine ⟨h', wp_M_run_28 ⟨fun hc => ?_, fun _ => ⟨_, h1, by rw [zl_0]; exact q1, by rw [e_p1]; exact r1⟩⟩, r2, r3, r4.mono (by omega), q3.tr r5⟩
    rw [zI_le (by omega) (by omega) (by omega) (by omega)] at hc; omega
theorem c_run {B : Int} {h : jm_H} (hB : B ≤ 900000000) (I : INV B h) (a : Int32) : ∃ v h1 h2, m_FR_run a h v h1 ∧ m_M_run a h1 v h2 ∧ INV (B + 6000) h2 := by
  obtain ⟨nm, D, P, C, T, Q⟩ := I
  obtain ⟨x, rfl, x1, x2⟩ := i32x a
  have F : ∀ (t : Int32), ¬ t = 0 → m_FR_clockRefusal 0 h t h → (1 ≤ x ∧ x ≤ 100 → m_FR_clockRefusal 1 h t h) → m_FR_run (zI x) h (-1) (jm_sI h 7 0 8 t) := fun t tn R0 R1 => by
    refine wp_FR_run ⟨fun _ => ⟨t, h, R0, fun hc => absurd hc tn, fun _ => ⟨_, _, wp_FR_refused rfl, rfl⟩⟩, fun hx => ⟨fun _ => ⟨t, h, R0, fun hc => absurd hc tn, fun _ => ⟨_, _, wp_FR_refused rfl, rfl⟩⟩, fun hx2 => ⟨t, h, R1 ?_, fun hc => absurd hc tn, fun _ => ⟨_, _, wp_FR_refused rfl, rfl⟩⟩⟩⟩
    rw [zl_1, zI_lt (by omega) (by omega) (by omega) (by omega)] at hx
    rw [zl_100, zI_lt (by omega) (by omega) (by omega) (by omega)] at hx2
    omega
  by_cases hz : nm = 0
  · exact ⟨_, _, _, F 1 (by decide) (s_clR1 P hz) (fun _ => s_clR1 P hz), wp_M_run ⟨_, s_an, 1, _, s_clW1 (PLa P 1) hz, fun hc => absurd hc (by decide), fun _ => ⟨_, _, wp_M_no rfl, rfl⟩⟩, (ref_inv P C T Q (t := 1) (by decide)).mono (by omega)⟩
  · obtain ⟨c, k1, k2, k3, k4⟩ := C.2.1 (by omega)
    by_cases G : gdm (D (k_mo c))
    · have R := s_clR P k1 k3.2.1 G
      by_cases hx : 1 ≤ x ∧ x ≤ 100
      · obtain ⟨n, rfl⟩ : ∃ n : Nat, x = n := ⟨x.toNat, by omega⟩
        obtain ⟨h3, f1, f2, f3⟩ := s_runF_24 (n := n) (by omega) (x3 := k_do c) n 0 h c B (by omega) (by omega) P k1 k3 G
        have X1 : KX nm D h (jm_sI h3 7 0 8 0) := KX.of P ((cKY_Av f3).tr (Ch.sI (by unfold cKY cFX; omega)))
        have P1 := P.k X1
        obtain ⟨h4, b1, b2, b3, b4, b5, b6, b7, b8⟩ := ref_go P1 (k2.chg (fun j => by rw [sI_ne (by omega), f3.at (by unfold cAv; omega)])) k3 (k4.M k3 (fun m hm => (X1.2 m hm).2)) G
        obtain ⟨h5, r1, r2, r3, r4, r5⟩ := s_runM_28 P (n := n) (by omega) (x3 := k_do c) n 0 h4 c B (by omega) (by omega) b4 b3 k3 G
        have X3 : KX nm D h4 h5 := KX.of P (cKY_56 r5)
        refine ⟨k_do (itn D n c) - k_do c, _, h5, wp_FR_run ⟨fun hc => ?_, fun _ => ⟨fun hc => ?_, fun _ => ⟨0, h, R.2, fun _ => ?_, fun hc => absurd rfl hc⟩⟩⟩, wp_M_run ⟨_, s_an, 0, h4, b1, fun _ => ⟨_, h4, s_in (x := (n : Int)) (a := 1) (b := 100) (by omega) (by omega) (by omega) (by omega) (by omega) (by omega), fun hc => absurd hc (nz1 hx), fun _ => ?_⟩, fun hc => absurd rfl hc⟩, INV.mk2 P C T Q (by omega) ((X1.tr (KX.m b6)).tr X3) (by omega) (f2.chg (fun K j hK => by rw [r5.at (by unfold cS56 c44; omega), mx_c b6 (by omega), sI_ne (by omega)])) r2 (r4.mono (by omega)) r3.l (t := 0) (by rw [r5.at (by unfold cS56 c44; omega), mx_c b6 (by omega), sI_eq]) (by rw [r5.at (by unfold cS56 c44; omega)]; exact b7) (by decide)⟩
        · rw [zl_1, zI_lt (by omega) (by omega) (by omega) (by omega)] at hc; omega
        · rw [zl_100, zI_lt (by omega) (by omega) (by omega) (by omega)] at hc; omega
        · rw [k1.2.2.2.2.1]; exact f1
        · rw [b3.2.2.2.2.1]; exact r1
      · obtain ⟨h2, b1, b2, b3⟩ := ref_no2 P k2 k3 G
        exact ⟨_, _, _, F 2 (by decide) R.1 (fun q => absurd q hx), wp_M_run ⟨_, s_an, 0, h2, b1, fun _ => ⟨_, h2, s_in (x := x) (a := 1) (b := 100) x1 x2 (by omega) (by omega) (by omega) (by omega), fun _ => ⟨_, _, wp_M_no rfl, rfl⟩, fun hc => absurd (nz0 hx) hc⟩, fun hc => absurd rfl hc⟩, (no_inv P C T Q (Ch.rf h) b2 (t := 2) (by decide)).mono (by omega)⟩
    · obtain ⟨h2, b1, b2⟩ := ref_no5 P k2 k3 G
      exact ⟨_, _, _, F 5 (by decide) (s_clR5 P k1 k3.2.1 G) (fun _ => s_clR5 P k1 k3.2.1 G), wp_M_run ⟨_, s_an, 5, h2, b1, fun hc => absurd hc (by decide), fun _ => ⟨_, _, wp_M_no rfl, rfl⟩⟩, (no_inv P C T Q (Ch.rf h) b2 (t := 5) (by decide)).mono (by omega)⟩
end RUN
