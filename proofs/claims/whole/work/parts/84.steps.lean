/-! ===== spare ===== -/
noncomputable def spr (D : Nat → MD) (c : CK) : Int := if lm D c 0 (k_wn c) < aSl D c 0 then lm D c 0 (k_wn c) else aSl D c 0
section SPARE
variable {B : Int} {h : jm_H} {nm : Nat} {D : Nat → MD} {c : CK}
theorem sN_pos (k : ckOk nm D B c) (S : swOk nm D c) : 0 < sN D c := by
  have L := sw_L S
  rcases sw_n S with ⟨x1, x2, x3⟩ | ⟨x1, x2, x3, x4⟩
  · omega
  · apply Decidable.byContradiction
    intro hx
    rw [show sN D c = 0 by omega] at x3
    rcases k.2.2.2.2.2.1 with y | ⟨_, _, _, _, y, _⟩
    · omega
    · rw [show ((0 : Nat) : Int) = 0 from rfl, Int.zero_mul] at x3; omega
theorem at0 (S : swOk nm D c) (hs : 0 < sN D c) : aMo D c 0 = k_mo c ∧ aFr D c 0 = k_fr c ∧ aTi D c 0 = k_now c ∧ aSl D c 0 = mSl (D (k_mo c)) (k_fr c) := by
  have e1 : aMo D c 0 = k_mo c := by unfold aMo; rw [if_pos hs]
  have e2 : aFr D c 0 = k_fr c := by unfold aFr; rw [if_pos hs]; exact Nat.mod_eq_of_lt S.2.2.2.2.1
  have t0 := ti_b S 0 (by omega)
  refine ⟨e1, e2, by omega, ?_⟩
  unfold aSl
  rw [e1, e2]
theorem spr_b (S : swOk nm D c) (Z : tId nm D) (w : wOk c) (It : InT D c 0) : 0 ≤ spr D c ∧ spr D c ≤ 100 ∧ spr D c ≤ aSl D c 0 ∧ spr D c ≤ lm D c 0 (k_wn c) := by
  have h1 := (lm_InT S Z w (X := 0) (by omega)).mpr It
  have h2 := asl_b S Z (n := 0) (by omega)
  unfold spr
  split <;> omega
theorem s_spF (P : PL h nm D) (S : swOk nm D c) (Z : tId nm D) (w : wOk c) (w8 : k_wn c ≤ 8) (It : InT D c 0) (hs : 0 < sN D c) (k : KF h 0 c) : ∃ h', m_FR_spareNow h (zI (spr D c)) h' ∧ Ch (fun K _ _ => K = 5 ∨ K = 30 ∨ K = 31) h h' := by
  obtain ⟨h1, a1, a2, a3⟩ := s_survey P S Z k
  have k' := sv_k k a3
  have hm := S.2.2.2.1
  have hF := (mF_b (S.1 _ hm)).1
  have hfr := S.2.2.2.2.1
  have sb := spr_b S Z w It
  have lb := lm_b S Z w 0 (k_wn c) (Nat.le_refl _)
  have ab := asl_b S Z (n := 0) (by omega)
  have e19 : h1.1 19 (3 * 0 + (h1.1 0 0 1).toNatClampNeg) ((h1.1 0 0 2).toNatClampNeg) = zI (aSl D c 0) := by
    rw [k'.2.1, k'.2.2.1, tq P hm, zI_cn (by omega), a3.at (by omega), (P.fl hm S.2.2.1).2.2 _ hfr, (at0 S hs).2.2.2]
  refine ⟨h1, wp_FR_spareNow ⟨h1, a1, by rw [k'.2.1]; exact in3 P hm, by rw [k'.2.2.1]; exact zI_in (by omega) (by omega) (by omega), _, h1, s_margin S Z w w8 k'.kw a2, ?_⟩, a3⟩
  have ei : (if zI (lm D c 0 (k_wn c)) < zI (aSl D c 0) then zI (lm D c 0 (k_wn c)) else zI (aSl D c 0)) = zI (spr D c) := by
    unfold spr
    by_cases hc : lm D c 0 (k_wn c) < aSl D c 0
    · rw [if_pos hc, if_pos (by rw [zI_lt (by omega) (by omega) (by omega) (by omega)]; exact hc)]
    · rw [if_neg hc, if_neg (by rw [zI_lt (by omega) (by omega) (by omega) (by omega)]; exact hc)]
  rw [e19, ei, clp0 sb.1 (by omega)]
theorem s_spM_9 (S : swOk nm D c) (Z : tId nm D) (w : wOk c) (It : InT D c 0) : ∀ (n : Nat) (v : Int) (h : jm_H), n ≤ 100 → (v = 0 ∨ v = 1) → (v = 1 ↔ (n : Int) ≤ lm D c 0 (k_wn c)) → CB h nm D c → KM h 56 c → ∃ h', l_M_spareNow_9 (zI n) (zI v) h (some (jm_i (zI (if lm D c 0 (k_wn c) < n then lm D c 0 (k_wn c) else n))), h') ∧ Ch c44 h h' := by
  have h0 := (lm_InT S Z w (X := 0) (by omega)).mpr It
  intro n
  induction n with
  | zero =>
    intro v h hn v1 v2 b k
    have hv : v = 1 := v2.mpr (by omega)
    subst hv
    refine ⟨h, wp_M_spareNow_9 ⟨fun hc => absurd hc (by decide), fun _ => ?_⟩, Ch.rf h⟩
    rw [if_neg (by omega)]
  | succ n ih =>
    intro v h hn v1 v2 b k
    rcases v1 with e | e
    · subst e
      have hl : lm D c 0 (k_wn c) < ((n + 1 : Nat) : Int) := by
        apply Decidable.byContradiction
        intro hx
        have := v2.mpr (by omega)
        omega
      obtain ⟨h1, l1, l2, l3⟩ := s_looksAhead S k
      have b1 := b.ch S (fun K j hK => l3.at (by unfold c44; omega))
      obtain ⟨v', h2, a1, a2, a3, a4⟩ := s_areInTime (less := (n : Int)) S Z w (by omega) (by omega) l2 b1 (k.kv.chg (fun j => l3.at (by unfold c44; omega)))
      have c2 := l3.tr a4
      obtain ⟨h3, r1, r2⟩ := ih v' h2 (by omega) a1 (by rw [a2, lm_InT S Z w (by omega)]) (b.ch S (fun K j hK => c2.at (by unfold c44; omega))) (k.chg (fun j => c2.at (by unfold c44; omega)))
      refine ⟨h3, wp_M_spareNow_9 ⟨fun _ => ⟨h1, l1, _, h2, by rw [e_a1]; exact a3, ?_⟩, fun hc => absurd rfl hc⟩, c2.tr r2⟩
      rw [e_a1, if_pos hl]
      by_cases hc : lm D c 0 (k_wn c) < (n : Int)
      · rw [if_pos hc] at r1; exact r1
      · rw [if_neg hc] at r1
        rw [show lm D c 0 (k_wn c) = (n : Int) by omega]; exact r1
    · subst e
      refine ⟨h, wp_M_spareNow_9 ⟨fun hc => absurd hc (by decide), fun _ => ?_⟩, Ch.rf h⟩
      have := v2.mp rfl
      rw [if_neg (by omega)]
theorem s_spM (S : swOk nm D c) (Z : tId nm D) (w : wOk c) (It : InT D c 0) (b : CB h nm D c) (k : KM h 56 c) : ∃ h', m_M_spareNow h (zI (spr D c)) h' ∧ Ch c44 h h' := by
  obtain ⟨h1, l1, l2, l3⟩ := s_looksAhead S k
  have b1 := b.ch S (fun K j hK => l3.at (by unfold c44; omega))
  have ab := asl_b S Z (n := 0) (by omega)
  obtain ⟨s, es⟩ : ∃ s : Nat, aSl D c 0 = s := ⟨(aSl D c 0).toNat, by omega⟩
  have sS := s_seenSlack S b1 (n := 0) (by omega) l2
  rw [es] at sS ab
  obtain ⟨v', h2, a1, a2, a3, a4⟩ := s_areInTime (less := (s : Int)) S Z w (by omega) (by omega) l2 b1 (k.kv.chg (fun j => l3.at (by unfold c44; omega)))
  have c2 := l3.tr a4
  obtain ⟨h3, r1, r2⟩ := s_spM_9 S Z w It s v' h2 (by omega) a1 (by rw [a2, lm_InT S Z w (by omega)]) (b.ch S (fun K j hK => c2.at (by unfold c44; omega))) (k.chg (fun j => c2.at (by unfold c44; omega)))
  refine ⟨h3, wp_M_spareNow ⟨h1, l1, _, h1, sS, _, h2, a3, ?_⟩, c2.tr r2⟩
  unfold spr
  rw [es]; exact r1
theorem c_spare (hB : B ≤ 1000000000) (I : INV B h) : ∃ v h1 h2, m_FR_spare h v h1 ∧ m_M_spare h1 v h2 ∧ INV B h2 := by
  obtain ⟨nm, D, P, C, T, Q⟩ := I
  by_cases hz : nm = 0
  · exact ⟨_, _, _, wp_FR_spare ⟨1, h, s_clR1 P hz, fun hc => absurd hc (by decide), fun _ => ⟨_, _, wp_FR_refused rfl, rfl⟩⟩, wp_M_spare ⟨_, s_an, 1, _, s_clW1 (PLa P 1) hz, fun hc => absurd hc (by decide), fun _ => ⟨_, _, wp_M_no rfl, rfl⟩⟩, ref_inv P C T Q (t := 1) (by decide)⟩
  · obtain ⟨c, k1, k2, k3, k4⟩ := C.2.1 (by omega)
    by_cases G : gdm (D (k_mo c))
    · have R := s_clR P k1 k3.2.1 G
      obtain ⟨S, w, It⟩ := sw_of P k3 G hB
      have Z := P.tId
      obtain ⟨h3, a1, a3⟩ := s_spF P S Z w k3.2.2.1 It (sN_pos k3 S) k1
      have X1 := go_c P a3 0
      have P1 := P.k X1
      have cG : ∀ K i j, K ≠ 5 → K ≠ 30 → K ≠ 31 → K ≠ 7 → (jm_sI h3 7 0 8 0).1 K i j = h.1 K i j := fun K i j q1 q2 q3 q4 => by rw [sI_ne (by omega), a3.at (by omega)]
      obtain ⟨h4, b1, b2, b3, b4, b5, b6, b7, b8⟩ := ref_go P1 (k2.chg (fun j => cG _ _ _ (by omega) (by omega) (by omega) (by omega))) k3 (k4.M k3 (fun m hm => (X1.2 m hm).2)) G
      obtain ⟨h5, r1, r3⟩ := s_spM S Z w It b4 b3
      have X3 : KX nm D h4 h5 := KX.of P (cKY_44 r3)
      exact ⟨_, _, h5, wp_FR_spare ⟨0, h, R.2, fun _ => ⟨_, h3, a1, _, _, wp_FR_answered rfl, rfl⟩, fun hc => absurd rfl hc⟩, wp_M_spare ⟨_, s_an, 0, h4, b1, fun _ => ⟨_, h5, r1, rfl⟩, fun hc => absurd rfl hc⟩, INV.mk2 P C T Q (Int.le_refl _) ((X1.tr (KX.m b6)).tr X3) (by omega) (k1.chg (fun K j hK => by rw [r3.at (by unfold c44; omega), mx_c b6 (by omega), cG _ _ _ (by omega) (by omega) (by omega) (by omega)])) (b3.chg (fun j => r3.at (by unfold c44; omega))) k3 (b5.M k3 (fun m hm => (X3.2 m hm).2)) (t := 0) (by rw [r3.at (by unfold c44; omega), mx_c b6 (by omega), sI_eq]) (by rw [r3.at (by unfold c44; omega)]; exact b7) (by decide)⟩
    · obtain ⟨h2, b1, b2⟩ := ref_no5 P k2 k3 G
      exact ⟨_, _, _, wp_FR_spare ⟨5, h, s_clR5 P k1 k3.2.1 G, fun hc => absurd hc (by decide), fun _ => ⟨_, _, wp_FR_refused rfl, rfl⟩⟩, wp_M_spare ⟨_, s_an, 5, h2, b1, fun hc => absurd hc (by decide), fun _ => ⟨_, _, wp_M_no rfl, rfl⟩⟩, no_inv P C T Q (Ch.rf h) b2 (t := 5) (by decide)⟩
end SPARE
/-! ===== a step, abstractly ===== -/
def leF (le : Int32) (tm : Int) (du : Nat → Int) : Nat → Int32
  | 0 => le
  | i + 1 => if leF le tm du i = -2 then zI (du i - tm) else if leF le tm du i ≤ zI (du i - tm) then leF le tm du i else zI (du i - tm)
theorem leF_s (le : Int32) (tm : Int) (du : Nat → Int) (i : Nat) : leF le tm du (i + 1) = if leF le tm du i = -2 then zI (du i - tm) else if leF le tm du i ≤ zI (du i - tm) then leF le tm du i else zI (du i - tm) := rfl
/-- so many are done -/
def isE (c : CK) (R : Int) (e : Nat) : Prop := e ≤ k_wn c ∧ sm e (k_ne c) ≤ R ∧ (e < k_wn c → R < sm (e + 1) (k_ne c))
theorem isE_ex (c : CK) {R : Int} (hR : 0 ≤ R) : ∃ e, isE c R e := by
  by_cases hc : sm (k_wn c) (k_ne c) ≤ R
  · exact ⟨k_wn c, Nat.le_refl _, hc, fun x => by omega⟩
  · obtain ⟨n, n1, n2, n3⟩ := first_n (f := fun n => sm n (k_ne c)) (X := R + 1) (by show (0 : Int) < R + 1; omega) (k_wn c) (by show R + 1 ≤ sm (k_wn c) (k_ne c); omega)
    have h1 : sm n (k_ne c) < R + 1 := n2 n (Nat.le_refl _)
    have h2 : R + 1 ≤ sm (n + 1) (k_ne c) := n3
    exact ⟨n, by omega, by omega, fun _ => by omega⟩
def neE (c : CK) (R : Int) (e : Nat) : Nat → Int := fun i => if i < e then 0 else if i = e then k_ne c e - (R - sm e (k_ne c)) else k_ne c i
def setO (c : CK) (ov cu : Int32) : CK := (c.1, c.2.1, (k_do c, ov, cu, k_le c), c.2.2.2)
def stp (D : Nat → MD) (c : CK) (R : Int) (e : Nat) : CK :=
  ((aTi D c 1, aMo D c 1, aFr D c 1), (k_wn c - e, (fun i => neE c R e (e + i)), (fun i => k_du c (e + i))), (k_do c + zI e, k_ov c, k_cu c, leF (k_le c) (aTi D c 1) (k_du c) e), (if k_at c = aTi D c 1 then (-2, -2) else (k_to c, k_at c)))
section STEPA
variable {B : Int} {nm : Nat} {D : Nat → MD} {c c' : CK}
/-- frames ahead, one on -/
theorem shift (S : swOk nm D c) (hs : 0 < sN D c) (kn : k_now c' = aTi D c 1) (km : k_mo c' = aMo D c 1) (kf : k_fr c' = aFr D c 1) (ks : (k_to c' = k_to c ∧ k_at c' = k_at c ∧ k_at c ≠ aTi D c 1) ∨ (k_to c' = -2 ∧ k_at c' = -2 ∧ 0 ≤ k_to c ∧ k_at c = aTi D c 1)) : ∀ n : Nat, n ≤ 999 → aTi D c' n = aTi D c (n + 1) ∧ aMo D c' n = aMo D c (n + 1) ∧ aFr D c' n = aFr D c (n + 1) := by
  have L := sw_L S
  have a0 := at0 S hs
  have t1 := ti_s S (n := 0) (by omega)
  rw [a0.1, a0.2.2.1] at t1
  have t1' : aTi D c 1 = k_now c + md_fr (D (k_mo c)) := t1
  have hF := (mF_b (S.1 _ S.2.2.2.1)).2 S.2.2.1
  -- while the mode stays
  have stay : 1 < sN D c → aMo D c 1 = k_mo c ∧ aFr D c 1 = (k_fr c + 1) % mF (D (k_mo c)) := fun h1 => by
    unfold aMo aFr
    rw [if_pos h1, if_pos h1]
    exact ⟨rfl, rfl⟩
  intro n hn
  rcases sw_n S with ⟨x1, x2, x3⟩ | ⟨x1, x2, x3, x4⟩
  · have st := stay (by omega)
    have kt : k_to c' < 0 := by rcases ks with ⟨a, _⟩ | ⟨a, _⟩ <;> omega
    have s' : sN D c' = 1000000 := by unfold sN; rw [if_neg (by omega)]
    unfold aTi aMo aFr
    rw [s', x2, if_pos (by omega), if_pos (by omega), if_pos (by omega), if_pos (by omega), if_pos (by omega), if_pos (by omega), kn, km, kf, st.1, st.2]
    refine ⟨?_, rfl, ?_⟩
    · rw [mul_s, t1']; omega
    · rw [Nat.mod_add_mod, Nat.add_assoc, Nat.add_comm 1 n]
  · have hT := ti_at S x1 (n := 1)
    rcases ks with ⟨k1, k2, k3⟩ | ⟨k1, k2, k3, k4⟩
    · have h1 : 1 < sN D c := by
        apply Decidable.byContradiction
        intro hx
        exact k3 (hT.mpr (by omega)).symm
      have st := stay h1
      have s' : sN D c' = sN D c - 1 := by
        have e0 : sN D c' = ((k_at c - aTi D c 1) / md_fr (D (k_mo c))).toNat := by
          unfold sN
          rw [if_pos (by omega), k2, kn, km, st.1]
        have e1 : k_at c - aTi D c 1 = ((sN D c - 1 : Nat) : Int) * md_fr (D (k_mo c)) := by
          have := mul_s (sN D c - 1) (md_fr (D (k_mo c)))
          rw [show sN D c - 1 + 1 = sN D c by omega] at this
          omega
        rw [e0, e1, Int.mul_ediv_cancel _ (by omega)]; rfl
      unfold aTi aMo aFr
      rw [s', kn, km, kf, st.1, st.2, k1, k2]
      by_cases hc : n < sN D c - 1
      · rw [if_pos hc, if_pos hc, if_pos hc, if_pos (show n + 1 < sN D c by omega), if_pos (show n + 1 < sN D c by omega), if_pos (show n + 1 < sN D c by omega)]
        refine ⟨?_, rfl, ?_⟩
        · rw [mul_s, t1']; omega
        · rw [Nat.mod_add_mod, Nat.add_assoc, Nat.add_comm 1 n]
      · rw [if_neg hc, if_neg hc, if_neg hc, if_neg (show ¬ n + 1 < sN D c by omega), if_neg (show ¬ n + 1 < sN D c by omega), if_neg (show ¬ n + 1 < sN D c by omega), show n - (sN D c - 1) = n + 1 - sN D c by omega]
        exact ⟨rfl, rfl, rfl⟩
    · have h1 : 1 = sN D c := hT.mp k4.symm
      have st := fr_at S x1
      rw [← h1] at st
      have s' : sN D c' = 1000000 := by unfold sN; rw [if_neg (by omega)]
      unfold aTi aMo aFr
      rw [s', if_pos (show n < 1000000 by omega), if_pos (show n < 1000000 by omega), if_pos (show n < 1000000 by omega), if_neg (show ¬ n + 1 < sN D c by omega), if_neg (show ¬ n + 1 < sN D c by omega), if_neg (show ¬ n + 1 < sN D c by omega), kn, km, kf, st.1, st.2, ← k4, show n + 1 - sN D c = n by omega, Nat.zero_add]
      exact ⟨rfl, rfl, rfl⟩
theorem cs_shift (H : ∀ n : Nat, n ≤ 999 → aTi D c' n = aTi D c (n + 1) ∧ aMo D c' n = aMo D c (n + 1) ∧ aFr D c' n = aFr D c (n + 1)) : ∀ n : Nat, n ≤ 1000 → sm n (aSl D c') = sm (n + 1) (aSl D c) - aSl D c 0 := by
  intro n
  induction n with
  | zero =>
    intro _
    rw [sm_s, sm_0, sm_0]; omega
  | succ n ih =>
    intro hn
    have h1 := ih (by omega)
    have h2 := H n (by omega)
    have e : aSl D c' n = aSl D c (n + 1) := by unfold aSl; rw [h2.2.1, h2.2.2]
    rw [sm_s n (aSl D c'), sm_s (n + 1) (aSl D c), h1, e]; omega
theorem sm_neE {R : Int} {e : Nat} : ∀ i : Nat, sm (i + 1) (fun j => neE c R e (e + j)) = sm (e + i + 1) (k_ne c) - R := by
  intro i
  induction i with
  | zero =>
    rw [sm_s, sm_0, sm_s (e + 0)]
    unfold neE
    rw [if_neg (by omega), if_pos (by omega), show e + 0 = e from rfl]; omega
  | succ i ih =>
    rw [sm_s (i + 1), ih, sm_s (e + (i + 1)), show e + i + 1 = e + (i + 1) from rfl]
    unfold neE
    rw [if_neg (by omega), if_neg (by omega)]; omega
theorem stp_ok (S : swOk nm D c) (Z : tId nm D) (k : ckOk nm D B c) (w : wOk c) {got R : Int} {e : Nat} (g0 : 0 ≤ got) (hR : R = aSl D c 0 - got) (R0 : 0 ≤ R) (I : InT D c got) (E : isE c R e) : ckOk nm D (B + 60) (stp D c R e) := by
  have hs := sN_pos k S
  have L := sw_L S
  have a0 := at0 S hs
  have t1 := ti_s S (n := 0) (by omega)
  rw [a0.1, a0.2.2.1] at t1
  have t1' : aTi D c 1 = k_now c + md_fr (D (k_mo c)) := t1
  have m1 := sw_m S (n := 1) (by omega)
  have hF := (mF_b (S.1 _ m1.1)).1
  have kb := k.1
  have w8 := k.2.2.1
  have eW : k_wn (stp D c R e) = k_wn c - e := rfl
  have eN : k_ne (stp D c R e) = fun i => neE c R e (e + i) := rfl
  have eD : k_du (stp D c R e) = fun i => k_du c (e + i) := rfl
  have ks : (k_to (stp D c R e) = k_to c ∧ k_at (stp D c R e) = k_at c ∧ k_at c ≠ aTi D c 1) ∨ (k_to (stp D c R e) = -2 ∧ k_at (stp D c R e) = -2 ∧ 0 ≤ k_to c ∧ k_at c = aTi D c 1) := by
    by_cases hc : k_at c = aTi D c 1
    · refine Or.inr ⟨?_, ?_, ?_, hc⟩
      · show (if k_at c = aTi D c 1 then ((-2 : Int), (-2 : Int)) else (k_to c, k_at c)).1 = -2
        rw [if_pos hc]
      · show (if k_at c = aTi D c 1 then ((-2 : Int), (-2 : Int)) else (k_to c, k_at c)).2 = -2
        rw [if_pos hc]
      · rcases k.2.2.2.2.2.1 with y | y
        · omega
        · exact y.1
    · refine Or.inl ⟨?_, ?_, hc⟩
      · show (if k_at c = aTi D c 1 then ((-2 : Int), (-2 : Int)) else (k_to c, k_at c)).1 = k_to c
        rw [if_neg hc]
      · show (if k_at c = aTi D c 1 then ((-2 : Int), (-2 : Int)) else (k_to c, k_at c)).2 = k_at c
        rw [if_neg hc]
  have sh := shift (c' := stp D c R e) S hs rfl rfl rfl ks
  have cs := cs_shift sh
  -- who waits on is in time
  have on : ∀ i, i < k_wn c - e → ∃ n, 1 ≤ n ∧ n ≤ 1000 ∧ aTi D c (n + 1) ≤ k_du c (e + i) ∧ sm (e + i + 1) (k_ne c) + got ≤ sm (n + 1) (aSl D c) := by
    intro i hi
    obtain ⟨n, n1, n2, n3⟩ := I (e + i) (by omega)
    have h1 : R < sm (e + 1) (k_ne c) := E.2.2 (by omega)
    have h2 : sm (e + 1) (k_ne c) ≤ sm (e + i + 1) (k_ne c) := sm_mono (fun q _ hq => by have := (w.2.1 q (by omega)).1; omega) (by omega)
    have h3 : 2 ≤ n := by
      apply Decidable.byContradiction
      intro hx
      have h4 := cs_mono S Z (show n ≤ 1 by omega) (by omega)
      rw [sm_s 0, sm_0] at h4
      omega
    refine ⟨n - 1, by omega, by omega, ?_, ?_⟩
    · rw [show n - 1 + 1 = n by omega]; exact n2
    · rw [show n - 1 + 1 = n by omega]; exact n3
  refine ⟨⟨?_, ?_⟩, m1.1, ?_, ?_, fun _ => m1.2.2, ?_, fun _ => m1.2.1, fun i hi => ?_, fun i hi => ?_, fun i hi => ?_⟩
  · show 0 ≤ aTi D c 1; omega
  · show aTi D c 1 ≤ B + 60; omega
  · show k_wn c - e ≤ 8; omega
  · show aFr D c 1 < 24
    have := m1.2.2
    omega
  · rcases ks with ⟨x1, x2, x3⟩ | ⟨x1, x2, x3, x4⟩
    · rw [x1, x2]
      rcases k.2.2.2.2.2.1 with y | ⟨y1, y2, y3, y4, y5, y6, y7⟩
      · exact Or.inl y
      · right
        rcases sw_n S with ⟨z1, z2, z3⟩ | ⟨z1, z2, z3, z4⟩
        · omega
        · have h1 : 1 < sN D c := by
            apply Decidable.byContradiction
            intro hx
            exact x3 ((ti_at S z1 (n := 1)).mpr (by omega)).symm
          have hM : aMo D c 1 = k_mo c := by unfold aMo; rw [if_pos h1]
          have e1 : k_at c - aTi D c 1 = ((sN D c - 1 : Nat) : Int) * md_fr (D (k_mo c)) := by
            have := mul_s (sN D c - 1) (md_fr (D (k_mo c)))
            rw [show sN D c - 1 + 1 = sN D c by omega] at this
            omega
          have e2 := mul_m (show 1 ≤ sN D c - 1 by omega) (show 0 ≤ md_fr (D (k_mo c)) by omega)
          rw [show ((1 : Nat) : Int) * md_fr (D (k_mo c)) = md_fr (D (k_mo c)) from Int.one_mul _] at e2
          refine ⟨y1, y2, y3, m1.2.1, ?_, ?_, ?_⟩
          · show aTi D c 1 < k_at c; omega
          · show k_at c ≤ aTi D c 1 + 600; omega
          · show (k_at c - aTi D c 1) % md_fr (D (aMo D c 1)) = 0
            rw [hM, e1]; exact Int.mul_emod_left _ _
    · rw [x1, x2]; exact Or.inl ⟨rfl, rfl⟩
  · have hi' : i < k_wn c - e := hi
    obtain ⟨n, n1, n2, n3, n4⟩ := on i hi'
    have hw := w.2.1 (e + i) (by omega)
    have t2 := ti_mono S (n + 1) (show 2 ≤ n + 1 by omega) (by omega)
    have t3 := ti_s S (n := 1) (by omega)
    have L1 := (S.1 _ m1.1).1
    have t3' : aTi D c 2 = aTi D c 1 + md_fr (D (aMo D c 1)) := t3
    show 1 ≤ neE c R e (e + i) ∧ neE c R e (e + i) ≤ 400 ∧ aTi D c 1 < k_du c (e + i) ∧ k_du c (e + i) ≤ aTi D c 1 + 400
    refine ⟨?_, ?_, by omega, by omega⟩
    · unfold neE
      by_cases e1 : e + i = e
      · rw [if_neg (by omega), if_pos e1]
        have := E.2.2 (by omega)
        rw [sm_s] at this
        omega
      · rw [if_neg (by omega), if_neg e1]; omega
    · unfold neE
      by_cases e1 : e + i = e
      · rw [if_neg (by omega), if_pos e1]
        have := E.2.1
        have := w.2.1 e (by omega)
        omega
      · rw [if_neg (by omega), if_neg e1]; omega
  · have hi' : i + 1 < k_wn c - e := hi
    show k_du c (e + i) ≤ k_du c (e + (i + 1))
    exact w.2.2 (e + i) (by omega)
  · have hi' : i < k_wn c - e := hi
    obtain ⟨n, n1, n2, n3, n4⟩ := on i hi'
    refine ⟨n, n2, ?_, ?_⟩
    · by_cases hn : n ≤ 999
      · rw [(sh n hn).1]; exact n3
      · have := ti_b S n (by omega)
        have := ti_mono S (n + 1) (show n ≤ n + 1 by omega) (by omega)
        have := w.2.1 (e + i) (by omega)
        omega
    · rw [cs n (by omega)]
      show sm (i + 1) (fun j => neE c R e (e + j)) ≤ _
      rw [sm_neE]; omega
end STEPA
