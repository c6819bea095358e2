/-! ===== soonest, greatest ===== -/
noncomputable def soF (D : Nat → MD) (c : CK) (x : Int) : Nat → Nat → Int
  | 0, _ => -2
  | e + 1, n => if x ≤ lfo D c (k_now c + n) then k_now c + n else soF D c x e (n + 1)
theorem soF_s (D : Nat → MD) (c : CK) (x : Int) (e n : Nat) : soF D c x (e + 1) n = if x ≤ lfo D c (k_now c + n) then k_now c + n else soF D c x e (n + 1) := rfl
def cl4 (l : Int) : Int := if 0 < (if 400 < l then 400 else l) then (if 400 < l then 400 else l) else 0
section SOON
variable {B : Int} {h : jm_H} {nm : Nat} {D : Nat → MD} {c : CK}
theorem s_so_15 (S : swOk nm D c) (Z : tId nm D) (w : wOk c) (w8 : k_wn c ≤ 8) (k : KW h c) (v : SV h D c) {x : Int} (x1 : 1 ≤ x) (x2 : x ≤ 400) : ∀ (e n : Nat), n + e = 401 → 1 ≤ n → l_FR_soonest_15 (zI x) (zI n) h (some (jm_i (zI (soF D c x e n))), jm_sI h 7 0 8 0) := by
  have hnow := S.2.2.2.2.2.1
  intro e
  induction e with
  | zero =>
    intro n en n1
    refine wp_FR_soonest_15 ⟨fun _ => ⟨_, _, wp_FR_answered rfl, rfl⟩, fun hc => ?_⟩
    rw [zl_400, zI_lt (by omega) (by omega) (by omega) (by omega)] at hc; omega
  | succ e ih =>
    intro n en n1
    have r := ih (n + 1) (by omega) (by omega)
    have lb := lfo_b S Z w (due := k_now c + n) (by omega) (by omega)
    have ub := Ut_b S Z (t := (n : Int)) (by omega) (by omega)
    have nb := nd_b w (k_now c + n) (k_wn c) (Nat.le_refl _)
    have li := lfo_iff (D := D) (c := c) (due := k_now c + n) (X := x)
    rw [show k_now c + (n : Int) - k_now c = n by omega] at li
    have en' : (h.1 0 0 0) + zI (n : Int) = zI (k_now c + n) := by rw [k.1, zI_add]
    rw [soF_s]
    refine wp_FR_soonest_15 ⟨fun hc => ?_, fun _ => ⟨_, h, s_upTo S v (by omega) (by omega), fun hc => ?_, fun hc => ⟨_, h, by rw [en']; exact s_leftFor S Z w w8 k v (by omega) (by omega), fun hd => ?_, fun hd => ?_⟩⟩⟩
    · rw [zl_400, zI_lt (by omega) (by omega) (by omega) (by omega)] at hc; omega
    · rw [zI_lt (by omega) (by omega) (by omega) (by omega)] at hc
      rw [if_neg (fun y => by have := (li.mp y).1; omega), e_p1]; exact r
    · rw [zI_lt (by omega) (by omega) (by omega) (by omega)] at hd
      rw [if_neg (by omega), e_p1]; exact r
    · rw [zI_lt (by omega) (by omega) (by omega) (by omega)] at hd
      rw [if_pos (by omega)]
      exact ⟨_, _, wp_FR_answered rfl, by rw [en']⟩
theorem s_soM_27 (S : swOk nm D c) (Z : tId nm D) (w : wOk c) (w8 : k_wn c ≤ 8) (It : InT D c 0) {x : Int} (x1 : 1 ≤ x) (x2 : x ≤ 400) : ∀ (e n : Nat) (h : jm_H), n + e = 401 → 1 ≤ n → CB h nm D c → KM h 56 c → ∃ h', l_M_soonest_27 (zI x) (zI (k_now c + n)) h (some (jm_i (zI (soF D c x e n))), h') ∧ KM h' 56 c ∧ Ch (fun K i j => c44 K i j ∨ cW K i j) h h' := by
  have hnow := S.2.2.2.2.2.1
  intro e
  induction e with
  | zero =>
    intro n h en n1 b k
    refine ⟨h, wp_M_soonest_27 ⟨fun _ => rfl, fun hc => ?_⟩, k, Ch.rf h⟩
    rw [k.1, zl_400, zI_add, zI_lt (by omega) (by omega) (by omega) (by omega)] at hc; omega
  | succ e ih =>
    intro n h en n1 b k
    obtain ⟨v, h5, d1, d2, d3, d4, d5, d6⟩ := s_canBeTaken S Z w w8 It b k (due := k_now c + n) x1 x2 (by omega) (by omega)
    have hlt : ¬ (h.1 56 0 0 + 400 < zI (k_now c + n)) := by rw [k.1, zl_400, zI_add, zI_lt (by omega) (by omega) (by omega) (by omega)]; omega
    rw [soF_s]
    by_cases hv : x ≤ lfo D c (k_now c + n)
    · have hv1 : v = 1 := d2.mpr hv
      subst hv1
      rw [if_pos hv]
      exact ⟨h5, wp_M_soonest_27 ⟨fun hc => absurd hc hlt, fun _ => ⟨_, h5, d3, fun hc => absurd hc (by decide), fun _ => rfl⟩⟩, d4, d6⟩
    · have hv1 : v = 0 := by
        rcases d1 with e | e
        · exact e
        · exact absurd (d2.mp e) hv
      subst hv1
      obtain ⟨h6, r1, r2, r3⟩ := ih (n + 1) h5 (by omega) (by omega) d5 d4
      rw [if_neg hv]
      refine ⟨h6, wp_M_soonest_27 ⟨fun hc => absurd hc hlt, fun _ => ⟨_, h5, d3, fun _ => ?_, fun hc => absurd rfl hc⟩⟩, r2, d6.tr r3⟩
      rw [zl_1, zI_add, show k_now c + (n : Int) + 1 = k_now c + ((n + 1 : Nat) : Int) by omega]; exact r1
theorem c_soonest (hB : B ≤ 1000000000) (I : INV B h) (a : Int32) : ∃ v h1 h2, m_FR_soonest a h v h1 ∧ m_M_soonest a h1 v h2 ∧ INV B h2 := by
  obtain ⟨nm, D, P, C, T, Q⟩ := I
  obtain ⟨x, rfl, x1, x2⟩ := i32x a
  by_cases hz : nm = 0
  · exact ⟨_, _, _, wp_FR_soonest ⟨_, h, s_isNeedF x1 x2, 1, h, s_clR1 P hz, fun hc => absurd hc (by decide), fun _ => ⟨_, _, wp_FR_refused rfl, rfl⟩⟩, wp_M_soonest ⟨_, s_an, 1, _, s_clW1 (PLa P 1) hz, fun hc => absurd hc (by decide), fun _ => ⟨_, _, wp_M_no rfl, rfl⟩⟩, ref_inv P C T Q (t := 1) (by decide)⟩
  · obtain ⟨c, k1, k2, k3, k4⟩ := C.2.1 (by omega)
    have kb := ckB k3
    by_cases G : gdm (D (k_mo c))
    · have R := s_clR P k1 k3.2.1 G
      by_cases hx : 1 ≤ x ∧ x ≤ 400
      · obtain ⟨S, w, It⟩ := sw_of P k3 G hB
        have Z := P.tId
        obtain ⟨h3, a1, a2, a3⟩ := s_survey P S Z k1
        have X1 := go_c P a3 0
        have P1 := P.k X1
        have cG : ∀ K i j, K ≠ 5 → K ≠ 30 → K ≠ 31 → K ≠ 7 → (jm_sI h3 7 0 8 0).1 K i j = h.1 K i j := fun K i j q1 q2 q3 q4 => by rw [sI_ne (by omega), a3.at (by omega)]
        obtain ⟨h4, b1, b2, b3, b4, b5, b6, b7, b8⟩ := ref_go P1 (k2.chg (fun j => cG _ _ _ (by omega) (by omega) (by omega) (by omega))) k3 (k4.M k3 (fun m hm => (X1.2 m hm).2)) G
        obtain ⟨h5, r1, r2, r3⟩ := s_soM_27 S Z w k3.2.2.1 It hx.1 hx.2 400 1 h4 (by omega) (by omega) b4 b3
        have f1 := s_so_15 S Z w k3.2.2.1 (sv_k k1 a3).kw a2 hx.1 hx.2 400 1 (by omega) (by omega)
        have X3 : KX nm D h4 h5 := KX.of P (cKY_W r3)
        refine ⟨_, _, h5, wp_FR_soonest ⟨_, h, s_isNeedF x1 x2, 0, h, by rw [if_pos hx]; exact R.2, fun _ => ⟨h3, a1, f1⟩, fun hc => absurd rfl hc⟩, wp_M_soonest ⟨_, s_an, 0, h4, b1, fun _ => ⟨_, h4, s_isNeedM x1 x2, fun hc => absurd hc (nz1 hx), fun _ => ?_⟩, fun hc => absurd rfl hc⟩, INV.mk2 P C T Q (Int.le_refl _) ((X1.tr (KX.m b6)).tr X3) (by omega) (k1.chg (fun K j hK => by rw [r3.at (by unfold c44 cW; omega), mx_c b6 (by omega), cG _ _ _ (by omega) (by omega) (by omega) (by omega)])) r2 k3 (b5.M k3 (fun m hm => (X3.2 m hm).2)) (t := 0) (by rw [r3.at (by unfold c44 cW; omega), mx_c b6 (by omega), sI_eq]) (by rw [r3.at (by unfold c44 cW; omega)]; exact b7) (by decide)⟩
        rw [b3.1, zl_1, zI_add]; exact r1
      · obtain ⟨h2, b1, b2, b3⟩ := ref_no2 P k2 k3 G
        exact ⟨_, _, _, wp_FR_soonest ⟨_, h, s_isNeedF x1 x2, 2, h, by rw [if_neg hx]; exact R.1, fun hc => absurd hc (by decide), fun _ => ⟨_, _, wp_FR_refused rfl, rfl⟩⟩, wp_M_soonest ⟨_, s_an, 0, h2, b1, fun _ => ⟨_, h2, s_isNeedM x1 x2, fun _ => ⟨_, _, wp_M_no rfl, rfl⟩, fun hc => absurd (nz0 hx) hc⟩, fun hc => absurd rfl hc⟩, no_inv P C T Q (Ch.rf h) b2 (t := 2) (by decide)⟩
    · obtain ⟨h2, b1, b2⟩ := ref_no5 P k2 k3 G
      exact ⟨_, _, _, wp_FR_soonest ⟨_, h, s_isNeedF x1 x2, 5, h, s_clR5 P k1 k3.2.1 G, fun hc => absurd hc (by decide), fun _ => ⟨_, _, wp_FR_refused rfl, rfl⟩⟩, wp_M_soonest ⟨_, s_an, 5, h2, b1, fun hc => absurd hc (by decide), fun _ => ⟨_, _, wp_M_no rfl, rfl⟩⟩, no_inv P C T Q (Ch.rf h) b2 (t := 5) (by decide)⟩
theorem cl4_32 {l : Int} (l1 : -2147483648 ≤ l) (l2 : l ≤ 2147483647) : (if (0 : Int32) < (if (400 : Int32) < zI l then 400 else zI l) then (if (400 : Int32) < zI l then 400 else zI l) else 0) = zI (cl4 l) := by
  unfold cl4
  by_cases h1 : 400 < l
  · rw [if_pos (show (400 : Int32) < zI l by rw [zl_400, zI_lt (by omega) (by omega) (by omega) (by omega)]; exact h1), if_pos h1, if_pos (by decide), if_pos (by decide)]; rfl
  · rw [if_neg (show ¬ (400 : Int32) < zI l by rw [zl_400, zI_lt (by omega) (by omega) (by omega) (by omega)]; exact h1), if_neg h1]
    by_cases h2 : 0 < l
    · rw [if_pos (show (0 : Int32) < zI l by rw [zl_0, zI_lt (by omega) (by omega) (by omega) (by omega)]; exact h2), if_pos h2]
    · rw [if_neg (show ¬ (0 : Int32) < zI l by rw [zl_0, zI_lt (by omega) (by omega) (by omega) (by omega)]; exact h2), if_neg h2]; rfl
theorem s_grM_22 (S : swOk nm D c) (Z : tId nm D) (w : wOk c) (w8 : k_wn c ≤ 8) (It : InT D c 0) {y : Int} (y1 : k_now c < y) (y2 : y ≤ k_now c + 400) : ∀ (n : Nat) (h : jm_H), n ≤ 400 → (n < 400 → lfo D c y < (n : Int) + 1) → CB h nm D c → KM h 56 c → ∃ h', l_M_greatest_22 (zI y) (zI n) h (some (jm_i (zI (cl4 (lfo D c y)))), h') ∧ KM h' 56 c ∧ Ch (fun K i j => c44 K i j ∨ cW K i j) h h' := by
  intro n
  induction n with
  | zero =>
    intro h hn hl b k
    have := hl (by omega)
    refine ⟨h, wp_M_greatest_22 ⟨fun _ => ?_, fun hc => absurd (by decide) hc⟩, k, Ch.rf h⟩
    unfold cl4
    rw [if_neg (show ¬ 400 < lfo D c y by omega), if_neg (by omega)]; rfl
  | succ n ih =>
    intro h hn hl b k
    obtain ⟨v, h5, d1, d2, d3, d4, d5, d6⟩ := s_canBeTaken S Z w w8 It b k (X := ((n + 1 : Nat) : Int)) (due := y) (by omega) (by omega) y1 y2
    have pos : ¬ (zI ((n + 1 : Nat) : Int) ≤ 0) := by rw [zl_0, zI_le (by omega) (by omega) (by omega) (by omega)]; omega
    by_cases hv : ((n + 1 : Nat) : Int) ≤ lfo D c y
    · have hv1 : v = 1 := d2.mpr hv
      subst hv1
      have e : cl4 (lfo D c y) = ((n + 1 : Nat) : Int) := by
        unfold cl4
        by_cases h4 : 400 < lfo D c y
        · rw [if_pos h4, if_pos (by omega)]
          by_cases h5 : n + 1 < 400
          · have := hl h5; omega
          · omega
        · rw [if_neg h4, if_pos (by omega)]
          by_cases h5 : n + 1 < 400
          · have := hl h5; omega
          · omega
      rw [e]
      exact ⟨h5, wp_M_greatest_22 ⟨fun hc => absurd hc pos, fun _ => ⟨_, h5, d3, fun hc => absurd hc (by decide), fun _ => rfl⟩⟩, d4, d6⟩
    · have hv1 : v = 0 := by
        rcases d1 with e | e
        · exact e
        · exact absurd (d2.mp e) hv
      subst hv1
      obtain ⟨h6, r1, r2, r3⟩ := ih h5 (by omega) (fun _ => by omega) d5 d4
      exact ⟨h6, wp_M_greatest_22 ⟨fun hc => absurd hc pos, fun _ => ⟨_, h5, d3, fun _ => by rw [e_a1]; exact r1, fun hc => absurd rfl hc⟩⟩, r2, d6.tr r3⟩
theorem c_greatest (hB : B ≤ 1000000000) (I : INV B h) (a : Int32) : ∃ v h1 h2, m_FR_greatest a h v h1 ∧ m_M_greatest a h1 v h2 ∧ INV B h2 := by
  obtain ⟨nm, D, P, C, T, Q⟩ := I
  obtain ⟨y, rfl, y1, y2⟩ := i32x a
  by_cases hz : nm = 0
  · obtain ⟨dv, hd⟩ := isDue_ex (h := h) (zI y)
    exact ⟨_, _, _, wp_FR_greatest ⟨_, h, hd, 1, h, s_clR1 P hz, fun hc => absurd hc (by decide), fun _ => ⟨_, _, wp_FR_refused rfl, rfl⟩⟩, wp_M_greatest ⟨_, s_an, 1, _, s_clW1 (PLa P 1) hz, fun hc => absurd hc (by decide), fun _ => ⟨_, _, wp_M_no rfl, rfl⟩⟩, ref_inv P C T Q (t := 1) (by decide)⟩
  · obtain ⟨c, k1, k2, k3, k4⟩ := C.2.1 (by omega)
    have kb := ckB k3
    have hd := s_isDueF (h := h) y1 y2 k1.1 kb.1 (by omega)
    by_cases G : gdm (D (k_mo c))
    · have R := s_clR P k1 k3.2.1 G
      by_cases hy : k_now c < y ∧ y ≤ k_now c + 400
      · obtain ⟨S, w, It⟩ := sw_of P k3 G hB
        have Z := P.tId
        obtain ⟨h3, a1, a2, a3⟩ := s_survey P S Z k1
        have lf := s_leftFor S Z w k3.2.2.1 (sv_k k1 a3).kw a2 hy.1 hy.2
        have lb := lfo_b S Z w hy.1 hy.2
        have X1 := go_c P a3 0
        have P1 := P.k X1
        have cG : ∀ K i j, K ≠ 5 → K ≠ 30 → K ≠ 31 → K ≠ 7 → (jm_sI h3 7 0 8 0).1 K i j = h.1 K i j := fun K i j q1 q2 q3 q4 => by rw [sI_ne (by omega), a3.at (by omega)]
        obtain ⟨h4, b1, b2, b3, b4, b5, b6, b7, b8⟩ := ref_go P1 (k2.chg (fun j => cG _ _ _ (by omega) (by omega) (by omega) (by omega))) k3 (k4.M k3 (fun m hm => (X1.2 m hm).2)) G
        obtain ⟨h5, r1, r2, r3⟩ := s_grM_22 S Z w k3.2.2.1 It hy.1 hy.2 400 h4 (by omega) (fun x => by omega) b4 b3
        have X3 : KX nm D h4 h5 := KX.of P (cKY_W r3)
        exact ⟨_, _, h5, wp_FR_greatest ⟨_, h, hd, 0, h, by rw [if_pos hy]; exact R.2, fun _ => ⟨h3, a1, _, h3, lf, _, _, wp_FR_answered rfl, by rw [cl4_32 (by omega) (by omega)]⟩, fun hc => absurd rfl hc⟩, wp_M_greatest ⟨_, s_an, 0, h4, b1, fun _ => ⟨_, h4, s_isDueM y1 y2 b3.1 kb.1 (by omega), fun hc => absurd hc (nz1 hy), fun _ => r1⟩, fun hc => absurd rfl hc⟩, INV.mk2 P C T Q (Int.le_refl _) ((X1.tr (KX.m b6)).tr X3) (by omega) (k1.chg (fun K j hK => by rw [r3.at (by unfold c44 cW; omega), mx_c b6 (by omega), cG _ _ _ (by omega) (by omega) (by omega) (by omega)])) r2 k3 (b5.M k3 (fun m hm => (X3.2 m hm).2)) (t := 0) (by rw [r3.at (by unfold c44 cW; omega), mx_c b6 (by omega), sI_eq]) (by rw [r3.at (by unfold c44 cW; omega)]; exact b7) (by decide)⟩
      · obtain ⟨h2, b1, b2, b3⟩ := ref_no2 P k2 k3 G
        exact ⟨_, _, _, wp_FR_greatest ⟨_, h, hd, 2, h, by rw [if_neg hy]; exact R.1, fun hc => absurd hc (by decide), fun _ => ⟨_, _, wp_FR_refused rfl, rfl⟩⟩, wp_M_greatest ⟨_, s_an, 0, h2, b1, fun _ => ⟨_, h2, s_isDueM y1 y2 b3 kb.1 (by omega), fun _ => ⟨_, _, wp_M_no rfl, rfl⟩, fun hc => absurd (nz0 hy) hc⟩, fun hc => absurd rfl hc⟩, no_inv P C T Q (Ch.rf h) b2 (t := 2) (by decide)⟩
    · obtain ⟨h2, b1, b2⟩ := ref_no5 P k2 k3 G
      exact ⟨_, _, _, wp_FR_greatest ⟨_, h, hd, 5, h, s_clR5 P k1 k3.2.1 G, fun hc => absurd hc (by decide), fun _ => ⟨_, _, wp_FR_refused rfl, rfl⟩⟩, wp_M_greatest ⟨_, s_an, 5, h2, b1, fun hc => absurd hc (by decide), fun _ => ⟨_, _, wp_M_no rfl, rfl⟩⟩, no_inv P C T Q (Ch.rf h) b2 (t := 5) (by decide)⟩
end SOON
