/-! ===== canTake, take, soonest, greatest ===== -/
section TAKES
variable {B : Int} {h : jm_H} {nm : Nat} {D : Nat → MD} {c : CK}
theorem ckB {B' : Int} (k : ckOk nm D B' c) : 0 ≤ k_now c ∧ k_now c ≤ B' := k.1
theorem hAn56 (g : jm_H) {K : Nat} (hK : K ≠ 8 ∧ (K < 45 ∨ 51 < K)) (i j : Nat) : (hAn g).1 K i j = g.1 K i j := (hAn_c g).at (by unfold cM2 cMs; omega)
/-- on the way to what the clock tells, in the reference -/
theorem ref_go {g : jm_H} (Pg : PL g nm D) (k2 : KM g 56 c) (k3 : ckOk nm D B c) (k4 : ckL g D c) (G : gdm (D (k_mo c))) : ∃ h2, m_M_clockWhy 1 (hAn g) 0 h2 ∧ PL h2 nm D ∧ KM h2 56 c ∧ CB h2 nm D c ∧ ckL h2 D c ∧ MX nm D g h2 ∧ h2.1 8 0 1 = 0 ∧ TL h2 (k_mo c) (D (k_mo c)) := by
  have Pa : PL (hAn g) nm D := Pg.M (EM.an Pg).1
  obtain ⟨h2, b1, b2, b3, b4⟩ := s_clW (c := c) Pa (by rw [hAn56 g (by omega)]; exact k2.2.1) k3.2.1
  rw [gT_y G] at b1
  have mx : MX nm D g h2 := (EM.an Pg).1.tr b2
  have P2 := Pg.M mx
  have L2 : ckL h2 D c := k4.M k3 (fun m hm => (mx.2 m hm).2)
  exact ⟨h2, b1, P2, k2.chg (fun j => mx.1.at (by unfold cMX cMs; omega)), CB.of P2 L2 (b3 G), L2, mx, b4.trans (hAn_t g), b3 G⟩
theorem ref_no5 (P : PL h nm D) (k2 : KM h 56 c) (k3 : ckOk nm D B c) (G : ¬ gdm (D (k_mo c))) : ∃ h2, m_M_clockWhy 1 (hAn (jm_sI h 7 0 8 5)) 5 h2 ∧ MX nm D (hAn (jm_sI h 7 0 8 5)) h2 := by
  obtain ⟨h2, b1, b2, b3, b4⟩ := s_clW (c := c) (PLa P 5) (by rw [hAn56 _ (by omega), sI_ne (by omega)]; exact k2.2.1) k3.2.1
  rw [gT_n G] at b1
  exact ⟨h2, b1, b2⟩
theorem ref_no2 (P : PL h nm D) (k2 : KM h 56 c) (k3 : ckOk nm D B c) (G : gdm (D (k_mo c))) : ∃ h2, m_M_clockWhy 1 (hAn (jm_sI h 7 0 8 2)) 0 h2 ∧ MX nm D (hAn (jm_sI h 7 0 8 2)) h2 ∧ h2.1 56 0 0 = zI (k_now c) := by
  obtain ⟨h2, b1, b2, b3, b4⟩ := s_clW (c := c) (PLa P 2) (by rw [hAn56 _ (by omega), sI_ne (by omega)]; exact k2.2.1) k3.2.1
  rw [gT_y G] at b1
  refine ⟨h2, b1, b2, ?_⟩
  rw [b2.1.at (by unfold cMX cMs; omega), hAn56 _ (by omega), sI_ne (by omega)]; exact k2.1
theorem isDue_ex (b : Int32) : ∃ v, m_FR_isDue b h v h := by
  by_cases h1 : b ≤ h.1 0 0 0
  · exact ⟨_, wp_FR_isDue ⟨fun _ => rfl, fun hc => absurd h1 hc⟩⟩
  · by_cases h2 : (h.1 0 0 0) + 400 < b
    · exact ⟨_, wp_FR_isDue ⟨fun hc => absurd hc h1, fun _ => ⟨fun _ => rfl, fun hc => absurd h2 hc⟩⟩⟩
    · exact ⟨_, wp_FR_isDue ⟨fun hc => absurd hc h1, fun _ => ⟨fun hc => absurd hc h2, fun _ => rfl⟩⟩⟩
theorem s_canTakeF_no {a b t nv dv : Int32} (hn : m_FR_isNeed a h nv h) (hd : m_FR_isDue b h dv h) (tn : ¬ t = 0) (R0 : m_FR_clockRefusal 0 h t h) (R1 : ¬ nv = 0 → ¬ dv = 0 → m_FR_clockRefusal 1 h t h) : m_FR_canTake a b h (-1) (jm_sI h 7 0 8 t) :=
  wp_FR_canTake ⟨nv, h, hn, fun _ => ⟨t, h, R0, fun hc => absurd hc tn, fun _ => ⟨_, _, wp_FR_refused rfl, rfl⟩⟩, fun h1 => ⟨dv, h, hd, fun _ => ⟨t, h, R0, fun hc => absurd hc tn, fun _ => ⟨_, _, wp_FR_refused rfl, rfl⟩⟩, fun h2 => ⟨t, h, R1 h1 h2, fun hc => absurd hc tn, fun _ => ⟨_, _, wp_FR_refused rfl, rfl⟩⟩⟩⟩
/-- refused -/
theorem canTake_no (hB : B ≤ 1000000000) (P : PL h nm D) (C : CKI h nm D B) (T : TT h) (Q : TP h) {x y : Int} (x1 : -2147483648 ≤ x) (x2 : x ≤ 2147483647) (y1 : -2147483648 ≤ y) (y2 : y ≤ 2147483647) : (∃ v h1 h2, m_FR_canTake (zI x) (zI y) h v h1 ∧ m_M_canTake (zI x) (zI y) h1 v h2 ∧ INV B h2) ∨ (0 < nm ∧ ∃ c, KF h 0 c ∧ KM h 56 c ∧ ckOk nm D B c ∧ ckL h D c ∧ gdm (D (k_mo c)) ∧ (1 ≤ x ∧ x ≤ 400) ∧ (k_now c < y ∧ y ≤ k_now c + 400)) := by
  by_cases hz : nm = 0
  · obtain ⟨dv, hd⟩ := isDue_ex (h := h) (zI y)
    exact Or.inl ⟨_, _, _, s_canTakeF_no (s_isNeedF x1 x2) hd (by decide) (s_clR1 P hz) (fun _ _ => s_clR1 P hz), wp_M_canTake ⟨_, s_an, 1, _, s_clW1 (PLa P 1) hz, fun hc => absurd hc (by decide), fun _ => ⟨_, _, wp_M_no rfl, rfl⟩⟩, ref_inv P C T Q (t := 1) (by decide)⟩
  · obtain ⟨c, k1, k2, k3, k4⟩ := C.2.1 (by omega)
    have kb := ckB k3
    have hd := s_isDueF (h := h) y1 y2 k1.1 kb.1 (by omega)
    by_cases G : gdm (D (k_mo c))
    · have R := s_clR P k1 k3.2.1 G
      by_cases hx : 1 ≤ x ∧ x ≤ 400
      · by_cases hy : k_now c < y ∧ y ≤ k_now c + 400
        · exact Or.inr ⟨by omega, c, k1, k2, k3, k4, G, hx, hy⟩
        · obtain ⟨h2, b1, b2, b3⟩ := ref_no2 P k2 k3 G
          exact Or.inl ⟨_, _, _, s_canTakeF_no (s_isNeedF x1 x2) hd (by decide) R.1 (fun _ hc => absurd (nz0 hy) hc), wp_M_canTake ⟨_, s_an, 0, h2, b1, fun _ => ⟨_, _, s_isNeedM x1 x2, fun hc => absurd hc (nz1 hx), fun _ => ⟨_, _, s_isDueM y1 y2 b3 kb.1 (by omega), fun _ => ⟨_, _, wp_M_no rfl, rfl⟩, fun hc => absurd (nz0 hy) hc⟩⟩, fun hc => absurd rfl hc⟩, no_inv P C T Q (Ch.rf h) b2 (t := 2) (by decide)⟩
      · obtain ⟨h2, b1, b2, b3⟩ := ref_no2 P k2 k3 G
        exact Or.inl ⟨_, _, _, s_canTakeF_no (s_isNeedF x1 x2) hd (by decide) R.1 (fun hc _ => absurd (nz0 hx) hc), wp_M_canTake ⟨_, s_an, 0, h2, b1, fun _ => ⟨_, _, s_isNeedM x1 x2, fun _ => ⟨_, _, wp_M_no rfl, rfl⟩, fun hc => absurd (nz0 hx) hc⟩, fun hc => absurd rfl hc⟩, no_inv P C T Q (Ch.rf h) b2 (t := 2) (by decide)⟩
    · obtain ⟨h2, b1, b2⟩ := ref_no5 P k2 k3 G
      exact Or.inl ⟨_, _, _, s_canTakeF_no (s_isNeedF x1 x2) hd (by decide) (s_clR5 P k1 k3.2.1 G) (fun _ _ => s_clR5 P k1 k3.2.1 G), wp_M_canTake ⟨_, s_an, 5, h2, b1, fun hc => absurd hc (by decide), fun _ => ⟨_, _, wp_M_no rfl, rfl⟩⟩, no_inv P C T Q (Ch.rf h) b2 (t := 5) (by decide)⟩
theorem s_takeF_no {a b t nv dv : Int32} (hn : m_FR_isNeed a h nv h) (hd : m_FR_isDue b h dv h) (tn : ¬ t = 0) (R0 : m_FR_clockRefusal 0 h t h) (R1 : ¬ nv = 0 → ¬ dv = 0 → m_FR_clockRefusal 1 h t h) : m_FR_take a b h (-1) (jm_sI h 7 0 8 t) :=
  wp_FR_take ⟨nv, h, hn, fun _ => ⟨t, h, R0, fun hc => absurd hc tn, fun _ => ⟨_, _, wp_FR_refused rfl, rfl⟩⟩, fun h1 => ⟨dv, h, hd, fun _ => ⟨t, h, R0, fun hc => absurd hc tn, fun _ => ⟨_, _, wp_FR_refused rfl, rfl⟩⟩, fun h2 => ⟨t, h, R1 h1 h2, fun hc => absurd hc tn, fun _ => ⟨_, _, wp_FR_refused rfl, rfl⟩⟩⟩⟩
/-- refused -/
theorem take_no (hB : B ≤ 1000000000) (P : PL h nm D) (C : CKI h nm D B) (T : TT h) (Q : TP h) {x y : Int} (x1 : -2147483648 ≤ x) (x2 : x ≤ 2147483647) (y1 : -2147483648 ≤ y) (y2 : y ≤ 2147483647) : (∃ v h1 h2, m_FR_take (zI x) (zI y) h v h1 ∧ m_M_take (zI x) (zI y) h1 v h2 ∧ INV B h2) ∨ (0 < nm ∧ ∃ c, KF h 0 c ∧ KM h 56 c ∧ ckOk nm D B c ∧ ckL h D c ∧ gdm (D (k_mo c)) ∧ (1 ≤ x ∧ x ≤ 400) ∧ (k_now c < y ∧ y ≤ k_now c + 400)) := by
  by_cases hz : nm = 0
  · obtain ⟨dv, hd⟩ := isDue_ex (h := h) (zI y)
    exact Or.inl ⟨_, _, _, s_takeF_no (s_isNeedF x1 x2) hd (by decide) (s_clR1 P hz) (fun _ _ => s_clR1 P hz), wp_M_take ⟨_, s_an, 1, _, s_clW1 (PLa P 1) hz, fun hc => absurd hc (by decide), fun _ => ⟨_, _, wp_M_no rfl, rfl⟩⟩, ref_inv P C T Q (t := 1) (by decide)⟩
  · obtain ⟨c, k1, k2, k3, k4⟩ := C.2.1 (by omega)
    have kb := ckB k3
    have hd := s_isDueF (h := h) y1 y2 k1.1 kb.1 (by omega)
    by_cases G : gdm (D (k_mo c))
    · have R := s_clR P k1 k3.2.1 G
      by_cases hx : 1 ≤ x ∧ x ≤ 400
      · by_cases hy : k_now c < y ∧ y ≤ k_now c + 400
        · exact Or.inr ⟨by omega, c, k1, k2, k3, k4, G, hx, hy⟩
        · obtain ⟨h2, b1, b2, b3⟩ := ref_no2 P k2 k3 G
          exact Or.inl ⟨_, _, _, s_takeF_no (s_isNeedF x1 x2) hd (by decide) R.1 (fun _ hc => absurd (nz0 hy) hc), wp_M_take ⟨_, s_an, 0, h2, b1, fun _ => ⟨_, _, s_isNeedM x1 x2, fun hc => absurd hc (nz1 hx), fun _ => ⟨_, _, s_isDueM y1 y2 b3 kb.1 (by omega), fun _ => ⟨_, _, wp_M_no rfl, rfl⟩, fun hc => absurd (nz0 hy) hc⟩⟩, fun hc => absurd rfl hc⟩, no_inv P C T Q (Ch.rf h) b2 (t := 2) (by decide)⟩
      · obtain ⟨h2, b1, b2, b3⟩ := ref_no2 P k2 k3 G
        exact Or.inl ⟨_, _, _, s_takeF_no (s_isNeedF x1 x2) hd (by decide) R.1 (fun hc _ => absurd (nz0 hx) hc), wp_M_take ⟨_, s_an, 0, h2, b1, fun _ => ⟨_, _, s_isNeedM x1 x2, fun _ => ⟨_, _, wp_M_no rfl, rfl⟩, fun hc => absurd (nz0 hx) hc⟩, fun hc => absurd rfl hc⟩, no_inv P C T Q (Ch.rf h) b2 (t := 2) (by decide)⟩
    · obtain ⟨h2, b1, b2⟩ := ref_no5 P k2 k3 G
      exact Or.inl ⟨_, _, _, s_takeF_no (s_isNeedF x1 x2) hd (by decide) (s_clR5 P k1 k3.2.1 G) (fun _ _ => s_clR5 P k1 k3.2.1 G), wp_M_take ⟨_, s_an, 5, h2, b1, fun hc => absurd hc (by decide), fun _ => ⟨_, _, wp_M_no rfl, rfl⟩⟩, no_inv P C T Q (Ch.rf h) b2 (t := 5) (by decide)⟩
/-- the class has looked ahead, and nothing else has changed -/
theorem go_c (P : PL h nm D) {h3 : jm_H} (c3 : Ch (fun K _ _ => K = 5 ∨ K = 30 ∨ K = 31) h h3) (t : Int32) : KX nm D h (jm_sI h3 7 0 8 t) := KX.of P (cKY_F ((svX c3).tr (Ch.sI (by unfold cFX; omega))))
theorem mx_c {g g2 : jm_H} (a : MX nm D g g2) {K i j : Nat} (hK : K = 0 ∨ K = 7 ∨ K = 10 ∨ K = 11) : g2.1 K i j = g.1 K i j := a.1.at (by unfold cMX cMs; omega)
theorem sv_k {h3 : jm_H} (k1 : KF h 0 c) (c3 : Ch (fun K _ _ => K = 5 ∨ K = 30 ∨ K = 31) h h3) : KF h3 0 c := k1.chg (fun K j hK => c3.at (by omega))
theorem c_canTake (hB : B ≤ 1000000000) (I : INV B h) (a b : Int32) : ∃ v h1 h2, m_FR_canTake a b h v h1 ∧ m_M_canTake a b h1 v h2 ∧ INV B h2 := by
  obtain ⟨nm, D, P, C, T, Q⟩ := I
  obtain ⟨x, rfl, x1, x2⟩ := i32x a
  obtain ⟨y, rfl, y1, y2⟩ := i32x b
  rcases canTake_no hB P C T Q x1 x2 y1 y2 with r | ⟨hn, c, k1, k2, k3, k4, G, hx, hy⟩
  · exact r
  · obtain ⟨S, w, It⟩ := sw_of P k3 G hB
    have Z := P.tId
    have kb := ckB k3
    have R := s_clR P k1 k3.2.1 G
    obtain ⟨h3, a1, a2, a3⟩ := s_survey P S Z k1
    have lf := s_leftFor S Z w k3.2.2.1 (sv_k k1 a3).kw a2 hy.1 hy.2
    have lb := lfo_b S Z w hy.1 hy.2
    have X1 := go_c P a3 0
    have P1 := P.k X1
    have cG : ∀ K i j, K ≠ 5 → K ≠ 30 → K ≠ 31 → K ≠ 7 → (jm_sI h3 7 0 8 0).1 K i j = h.1 K i j := fun K i j q1 q2 q3 q4 => by rw [sI_ne (by omega), a3.at (by omega)]
    obtain ⟨h4, b1, b2, b3, b4, b5, b6, b7, b8⟩ := ref_go P1 (k2.chg (fun j => cG _ _ _ (by omega) (by omega) (by omega) (by omega))) k3 (k4.M k3 (fun m hm => (X1.2 m hm).2)) G
    obtain ⟨v, h5, d1, d2, d3, d4, d5, d6⟩ := s_canBeTaken S Z w k3.2.2.1 It b4 b3 hx.1 hx.2 hy.1 hy.2
    have X3 : KX nm D h4 h5 := KX.of P (cKY_W d6)
    have fin : INV B h5 := INV.mk2 P C T Q (Int.le_refl _) ((X1.tr (KX.m b6)).tr X3) hn (k1.chg (fun K j hK => by rw [d6.at (by unfold c44 cW; omega), mx_c b6 (by omega), cG _ _ _ (by omega) (by omega) (by omega) (by omega)])) d4 k3 (b5.M k3 (fun m hm => (X3.2 m hm).2)) (t := 0) (by rw [d6.at (by unfold c44 cW; omega), mx_c b6 (by omega), sI_eq]) (by rw [d6.at (by unfold c44 cW; omega)]; exact b7) (by decide)
    by_cases hv : x ≤ lfo D c y
    · have hv1 : v = 1 := d2.mpr hv
      subst hv1
      refine ⟨1, _, h5, wp_FR_canTake ⟨_, h, s_isNeedF x1 x2, fun hc => absurd hc (nz1 hx), fun _ => ⟨_, h, s_isDueF y1 y2 k1.1 kb.1 (by omega), fun hc => absurd hc (nz1 hy), fun _ => ⟨0, h, R.2, fun _ => ⟨h3, a1, _, h3, lf, fun hc => ?_, fun _ => ⟨_, _, wp_FR_answered rfl, rfl⟩⟩, fun hc => absurd rfl hc⟩⟩⟩, wp_M_canTake ⟨_, s_an, 0, h4, b1, fun _ => ⟨_, h4, s_isNeedM x1 x2, fun hc => absurd hc (nz1 hx), fun _ => ⟨_, h4, s_isDueM y1 y2 b3.1 kb.1 (by omega), fun hc => absurd hc (nz1 hy), fun _ => ⟨_, h5, d3, fun hc => absurd hc (by decide), fun _ => rfl⟩⟩⟩, fun hc => absurd rfl hc⟩, fin⟩
      rw [zI_lt (by omega) (by omega) (by omega) (by omega)] at hc; omega
    · have hv1 : v = 0 := by
        rcases d1 with e | e
        · exact e
        · exact absurd (d2.mp e) hv
      subst hv1
      refine ⟨0, _, h5, wp_FR_canTake ⟨_, h, s_isNeedF x1 x2, fun hc => absurd hc (nz1 hx), fun _ => ⟨_, h, s_isDueF y1 y2 k1.1 kb.1 (by omega), fun hc => absurd hc (nz1 hy), fun _ => ⟨0, h, R.2, fun _ => ⟨h3, a1, _, h3, lf, fun _ => ⟨_, _, wp_FR_answered rfl, rfl⟩, fun hc => ?_⟩, fun hc => absurd rfl hc⟩⟩⟩, wp_M_canTake ⟨_, s_an, 0, h4, b1, fun _ => ⟨_, h4, s_isNeedM x1 x2, fun hc => absurd hc (nz1 hx), fun _ => ⟨_, h4, s_isDueM y1 y2 b3.1 kb.1 (by omega), fun hc => absurd hc (nz1 hy), fun _ => ⟨_, h5, d3, fun _ => rfl, fun hc => absurd rfl hc⟩⟩⟩, fun hc => absurd rfl hc⟩, fin⟩
      rw [zI_lt (by omega) (by omega) (by omega) (by omega)] at hc; omega
/-! ===== one more, in the class ===== -/
def cAd : Nat → Nat → Nat → Prop := fun K i j => (K = 10 ∨ K = 11 ∨ (K = 0 ∧ j = 3)) ∧ i = 0
theorem s_add_12 (w9 : k_wn c ≤ 7) (wd : ∀ i, i < k_wn c → -2147483648 ≤ k_du c i ∧ k_du c i ≤ 2147483647) (so : ∀ i, i + 1 < k_wn c → k_du c i ≤ k_du c (i + 1)) {X due : Int} (d1 : -2147483648 ≤ due) (d2 : due ≤ 2147483647) : ∀ (n : Nat) (h : jm_H), n ≤ k_wn c → h.1 0 0 3 = zI (k_wn c) → (∀ i, i < n → h.1 10 0 i = zI (k_ne c i) ∧ h.1 11 0 i = zI (k_du c i)) → (∀ i, n < i → i ≤ k_wn c → h.1 10 0 i = zI (k_ne c (i - 1)) ∧ h.1 11 0 i = zI (k_du c (i - 1))) → (∀ i, n ≤ i → i < k_wn c → due < k_du c i) → ∃ p h', isPl c due p ∧ l_Clock_add_12 0 (zI X) (zI due) (zI n) (zI n) h (some (jm_i (zI p)), h') ∧ h'.1 0 0 3 = zI ((k_wn c + 1 : Nat) : Int) ∧ (∀ i, i < k_wn c + 1 → h'.1 10 0 i = zI (ins (k_ne c) p X i) ∧ h'.1 11 0 i = zI (ins (k_du c) p due i)) ∧ Ch cAd h h' := by
  have fin : ∀ (n : Nat) (h : jm_H), n ≤ k_wn c → h.1 0 0 3 = zI (k_wn c) → (∀ i, i < n → h.1 10 0 i = zI (k_ne c i) ∧ h.1 11 0 i = zI (k_du c i)) → (∀ i, n < i → i ≤ k_wn c → h.1 10 0 i = zI (k_ne c (i - 1)) ∧ h.1 11 0 i = zI (k_du c (i - 1))) → ∃ h', (jm_in (zI (n : Int)) 8 ∧ jm_in (zI (n : Int)) 8 ∧ ((some (jm_i (zI (n : Int))), h') : jm_Rs) = (some (jm_i (zI (n : Int))), (jm_sI (jm_sI (jm_sI h 10 0 (zI (n : Int)).toNatClampNeg (zI X)) 11 0 (zI (n : Int)).toNatClampNeg (zI due)) 0 0 3 ((h.1 0 0 3) + 1)))) ∧ h'.1 0 0 3 = zI ((k_wn c + 1 : Nat) : Int) ∧ (∀ i, i < k_wn c + 1 → h'.1 10 0 i = zI (ins (k_ne c) n X i) ∧ h'.1 11 0 i = zI (ins (k_du c) n due i)) ∧ Ch cAd h h' := by
    intro n h hn h3 Z1 Z2
    rw [zI_cn (by omega)]
    refine ⟨_, ⟨zI_in (by omega) (by omega) (by omega), zI_in (by omega) (by omega) (by omega), rfl⟩, ?_, fun i hi => ?_, ((Ch.sI (by unfold cAd; omega)).tr (Ch.sI (by unfold cAd; omega))).tr (Ch.sI (by unfold cAd; omega))⟩
    · rw [sI_eq, h3, e_p1]
    · unfold ins
      by_cases h1 : i < n
      · rw [if_pos h1, if_pos h1, sI_ne (by omega), sI_ne (by omega), sI_ne (by omega), sI_ne (by omega), sI_ne (by omega), sI_ne (by omega)]
        exact Z1 i h1
      · by_cases h2 : i = n
        · subst h2
          rw [if_neg h1, if_neg h1, if_pos rfl, if_pos rfl, sI_ne (by omega), sI_ne (by omega), sI_eq, sI_ne (by omega), sI_eq]
          exact ⟨rfl, rfl⟩
        · rw [if_neg h1, if_neg h1, if_neg h2, if_neg h2, sI_ne (by omega), sI_ne (by omega), sI_ne (by omega), sI_ne (by omega), sI_ne (by omega), sI_ne (by omega)]
          exact Z2 i (by omega) (by omega)
  intro n
  induction n with
  | zero =>
    intro h hn h3 Z1 Z2 Z3
    obtain ⟨h', a1, a2, a3, a4⟩ := fin 0 h hn h3 Z1 Z2
    exact ⟨0, h', ⟨by omega, fun i hi => by omega, Z3⟩, wp_Clock_add_12 ⟨fun _ => a1, fun hc => absurd (by decide) hc⟩, a2, a3, a4⟩
  | succ n ih =>
    intro h hn h3 Z1 Z2 Z3
    have hd := wd n (by omega)
    have z1 := Z1 n (by omega)
    have e1 := e_m1 n
    have pos : ¬ (zI ((n + 1 : Nat) : Int) ≤ 0) := by rw [zl_0, zI_le (by omega) (by omega) (by omega) (by omega)]; omega
    by_cases hc : k_du c n ≤ due
    · obtain ⟨h', a1, a2, a3, a4⟩ := fin (n + 1) h hn h3 Z1 Z2
      refine ⟨n + 1, h', ⟨hn, fun i hi => ?_, Z3⟩, wp_Clock_add_12 ⟨fun hx => absurd hx pos, fun _ => ⟨by rw [e1]; exact zI_in (by omega) (by omega) (by omega), fun _ => a1, fun hx => ?_⟩⟩, a2, a3, a4⟩
      · have key : ∀ j : Nat, n - j < n + 1 → k_du c (n - j) ≤ k_du c n := by
          intro j
          induction j with
          | zero => intro _; exact Int.le_refl _
          | succ j ihj =>
            intro _
            have h1 := ihj (by omega)
            by_cases e : n ≤ j
            · rw [show n - (j + 1) = n - j by omega]; exact h1
            · have := so (n - (j + 1)) (by omega)
              rw [show n - (j + 1) + 1 = n - j by omega] at this
              omega
        have := key (n - i) (by omega)
        rw [show n - (n - i) = i by omega] at this
        omega
      · rw [e1, zI_cn (by omega), z1.2, zI_le (by omega) (by omega) (by omega) (by omega)] at hx; omega
    · obtain ⟨g, eg⟩ : ∃ g, g = jm_sI (jm_sI h 10 0 (n + 1) (zI (k_ne c n))) 11 0 (n + 1) (zI (k_du c n)) := ⟨_, rfl⟩
      have cg : Ch cAd h g := by
        rw [eg]
        exact (Ch.sI (by unfold cAd; omega)).tr (Ch.sI (by unfold cAd; omega))
      obtain ⟨p, h', a1, a2, a3, a4, a5⟩ := ih g (by omega) (by rw [eg, sI_ne (by omega), sI_ne (by omega)]; exact h3) (fun i hi => by
          rw [eg, sI_ne (by omega), sI_ne (by omega), sI_ne (by omega), sI_ne (by omega)]; exact Z1 i (by omega)) (fun i h1 h2 => by
          by_cases e : i = n + 1
          · subst e
            rw [eg, sI_ne (by omega), sI_eq, sI_eq, show n + 1 - 1 = n by omega]; exact ⟨rfl, rfl⟩
          · rw [eg, sI_ne (by omega), sI_ne (by omega), sI_ne (by omega), sI_ne (by omega)]; exact Z2 i (by omega) h2) (fun i h1 h2 => by
          by_cases e : i = n
          · subst e; omega
          · exact Z3 i (by omega) h2)
      refine ⟨p, h', a1, wp_Clock_add_12 ⟨fun hx => absurd hx pos, fun _ => ⟨by rw [e1]; exact zI_in (by omega) (by omega) (by omega), fun hx => ?_, fun _ => ⟨by rw [e1]; exact zI_in (by omega) (by omega) (by omega), zI_in (by omega) (by omega) (by omega), by rw [e1]; exact zI_in (by omega) (by omega) (by omega), zI_in (by omega) (by omega) (by omega), ?_⟩⟩⟩, a3, a4, cg.tr a5⟩
      · rw [e1, zI_cn (by omega), z1.2, zI_le (by omega) (by omega) (by omega) (by omega)] at hx; omega
      · rw [e1, zI_cn (by omega), zI_cn (by omega), z1.1, z1.2, e_a1, ← eg]; exact a2
theorem s_add (k : KF h 0 c) (w9 : k_wn c ≤ 7) (wd : ∀ i, i < k_wn c → -2147483648 ≤ k_du c i ∧ k_du c i ≤ 2147483647) (so : ∀ i, i + 1 < k_wn c → k_du c i ≤ k_du c (i + 1)) {X due : Int} (d1 : -2147483648 ≤ due) (d2 : due ≤ 2147483647) : ∃ p h', isPl c due p ∧ m_Clock_add 0 (zI X) (zI due) h (zI p) h' ∧ KF h' 0 (putW c p X due) ∧ Ch cAd h h' := by
  obtain ⟨k0, k1, k2, k3, k4, k5, k6, k7, k8', k9, k10⟩ := k
  obtain ⟨p, h', a1, a2, a3, a4, a5⟩ := s_add_12 (c := c) (X := X) w9 wd so d1 d2 (k_wn c) h (Nat.le_refl _) k3 (fun i hi => k10 i hi) (fun i h1 h2 => by omega) (fun i h1 h2 => by omega)
  have e0 : ∀ j, j ≠ 3 → h'.1 0 0 j = h.1 0 0 j := fun j hj => a5.at (by unfold cAd; omega)
  refine ⟨p, h', a1, wp_Clock_add ⟨fun _ => by rw [k3]; exact a2, fun hc => ?_⟩, ⟨?_, ?_, ?_, a3, ?_, ?_, ?_, ?_, ?_, ?_, a4⟩, a5⟩
  · rw [k3, zl_8, zI_lt (by omega) (by omega) (by omega) (by omega)] at hc; omega
  · rw [e0 _ (by omega)]; exact k0
  · rw [e0 _ (by omega)]; exact k1
  · rw [e0 _ (by omega)]; exact k2
  · rw [e0 _ (by omega)]; exact k4
  · rw [e0 _ (by omega)]; exact k5
  · rw [e0 _ (by omega)]; exact k6
  · rw [e0 _ (by omega)]; exact k7
  · rw [e0 _ (by omega)]; exact k8'
  · rw [e0 _ (by omega)]; exact k9
theorem KM.put {h' : jm_H} {p : Nat} {X due : Int} (k : KM h 56 c) (v : KV h' (putW c p X due)) (e : Ch cW h h') : KM h' 56 (putW c p X due) := by
  obtain ⟨k0, k1, k2, k3, k4, k5, k6, k7, k8', k9, k10⟩ := k
  have e0 : ∀ j, j < 10 → j ≠ 3 → h'.1 56 0 j = h.1 56 0 j := fun j x1 x2 => e.at (by unfold cW; omega)
  refine ⟨?_, ?_, ?_, v.1, ?_, ?_, ?_, ?_, ?_, ?_, v.2⟩
  · rw [e0 _ (by omega) (by omega)]; exact k0
  · rw [e0 _ (by omega) (by omega)]; exact k1
  · rw [e0 _ (by omega) (by omega)]; exact k2
  · rw [e0 _ (by omega) (by omega)]; exact k4
  · rw [e0 _ (by omega) (by omega)]; exact k5
  · rw [e0 _ (by omega) (by omega)]; exact k6
  · rw [e0 _ (by omega) (by omega)]; exact k7
  · rw [e0 _ (by omega) (by omega)]; exact k8'
  · rw [e0 _ (by omega) (by omega)]; exact k9
theorem c_take (hB : B ≤ 1000000000) (I : INV B h) (a b : Int32) : ∃ v h1 h2, m_FR_take a b h v h1 ∧ m_M_take a b h1 v h2 ∧ INV B h2 := by
  obtain ⟨nm, D, P, C, T, Q⟩ := I
  obtain ⟨x, rfl, x1, x2⟩ := i32x a
  obtain ⟨y, rfl, y1, y2⟩ := i32x b
  rcases take_no hB P C T Q x1 x2 y1 y2 with r | ⟨hn, c, k1, k2, k3, k4, G, hx, hy⟩
  · exact r
  · obtain ⟨S, w, It⟩ := sw_of P k3 G hB
    have Z := P.tId
    have kb := ckB k3
    have w8 := k3.2.2.1
    have R := s_clR P k1 k3.2.1 G
    have k13 := k1.2.2.2.1
    by_cases h8 : k_wn c = 8
    · -- no room
      have X1 : KX nm D h (jm_sI h 7 0 8 3) := KX.of P (cKY_F (Ch.sI (by unfold cFX; omega)))
      have P1 := P.k X1
      obtain ⟨h4, b1, b2, b3, b4, b5, b6, b7, b8⟩ := ref_go P1 (k2.chg (fun j => sI_ne (by omega))) k3 (k4.M k3 (fun m hm => (X1.2 m hm).2)) G
      have E := EM.no P1 3 b6
      refine ⟨_, _, jm_sI h4 8 0 1 3, wp_FR_take ⟨_, h, s_isNeedF x1 x2, fun hc => absurd hc (nz1 hx), fun _ => ⟨_, h, s_isDueF y1 y2 k1.1 kb.1 (by omega), fun hc => absurd hc (nz1 hy), fun _ => ⟨0, h, R.2, fun _ => ⟨fun hc => ?_, fun _ => ⟨_, _, wp_FR_refused rfl, rfl⟩⟩, fun hc => absurd rfl hc⟩⟩⟩, wp_M_take ⟨_, s_an, 0, h4, b1, fun _ => ⟨_, h4, s_isNeedM x1 x2, fun hc => absurd hc (nz1 hx), fun _ => ⟨_, h4, s_isDueM y1 y2 b3.1 kb.1 (by omega), fun hc => absurd hc (nz1 hy), fun _ => ⟨fun _ => ⟨_, _, wp_M_no rfl, rfl⟩, fun hc => ?_⟩⟩⟩, fun hc => absurd rfl hc⟩, INV.mk2 P C T Q (Int.le_refl _) (X1.tr (KX.m E.1)) hn (k1.chg (fun K j hK => by rw [mx_c E.1 (by omega), sI_ne (by omega)])) (k2.chg (fun j => by rw [E.1.1.at (by unfold cMX cMs; omega), sI_ne (by omega)])) k3 (k4.M k3 (fun m hm t => (E.1.2 m hm).2 ((X1.2 m hm).2 t))) (t := 3) (by rw [mx_c E.1 (by omega), sI_eq]) E.2 (by decide)⟩
      · rw [k13, zl_8, zI_lt (by omega) (by omega) (by omega) (by omega)] at hc; omega
      · rw [b3.2.2.2.1, h8] at hc; exact absurd rfl hc
    · obtain ⟨h3, a1, a2, a3⟩ := s_survey P S Z k1
      have lf := s_leftFor S Z w w8 (sv_k k1 a3).kw a2 hy.1 hy.2
      have lb := lfo_b S Z w hy.1 hy.2
      have hl8 : h.1 0 0 3 < 8 := by rw [k13, zl_8, zI_lt (by omega) (by omega) (by omega) (by omega)]; omega
      by_cases hv : x ≤ lfo D c y
      · obtain ⟨p, h5, p1, p2, p3, p4⟩ := s_add (X := x) (due := y) (sv_k k1 a3) (by omega) (fun i hi => by have := w.2.1 i hi; omega) w.2.2 (by omega) (by omega)
        have X0 : KX nm D h (jm_sI h5 7 0 8 0) := KX.of P (((cKY_F (svX a3)).tr (p4.mono (fun K i j q => by unfold cAd at q; unfold cKY; omega))).tr (Ch.sI (by unfold cKY cFX; omega)))
        have cG : ∀ K i j, K ≠ 5 → K ≠ 30 → K ≠ 31 → K ≠ 7 → K ≠ 0 → K ≠ 10 → K ≠ 11 → (jm_sI h5 7 0 8 0).1 K i j = h.1 K i j := fun K i j q1 q2 q3 q4 q5 q6 q7 => by rw [sI_ne (by omega), p4.at (by unfold cAd; omega), a3.at (by omega)]
        have P1 := P.k X0
        obtain ⟨h6, b1, b2, b3, b4, b5, b6, b7, b8⟩ := ref_go P1 (k2.chg (fun j => cG _ _ _ (by omega) (by omega) (by omega) (by omega) (by omega) (by omega) (by omega))) k3 (k4.M k3 (fun m hm => (X0.2 m hm).2)) G
        obtain ⟨v, h7, d1, d2, d3, d4, d5, d6⟩ := s_canBeTaken S Z w w8 It b4 b3 hx.1 hx.2 hy.1 hy.2
        have hv1 : v = 1 := d2.mpr hv
        subst hv1
        obtain ⟨p', h8', e1, e2, e3, e4⟩ := s_puts (c := c) (X := x) (due := y) w8 (fun i hi => by have := w.2.1 i hi; omega) w.2.2 (by omega) (by omega) d4.kv
        have ep : p' = p := e1.uq p1
        subst ep
        have X3 : KX nm D h6 h8' := KX.of P ((cKY_W d6).tr (cKY_W (e4.mono (fun K i j q => Or.inr q))))
        have w' := putW_w w w8 p1 hx.1 hx.2 hy.1 hy.2
        have I' := (take_iff S Z w It p1 hy.1 hy.2).mp hv
        have ok : ckOk nm D B (putW c p' x y) := by
          obtain ⟨q1, q2, q3, q4, q5, q6, q7, q8, q9, q10⟩ := k3
          refine ⟨q1, q2, ?_, q4, q5, q6, fun _ => G, w'.2.1, w'.2.2, fun i hi => ?_⟩
          · show k_wn c + 1 ≤ 8; omega
          · obtain ⟨n, n1, n2, n3⟩ := I' i hi
            exact ⟨n, n1, n2, by omega⟩
        have L' : ckL h8' D (putW c p' x y) := ⟨fun _ => (X3.2 _ k3.2.1).2 b8, fun q => (b5.M k3 (fun m hm => (X3.2 m hm).2)).2 q⟩
        refine ⟨_, _, h8', wp_FR_take ⟨_, h, s_isNeedF x1 x2, fun hc => absurd hc (nz1 hx), fun _ => ⟨_, h, s_isDueF y1 y2 k1.1 kb.1 (by omega), fun hc => absurd hc (nz1 hy), fun _ => ⟨0, h, R.2, fun _ => ⟨fun _ => ⟨h3, a1, _, h3, lf, fun _ => ⟨_, h5, p2, _, _, wp_FR_answered rfl, rfl⟩, fun hc => ?_⟩, fun hc => absurd hl8 hc⟩, fun hc => absurd rfl hc⟩⟩⟩, wp_M_take ⟨_, s_an, 0, h6, b1, fun _ => ⟨_, h6, s_isNeedM x1 x2, fun hc => absurd hc (nz1 hx), fun _ => ⟨_, h6, s_isDueM y1 y2 b3.1 kb.1 (by omega), fun hc => absurd hc (nz1 hy), fun _ => ⟨fun hc => ?_, fun _ => ⟨_, h7, d3, fun hc => absurd hc (by decide), fun _ => ⟨_, h8', e2, rfl⟩⟩⟩⟩⟩, fun hc => absurd rfl hc⟩, INV.mk2 P C T Q (Int.le_refl _) ((X0.tr (KX.m b6)).tr X3) hn (p3.chg (fun K j hK => by rw [e4.at (by unfold cW; omega), d6.at (by unfold c44 cW; omega), mx_c b6 (by omega), sI_ne (by omega)])) (d4.put e3 e4) ok L' (t := 0) (by rw [e4.at (by unfold cW; omega), d6.at (by unfold c44 cW; omega), mx_c b6 (by omega), sI_eq]) (by rw [e4.at (by unfold cW; omega), d6.at (by unfold c44 cW; omega)]; exact b7) (by decide)⟩
        · rw [zI_le (by omega) (by omega) (by omega) (by omega)] at hc; omega
        · rw [b3.2.2.2.1, zl_8, zI_eq (by omega) (by omega) (by omega) (by omega)] at hc; omega
      · have X1 := go_c P a3 5
        have P1 := P.k X1
        have cG : ∀ K i j, K ≠ 5 → K ≠ 30 → K ≠ 31 → K ≠ 7 → (jm_sI h3 7 0 8 5).1 K i j = h.1 K i j := fun K i j q1 q2 q3 q4 => by rw [sI_ne (by omega), a3.at (by omega)]
        obtain ⟨h4, b1, b2, b3, b4, b5, b6, b7, b8⟩ := ref_go P1 (k2.chg (fun j => cG _ _ _ (by omega) (by omega) (by omega) (by omega))) k3 (k4.M k3 (fun m hm => (X1.2 m hm).2)) G
        obtain ⟨v, h5, d1, d2, d3, d4, d5, d6⟩ := s_canBeTaken S Z w w8 It b4 b3 hx.1 hx.2 hy.1 hy.2
        have hv1 : v = 0 := by
          rcases d1 with e | e
          · exact e
          · exact absurd (d2.mp e) hv
        subst hv1
        have X3 : KX nm D h4 (jm_sI h5 8 0 1 5) := KX.of P ((cKY_W d6).tr (Ch.sI (by unfold cKY cM2; omega)))
        refine ⟨_, _, jm_sI h5 8 0 1 5, wp_FR_take ⟨_, h, s_isNeedF x1 x2, fun hc => absurd hc (nz1 hx), fun _ => ⟨_, h, s_isDueF y1 y2 k1.1 kb.1 (by omega), fun hc => absurd hc (nz1 hy), fun _ => ⟨0, h, R.2, fun _ => ⟨fun _ => ⟨h3, a1, _, h3, lf, fun hc => ?_, fun _ => ⟨_, _, wp_FR_refused rfl, rfl⟩⟩, fun hc => absurd hl8 hc⟩, fun hc => absurd rfl hc⟩⟩⟩, wp_M_take ⟨_, s_an, 0, h4, b1, fun _ => ⟨_, h4, s_isNeedM x1 x2, fun hc => absurd hc (nz1 hx), fun _ => ⟨_, h4, s_isDueM y1 y2 b3.1 kb.1 (by omega), fun hc => absurd hc (nz1 hy), fun _ => ⟨fun hc => ?_, fun _ => ⟨_, h5, d3, fun _ => ⟨_, _, wp_M_no rfl, rfl⟩, fun hc => absurd rfl hc⟩⟩⟩⟩, fun hc => absurd rfl hc⟩, INV.mk2 P C T Q (Int.le_refl _) ((X1.tr (KX.m b6)).tr X3) hn (k1.chg (fun K j hK => by rw [sI_ne (by omega), d6.at (by unfold c44 cW; omega), mx_c b6 (by omega), cG _ _ _ (by omega) (by omega) (by omega) (by omega)])) (d4.chg (fun j => sI_ne (by omega))) k3 (b5.M k3 (fun m hm => (X3.2 m hm).2)) (t := 5) (by rw [sI_ne (by omega), d6.at (by unfold c44 cW; omega), mx_c b6 (by omega), sI_eq]) sI_eq (by decide)⟩
        · rw [zI_le (by omega) (by omega) (by omega) (by omega)] at hc; omega
        · rw [b3.2.2.2.1, zl_8, zI_eq (by omega) (by omega) (by omega) (by omega)] at hc; omega
end TAKES
