/-! ===== feed ===== -/
theorem tb_255 : ∀ i, i < 32 → tb 255 i = decide (i < 8) := by decide +kernel
theorem tb_sx (y : Int32) {i : Nat} (hi : i < 8) : tb (y.toInt8.toInt32) i = tb y i := by
  unfold tb
  rw [Int8.toBitVec_toInt32, Int32.toBitVec_toInt8, BitVec.getLsbD_signExtend, BitVec.getLsbD_signExtend]
  simp [hi, show i < 32 by omega]
theorem tb_us : ∀ n, n < 32 → (((zI (n : Nat)).toUInt32 &&& Int32.toUInt32 31).toBitVec % 32).toNat = n := by decide +kernel
theorem tb_ush (x : Int32) {n : Nat} (hn : n < 32) (i : Nat) : tb ((x.toUInt32 >>> ((zI (n : Int)).toUInt32 &&& Int32.toUInt32 31)).toInt32) i = tb x (n + i) := by
  unfold tb
  rw [UInt32.toBitVec_toInt32, UInt32.toBitVec_shiftRight]
  show (x.toBitVec >>> (((zI (n : Int)).toUInt32 &&& Int32.toUInt32 31).toBitVec % 32).toNat).getLsbD i = _
  rw [tb_us n hn, BitVec.getLsbD_ushiftRight]
theorem tb_ssh (x : Int32) {n : Nat} (hn : n < 32) {i : Nat} (hi : n + i < 32) : tb (x >>> (zI (n : Int) &&& 31)) i = tb x (n + i) := by
  unfold tb
  rw [Int32.toBitVec_shiftRight]
  show (x.toBitVec.sshiftRight ((zI (n : Int) &&& 31).toBitVec.smod 32).toNat).getLsbD i = _
  rw [tb_s n hn, BitVec.getLsbD_sshiftRight]
  simp [show i < 32 by omega, hi]
theorem by_eq (x : Int32) {n : Nat} (hn : n ≤ 24) : ((((x.toUInt32 >>> ((zI (n : Int)).toUInt32 &&& Int32.toUInt32 31)).toInt32).toInt8.toInt32).toInt8.toInt32) &&& 255 = (x >>> (zI (n : Int) &&& 31)) &&& 255 := by
  refine tb_ext (fun i hi => ?_)
  rw [tb_and, tb_and, tb_255 i hi]
  by_cases h8 : i < 8
  · rw [tb_sx _ h8, tb_sx _ h8, tb_ush x (by omega), tb_ssh x (by omega) (by omega)]
  · rw [decide_eq_false h8, Bool.and_false, Bool.and_false]
theorem by_b (y : Int32) : ∃ x : Int, 0 ≤ x ∧ x ≤ 255 ∧ y &&& 255 = zI x := by
  refine ⟨(y &&& 255).toInt, ?_, ?_, (zI_of _).symm⟩
  · have e : (y &&& 255).toInt = ((y.toBitVec &&& (255 : Int32).toBitVec)).toInt := by
      rw [← Int32.toBitVec_and]; rfl
    have m : (y.toBitVec &&& (255 : Int32).toBitVec).msb = false := by
      rw [BitVec.msb_and]
      have : (255 : Int32).toBitVec.msb = false := by decide
      rw [this, Bool.and_false]
    rw [e, BitVec.toInt_eq_toNat_of_msb m]; omega
  · have e : (y &&& 255).toInt = ((y.toBitVec &&& (255 : Int32).toBitVec)).toInt := by
      rw [← Int32.toBitVec_and]; rfl
    have m : (y.toBitVec &&& (255 : Int32).toBitVec).msb = false := by
      rw [BitVec.msb_and]
      have : (255 : Int32).toBitVec.msb = false := by decide
      rw [this, Bool.and_false]
    rw [e, BitVec.toInt_eq_toNat_of_msb m, BitVec.toNat_and]
    have h1 : y.toBitVec.toNat &&& (255 : Int32).toBitVec.toNat ≤ (255 : Int32).toBitVec.toNat := Nat.and_le_right
    have h2 : (255 : Int32).toBitVec.toNat = 255 := by decide
    omega
def TPn (h : jm_H) (n : Nat) : Prop := n ≤ 700 ∧ h.1 4 0 1 = zI n ∧ ∀ i, i < n → h.1 29 0 i &&& 255 = h.1 33 0 i ∧ ∃ x : Int, 0 ≤ x ∧ x ≤ 255 ∧ h.1 33 0 i = zI x
def cAp : Nat → Nat → Nat → Prop := fun K _ j => K = 29 ∨ (K = 4 ∧ j = 1)
def cLw : Nat → Nat → Nat → Prop := fun K _ j => K = 33 ∨ (K = 8 ∧ j = 5)
/-- a byte, as the class puts it -/
def byF (x : Int32) (k : Nat) : Int32 := (((x.toUInt32 >>> ((zI ((24 - 8 * k : Nat) : Int)).toUInt32 &&& Int32.toUInt32 31)).toInt32).toInt8.toInt32).toInt8.toInt32
def byM (x : Int32) (k : Nat) : Int32 := (x >>> (zI ((24 - 8 * k : Nat) : Int) &&& 31)) &&& 255
theorem s_app_2 {x : Int32} : ∀ (e k n : Nat) (h : jm_H), k + e = 4 → n + 4 - k ≤ 700 → k ≤ n → h.1 4 0 1 = zI n → ∃ h', l_Reader_append_2 x (zI (24 - 8 * (k : Int))) h (none, h') ∧ h'.1 4 0 1 = zI ((n + 4 - k : Nat) : Int) ∧ (∀ i, k ≤ i → i < 4 → h'.1 29 0 (n - k + i) = byF x i) ∧ (∀ j, j < n → h'.1 29 0 j = h.1 29 0 j) ∧ Ch cAp h h' := by
  intro e
  induction e with
  | zero =>
    intro k n h ek hn hk hb
    have k4 : k = 4 := by omega
    subst k4
    refine ⟨h, wp_Reader_append_2 ⟨fun _ => rfl, fun hc => ?_⟩, by rw [show n + 4 - 4 = n by omega]; exact hb, fun i h1 h2 => by omega, fun j hj => rfl, Ch.rf h⟩
    exact absurd (by decide) hc
  | succ e ih =>
    intro k n h ek hn hk hb
    obtain ⟨g, eg⟩ : ∃ g, g = jm_sI (jm_sI h 29 0 n (byF x k)) 4 0 1 (zI ((n + 1 : Nat) : Int)) := ⟨_, rfl⟩
    have cg : Ch cAp h g := by
      rw [eg]
      exact (Ch.sI (by unfold cAp; omega)).tr (Ch.sI (by unfold cAp; omega))
    obtain ⟨h', r1, r2, r3, r4, r5⟩ := ih (k + 1) (n + 1) g (by omega) (by omega) (by omega) (by rw [eg, sI_eq])
    have e8 : zI (24 - 8 * (k : Int)) + (-8) = zI (24 - 8 * ((k + 1 : Nat) : Int)) := by
      rw [show (-8 : Int32) = zI (-8) from rfl, zI_add]; congr 1; omega
    have es : zI (24 - 8 * (k : Int)) = zI ((24 - 8 * k : Nat) : Int) := by congr 1; omega
    refine ⟨h', wp_Reader_append_2 ⟨fun hc => ?_, fun _ => ⟨fun hc => ?_, fun _ => ⟨by rw [hb]; exact zI_in (by omega) (by omega) (by omega), ?_⟩⟩⟩, by rw [r2]; congr 2; omega, fun i h1 h2 => ?_, fun j hj => ?_, cg.tr r5⟩
    · rw [zl_0, zI_lt (by omega) (by omega) (by omega) (by omega)] at hc; omega
    · rw [hb, zl_700, zI_le (by omega) (by omega) (by omega) (by omega)] at hc; omega
    · rw [e8, es, hb, zI_cn (by omega), e_p1]
      have : jm_sI (jm_sI h 29 0 n ((((x.toUInt32 >>> ((zI ((24 - 8 * k : Nat) : Int)).toUInt32 &&& Int32.toUInt32 31)).toInt32).toInt8.toInt32).toInt8.toInt32)) 4 0 1 (zI ((n + 1 : Nat) : Int)) = g := by rw [eg]; rfl
      rw [this]; exact r1
    · by_cases ei : i = k
      · rw [ei, show n - k + k = n by omega, r4 n (by omega), eg, sI_ne (by omega), sI_eq]
      · have := r3 i (by omega) h2
        rw [show n + 1 - (k + 1) + i = n - k + i by omega] at this; exact this
    · rw [r4 j (by omega), eg, sI_ne (by omega), sI_ne (by omega)]
theorem s_app {x : Int32} {n : Nat} {h : jm_H} (hn : n + 4 ≤ 700) (hb : h.1 4 0 1 = zI n) : ∃ h', m_Reader_append x h h' ∧ h'.1 4 0 1 = zI ((n + 4 : Nat) : Int) ∧ (∀ i, i < 4 → h'.1 29 0 (n + i) = byF x i) ∧ (∀ j, j < n → h'.1 29 0 j = h.1 29 0 j) ∧ Ch cAp h h' := by
  obtain ⟨h', r1, r2, r3, r4, r5⟩ := s_app_2 (x := x) 4 0 n h (by omega) (by omega) (by omega) hb
  exact ⟨h', wp_Reader_append r1, r2, fun i hi => r3 i (by omega) hi, r4, r5⟩
theorem s_lw_2 {x : Int32} {n : Nat} (hn : n + 4 ≤ 700) : ∀ (e k : Nat) (h : jm_H), k + e = 4 → h.1 8 0 5 = zI n → ∃ h', l_M_laysWord_2 x (zI k) h (none, h') ∧ h'.1 8 0 5 = zI ((n + 4 : Nat) : Int) ∧ (∀ i, k ≤ i → i < 4 → h'.1 33 0 (n + i) = byM x i) ∧ (∀ j, j < n + k → h'.1 33 0 j = h.1 33 0 j) ∧ Ch cLw h h' := by
  intro e
  induction e with
  | zero =>
    intro k h ek hb
    have k4 : k = 4 := by omega
    subst k4
    refine ⟨jm_sI h 8 0 5 (zI ((n + 4 : Nat) : Int)), wp_M_laysWord_2 ⟨fun _ => ?_, fun hc => absurd (by decide) hc⟩, sI_eq, fun i h1 h2 => by omega, fun j hj => sI_ne (by omega), Ch.sI (by unfold cLw; omega)⟩
    rw [hb, zl_4, zI_add]; rfl
  | succ e ih =>
    intro k h ek hb
    obtain ⟨g, eg⟩ : ∃ g, g = jm_sI h 33 0 (n + k) (byM x k) := ⟨_, rfl⟩
    have cg : Ch cLw h g := by rw [eg]; exact Ch.sI (by unfold cLw; omega)
    obtain ⟨h', r1, r2, r3, r4, r5⟩ := ih (k + 1) g (by omega) (by rw [eg, sI_ne (by omega)]; exact hb)
    have en : (h.1 8 0 5) + zI (k : Int) = zI ((n + k : Nat) : Int) := by rw [hb, zI_add]; rfl
    have es : (24 : Int32) - (8 * zI (k : Int)) = zI ((24 - 8 * k : Nat) : Int) := by rw [zl_24, zl_8, zI_mul, zI_sub]; congr 1; omega
    refine ⟨h', wp_M_laysWord_2 ⟨fun hc => ?_, fun _ => ⟨by rw [en]; exact zI_in (by omega) (by omega) (by omega), ?_⟩⟩, r2, fun i h1 h2 => ?_, fun j hj => ?_, cg.tr r5⟩
    · rw [zl_4, zI_le (by omega) (by omega) (by omega) (by omega)] at hc; omega
    · rw [en, es, zI_cn (by omega), e_p1]
      have : jm_sI h 33 0 (n + k) ((x >>> (zI ((24 - 8 * k : Nat) : Int) &&& 31)) &&& 255) = g := by rw [eg]; rfl
      rw [this]; exact r1
    · by_cases ei : i = k
      · rw [ei, r4 (n + k) (by omega), eg, sI_eq]
      · exact r3 i (by omega) h2
    · rw [r4 j (by omega), eg, sI_ne (by omega)]
theorem s_lw {x : Int32} {n : Nat} {h : jm_H} (hn : n + 4 ≤ 700) (hb : h.1 8 0 5 = zI n) : ∃ h', m_M_laysWord x h h' ∧ h'.1 8 0 5 = zI ((n + 4 : Nat) : Int) ∧ (∀ i, i < 4 → h'.1 33 0 (n + i) = byM x i) ∧ (∀ j, j < n → h'.1 33 0 j = h.1 33 0 j) ∧ Ch cLw h h' := by
  obtain ⟨h', r1, r2, r3, r4, r5⟩ := s_lw_2 (x := x) hn 4 0 h (by omega) hb
  exact ⟨h', wp_M_laysWord r1, r2, fun i hi => r3 i (by omega) hi, r4, r5⟩
theorem c_feed {B : Int} {h : jm_H} (I : INV B h) (a b c d e : Int32) : ∃ v h1 h2, m_FR_feed a b c d e h v h1 ∧ m_M_feed a b c d e h1 v h2 ∧ INV B h2 := by
  obtain ⟨nm, D, P, C, T, n, n1, n2, n3, n4⟩ := I
  by_cases hn : n ≤ 680
  · obtain ⟨f1, p1, p2, p3, p4, p5⟩ := s_app (x := a) (n := n) (h := h) (by omega) n2
    obtain ⟨f2, q1, q2, q3, q4, q5⟩ := s_app (x := b) (n := n + 4) (h := f1) (by omega) p2
    obtain ⟨f3, r1, r2, r3, r4, r5⟩ := s_app (x := c) (n := n + 4 + 4) (h := f2) (by omega) q2
    obtain ⟨f4, s1, s2, s3, s4, s5⟩ := s_app (x := d) (n := n + 4 + 4 + 4) (h := f3) (by omega) r2
    obtain ⟨f5, t1, t2, t3, t4, t5⟩ := s_app (x := e) (n := n + 4 + 4 + 4 + 4) (h := f4) (by omega) s2
    have cF : Ch cAp h f5 := (((p5.tr q5).tr r5).tr s5).tr t5
    obtain ⟨g0, eg⟩ : ∃ g0, g0 = jm_sI f5 8 0 0 0 := ⟨_, rfl⟩
    have c0 : Ch (fun K _ j => K = 8 ∧ j = 0) f5 g0 := by rw [eg]; exact Ch.sI ⟨rfl, rfl⟩
    have b0 : g0.1 8 0 5 = zI n := by rw [c0.at (by omega), cF.at (by unfold cAp; omega)]; exact n3
    obtain ⟨g1, P1, P2, P3, P4, P5⟩ := s_lw (x := a) (n := n) (h := g0) (by omega) b0
    obtain ⟨g2, Q1, Q2, Q3, Q4, Q5⟩ := s_lw (x := b) (n := n + 4) (h := g1) (by omega) P2
    obtain ⟨g3, R1, R2, R3, R4, R5⟩ := s_lw (x := c) (n := n + 4 + 4) (h := g2) (by omega) Q2
    obtain ⟨g4, S1, S2, S3, S4, S5⟩ := s_lw (x := d) (n := n + 4 + 4 + 4) (h := g3) (by omega) R2
    obtain ⟨g5, T1, T2, T3, T4, T5⟩ := s_lw (x := e) (n := n + 4 + 4 + 4 + 4) (h := g4) (by omega) S2
    have cM : Ch cLw g0 g5 := (((P5.tr Q5).tr R5).tr S5).tr T5
    have al : ∀ K i j, ¬ (cAp K i j ∨ cLw K i j ∨ (K = 8 ∧ j = 0)) → g5.1 K i j = h.1 K i j := fun K i j x => by
      rw [cM.at (fun y => x (Or.inr (Or.inl y))), c0.at (fun y => x (Or.inr (Or.inr y))), cF.at (fun y => x (Or.inl y))]
    have a2 : g5.2 = h.2 := by rw [cM.2, c0.2, cF.2]
    have cX : Ch (fun K i j => cAp K i j ∨ cLw K i j ∨ (K = 8 ∧ j = 0)) h g5 := ⟨al, a2⟩
    have x33 : ∀ j, g5.1 29 0 j = f5.1 29 0 j := fun j => by rw [cM.at (by unfold cLw; omega), c0.at (by omega)]
    have tl : ∀ m, m < nm → TL h m (D m) → TL g5 m (D m) := fun m hm t => t.chg (P.F24 hm) (fun K j hK => al K 0 j (by unfold cAp cLw; omega))
    obtain ⟨k1, k2, w, w1, w2, w3, w4⟩ := C
    -- a word's bytes
    have wd : ∀ (x : Int32) (i : Nat), i < 4 → byF x i &&& 255 = byM x i ∧ ∃ z : Int, 0 ≤ z ∧ z ≤ 255 ∧ byM x i = zI z := fun x i hi => ⟨by_eq x (by omega), by_b _⟩
    have bytes : ∀ i, i < n + 20 → g5.1 29 0 i &&& 255 = g5.1 33 0 i ∧ ∃ z : Int, 0 ≤ z ∧ z ≤ 255 ∧ g5.1 33 0 i = zI z := by
      intro i hi
      rw [x33]
      by_cases h0 : i < n
      · rw [t4 i (by omega), s4 i (by omega), r4 i (by omega), q4 i (by omega), p4 i h0, T4 i (by omega), S4 i (by omega), R4 i (by omega), Q4 i (by omega), P4 i h0, c0.at (by omega), cF.at (by unfold cAp; omega)]
        exact n4 i h0
      · by_cases h1 : i < n + 4
        · obtain ⟨u, rfl⟩ : ∃ u, i = n + u := ⟨i - n, by omega⟩
          rw [t4 _ (by omega), s4 _ (by omega), r4 _ (by omega), q4 _ (by omega), p3 u (by omega), T4 _ (by omega), S4 _ (by omega), R4 _ (by omega), Q4 _ (by omega), P3 u (by omega)]
          exact wd a u (by omega)
        · by_cases h2 : i < n + 4 + 4
          · obtain ⟨u, rfl⟩ : ∃ u, i = n + 4 + u := ⟨i - (n + 4), by omega⟩
            rw [t4 _ (by omega), s4 _ (by omega), r4 _ (by omega), q3 u (by omega), T4 _ (by omega), S4 _ (by omega), R4 _ (by omega), Q3 u (by omega)]
            exact wd b u (by omega)
          · by_cases h3 : i < n + 4 + 4 + 4
            · obtain ⟨u, rfl⟩ : ∃ u, i = n + 4 + 4 + u := ⟨i - (n + 4 + 4), by omega⟩
              rw [t4 _ (by omega), s4 _ (by omega), r3 u (by omega), T4 _ (by omega), S4 _ (by omega), R3 u (by omega)]
              exact wd c u (by omega)
            · by_cases h4 : i < n + 4 + 4 + 4 + 4
              · obtain ⟨u, rfl⟩ : ∃ u, i = n + 4 + 4 + 4 + u := ⟨i - (n + 4 + 4 + 4), by omega⟩
                rw [t4 _ (by omega), s3 u (by omega), T4 _ (by omega), S3 u (by omega)]
                exact wd d u (by omega)
              · obtain ⟨u, rfl⟩ : ∃ u, i = n + 4 + 4 + 4 + 4 + u := ⟨i - (n + 4 + 4 + 4 + 4), by omega⟩
                rw [t3 u (by omega), T3 u (by omega)]
                exact wd e u (by omega)
    refine ⟨zI ((n + 4 + 4 + 4 + 4 + 4 : Nat) : Int), f5, g5, wp_FR_feed ⟨fun _ => ⟨f1, p1, f2, q1, f3, r1, f4, s1, f5, t1, by rw [t2]⟩, fun hc => ?_⟩, wp_M_feed ⟨fun _ => ⟨g1, by rw [← eg]; exact P1, g2, Q1, g3, R1, g4, S1, g5, T1, by rw [T2]⟩, fun hc => ?_⟩, nm, D, P.ck (fun K i j hK => al K i j (by unfold cAp cLw; omega)) a2, ⟨fun x => by rw [al _ _ _ (by unfold cAp cLw; omega)]; exact k1 x, fun x => ?_, w, w1, ?_, ?_, fun x => ?_⟩, ⟨?_, ?_, fun x => ?_⟩, n + 20, by omega, ?_, ?_, bytes⟩
    · rw [n2, zl_680, zI_le (by omega) (by omega) (by omega) (by omega)] at hc; omega
    · rw [cF.at (by unfold cAp; omega), n3, zl_680, zI_le (by omega) (by omega) (by omega) (by omega)] at hc; omega
    · obtain ⟨k, q1, q2, q3, q4⟩ := k2 x
      exact ⟨k, q1.chg (fun K j hK => al _ _ _ (by unfold cAp cLw; omega)), q2.chg (fun j => al _ _ _ (by unfold cAp cLw; omega)), q3, q4.M q3 tl⟩
    · rw [al _ _ _ (by unfold cAp cLw; omega)]; exact w2
    · rw [al _ _ _ (by unfold cAp cLw; omega)]; exact w3
    · obtain ⟨x0, k, q1, q2, q3, q4⟩ := w4 x
      exact ⟨x0, k, q1.chg (fun K j hK => al _ _ _ (by unfold cAp cLw; omega)), q2.chg (fun j => al _ _ _ (by unfold cAp cLw; omega)), q3, q4.M q3 tl⟩
    · rw [al _ _ _ (by unfold cAp cLw; omega), al _ _ _ (by unfold cAp cLw; omega)]; exact T.1
    · rw [al _ _ _ (by unfold cAp cLw; omega), al _ _ _ (by unfold cAp cLw; omega)]; exact T.2.1
    · rw [al _ _ _ (by unfold cAp cLw; omega)] at x
      rw [al _ _ _ (by unfold cAp cLw; omega), al _ _ _ (by unfold cAp cLw; omega)]; exact T.2.2 x
    · rw [cM.at (by unfold cLw; omega), c0.at (by omega)]; exact t2
    · exact T2
  · have I : INV B h := ⟨nm, D, P, C, T, n, n1, n2, n3, n4⟩
    refine ⟨_, h, _, wp_FR_feed ⟨fun hc => ?_, fun _ => rfl⟩, wp_M_feed ⟨fun hc => ?_, fun _ => rfl⟩, I.mk0 (Ch.sI ⟨rfl, rfl⟩)⟩
    · rw [n2, zl_680, zI_le (by omega) (by omega) (by omega) (by omega)] at hc; omega
    · rw [n3, zl_680, zI_le (by omega) (by omega) (by omega) (by omega)] at hc; omega
