/-! ===== what frames ahead supply ===== -/
noncomputable def frs (d : MD) (f n : Nat) : Int := sm n (fun i => mSl d ((f + i) % mF d))
noncomputable def os (d : MD) (f : Nat) (t : Int) : Int := frs d f (t / md_fr d).toNat
def tId (nm : Nat) (D : Nat → MD) : Prop := ∀ m, m < nm → gdm (D m) → TId (D m)
theorem PL.tId {h : jm_H} {nm : Nat} {D : Nat → MD} (P : PL h nm D) : tId nm D := fun m hm G => (P.2.2.2.2 m hm).2.2.2.2.2 G
theorem sl_b {d : MD} (w : WFm d) (G : gdm d) (t : TId d) {k : Nat} (hk : k < mF d) : 0 ≤ mSl d k ∧ mSl d k ≤ 100 := by
  have w1 := w.1
  exact (TI_ub (gd_WN w (by omega) (by omega) G) t).2 k hk
theorem frs_s (d : MD) (f n : Nat) : frs d f (n + 1) = frs d f n + mSl d ((f + n) % mF d) := rfl
theorem frs_b {d : MD} (w : WFm d) (G : gdm d) (t : TId d) (f : Nat) : ∀ n : Nat, 0 ≤ frs d f n ∧ frs d f n ≤ 100 * n := by
  intro n
  have hF := (mF_b w).2 G
  induction n with
  | zero => exact ⟨Int.le_refl _, Int.le_refl _⟩
  | succ n ih =>
    have := sl_b w G t (Nat.mod_lt (f + n) (show 0 < mF d by omega))
    rw [frs_s]; omega
/-- a flow as the supply reads it -/
def TFl (h : jm_H) (m : Nat) (d : MD) : Prop := h.1 1 m 0 = zI (md_fr d) ∧ h.1 1 m 2 = zI (mF d) ∧ ∀ k, k < mF d → h.1 19 m k = zI (mSl d k)
theorem TFl.chg {h h' : jm_H} {m : Nat} {d : MD} (t : TFl h m d) (e : ∀ K j, K = 1 ∨ K = 19 → h'.1 K m j = h.1 K m j) : TFl h' m d := by
  refine ⟨?_, ?_, fun k hk => ?_⟩
  · rw [e _ _ (by omega)]; exact t.1
  · rw [e _ _ (by omega)]; exact t.2.1
  · rw [e _ _ (by omega)]; exact t.2.2 k hk
theorem TF.fl {h : jm_H} {m : Nat} {d : MD} (t : TF h m d (md_fr d)) (G : gdm d) : TFl h m d := ⟨t.1.2.1, t.1.1.2.2.2.2.1, (t.2.2 G).1⟩
theorem PL.fl {h : jm_H} {nm : Nat} {D : Nat → MD} (P : PL h nm D) {m : Nat} (hm : m < nm) (G : gdm (D m)) : TFl h m (D m) := (P.2.2.2.2 m hm).2.2.2.1.fl G
theorem n401 : ((401 : Nat).toInt32) = zI 401 := rfl
theorem os_at {d : MD} (w : WFm d) {f n q : Nat} (h1 : (q : Int) * md_fr d ≤ n) (h2 : (n : Int) < (q : Int) * md_fr d + md_fr d) : os d f n = frs d f q := by
  have w1 := w.1
  unfold os
  have e : (n : Int) / md_fr d = q := by
    refine Int.le_antisymm ?_ (Int.le_ediv_of_mul_le (by omega) h1)
    refine Int.le_of_lt_add_one (Int.ediv_lt_of_lt_mul (by omega) ?_)
    rw [Int.add_mul, Int.one_mul]; exact h2
  rw [e]; rfl
theorem s_sum30 {d : MD} {m : Nat} (w : WFm d) (G : gdm d) (t : TId d) {f : Nat} : ∀ (e n q : Nat) (h : jm_H), n + e = 401 → TFl h m d → ((n = 0 ∧ q = 0) ∨ (q : Int) * md_fr d < n) → (n : Int) ≤ (q : Int) * md_fr d + md_fr d → (∀ i : Nat, i < n → h.1 30 0 i = zI (os d f i)) → ∃ h', l_Supply_sumUp_30_9 0 m (zI (frs d f q)) (zI (((f + q) % mF d : Nat) : Int)) (zI ((q : Int) * md_fr d + md_fr d)) (zI n) h (none, h') ∧ (∀ i : Nat, i < 401 → h'.1 30 0 i = zI (os d f i)) ∧ Ch (fun K _ _ => K = 30) h h' := by
  have w1 := w.1
  have hF := mF_b w
  have hF1 := hF.2 G
  intro e
  induction e with
  | zero =>
    intro n q h en T hq1 hq2 Z
    refine ⟨h, wp_Supply_sumUp_30_9 ⟨fun _ => rfl, fun hx => ?_⟩, fun i hi => Z i (by omega), Ch.rf h⟩
    rw [n401, zI_le (by omega) (by omega) (by omega) (by omega)] at hx; omega
  | succ e ih =>
    intro n q h en T hq1 hq2 Z
    have hmod := Nat.mod_lt (f + q) (show 0 < mF d by omega)
    have hq4 : (q : Int) * 4 ≤ (q : Int) * md_fr d := Int.mul_le_mul_of_nonneg_left (by omega) (by omega)
    have b1 := frs_b w G t f q
    have ec : (zI (((f + q) % mF d : Nat) : Int)).toNatClampNeg = (f + q) % mF d := zI_cn (by omega)
    have en' : (zI (n : Int)).toNatClampNeg = n := zI_cn (by omega)
    by_cases hc : (n : Int) = (q : Int) * md_fr d + md_fr d
    · have e2 : os d f n = frs d f q + mSl d ((f + q) % mF d) := by
        rw [os_at w (q := q + 1) (by rw [mul_s]; omega) (by rw [mul_s]; omega), frs_s]
      have c1 : Ch (fun K _ _ => K = 30) h (jm_sI h 30 0 n (zI (os d f n))) := Ch.sI rfl
      obtain ⟨h', r1, r2, r3⟩ := ih (n + 1) (q + 1) (jm_sI h 30 0 n (zI (os d f n))) (by omega) (T.chg (fun K j hK => c1.at (by omega))) (Or.inr (by rw [mul_s]; omega)) (by rw [mul_s]; omega) (fun i hi => by
        by_cases e3 : i = n
        · rw [e3, sI_eq]
        · rw [sI_ne (by omega)]; exact Z i (by omega))
      rw [mul_s, e2, frs_s, show ((n + 1 : Nat) : Int) = (n : Int) + 1 from rfl, ← Nat.add_assoc, mod_s hF1] at r1
      refine ⟨h', wp_Supply_sumUp_30_9 ⟨fun hx => ?_, fun _ => ⟨fun _ => ⟨zI_in (by omega) (by omega) (by omega), fun hd => ⟨zI_in (by omega) (by omega) (by omega), ?_⟩, fun hd => ⟨zI_in (by omega) (by omega) (by omega), ?_⟩⟩, fun hx => ?_⟩⟩, r2, c1.tr r3⟩
      · rw [n401, zI_le (by omega) (by omega) (by omega) (by omega)] at hx; omega
      · rw [T.2.1, zl_1, zI_add, zI_le (by omega) (by omega) (by omega) (by omega)] at hd
        rw [if_pos (by omega)] at r1
        rw [ec, en', T.2.2 _ hmod, T.1, zl_0, zl_1, zI_add, zI_add, zI_add]; exact r1
      · rw [T.2.1, zl_1, zI_add, zI_le (by omega) (by omega) (by omega) (by omega)] at hd
        rw [if_neg (by omega)] at r1
        rw [ec, en', T.2.2 _ hmod, T.1, zl_1, zI_add, zI_add, zI_add, zI_add]; exact r1
      · rw [hc] at hx; exact absurd rfl hx
    · have hq0 : (n = 0 ∧ q = 0) → (q : Int) * md_fr d = 0 := fun x => by rw [x.2]; exact Int.zero_mul _
      have e2 : os d f n = frs d f q := os_at w (by omega) (by omega)
      have c1 : Ch (fun K _ _ => K = 30) h (jm_sI h 30 0 n (zI (os d f n))) := Ch.sI rfl
      obtain ⟨h', r1, r2, r3⟩ := ih (n + 1) q (jm_sI h 30 0 n (zI (os d f n))) (by omega) (T.chg (fun K j hK => c1.at (by omega))) (Or.inr (by omega)) (by omega) (fun i hi => by
        by_cases e3 : i = n
        · rw [e3, sI_eq]
        · rw [sI_ne (by omega)]; exact Z i (by omega))
      rw [e2, show ((n + 1 : Nat) : Int) = (n : Int) + 1 from rfl] at r1
      refine ⟨h', wp_Supply_sumUp_30_9 ⟨fun hx => ?_, fun _ => ⟨fun hx => ?_, fun _ => ⟨zI_in (by omega) (by omega) (by omega), ?_⟩⟩⟩, r2, c1.tr r3⟩
      · rw [n401, zI_le (by omega) (by omega) (by omega) (by omega)] at hx; omega
      · rw [zI_eq (by omega) (by omega) (by omega) (by omega)] at hx; omega
      · rw [en', zl_1, zI_add]; exact r1
theorem s_sumUp30 {d : MD} {m f : Nat} {h : jm_H} (w : WFm d) (G : gdm d) (t : TId d) (T : TFl h m d) (hf : f < mF d) : ∃ h', m_Supply_sumUp_30 0 m (zI f) h h' ∧ (∀ i : Nat, i < 401 → h'.1 30 0 i = zI (os d f i)) ∧ Ch (fun K _ _ => K = 30) h h' := by
  have w1 := w.1
  obtain ⟨h', r1, r2, r3⟩ := s_sum30 w G t (f := f) 401 0 0 h (by omega) T (Or.inl ⟨rfl, rfl⟩) (by show (0 : Int) ≤ (0 : Int) * _ + _; rw [Int.zero_mul]; omega) (fun i hi => by omega)
  rw [show ((0 : Nat) : Int) * md_fr d + md_fr d = md_fr d by rw [show ((0 : Nat) : Int) = 0 from rfl, Int.zero_mul, Int.zero_add], show f + 0 = f from rfl, Nat.mod_eq_of_lt hf] at r1
  exact ⟨h', wp_Supply_sumUp_30 (by rw [T.1]; exact r1), r2, r3⟩
theorem s_sum31 {d : MD} {m : Nat} (w : WFm d) (G : gdm d) (t : TId d) {f : Nat} : ∀ (e n q : Nat) (h : jm_H), n + e = 401 → TFl h m d → ((n = 0 ∧ q = 0) ∨ (q : Int) * md_fr d < n) → (n : Int) ≤ (q : Int) * md_fr d + md_fr d → (∀ i : Nat, i < n → h.1 31 0 i = zI (os d f i)) → ∃ h', l_Supply_sumUp_31_9 0 m (zI (frs d f q)) (zI (((f + q) % mF d : Nat) : Int)) (zI ((q : Int) * md_fr d + md_fr d)) (zI n) h (none, h') ∧ (∀ i : Nat, i < 401 → h'.1 31 0 i = zI (os d f i)) ∧ Ch (fun K _ _ => K = 31) h h' := by
  have w1 := w.1
  have hF := mF_b w
  have hF1 := hF.2 G
  intro e
  induction e with
  | zero =>
    intro n q h en T hq1 hq2 Z
    refine ⟨h, wp_Supply_sumUp_31_9 ⟨fun _ => rfl, fun hx => ?_⟩, fun i hi => Z i (by omega), Ch.rf h⟩
    rw [n401, zI_le (by omega) (by omega) (by omega) (by omega)] at hx; omega
  | succ e ih =>
    intro n q h en T hq1 hq2 Z
    have hmod := Nat.mod_lt (f + q) (show 0 < mF d by omega)
    have hq4 : (q : Int) * 4 ≤ (q : Int) * md_fr d := Int.mul_le_mul_of_nonneg_left (by omega) (by omega)
    have b1 := frs_b w G t f q
    have ec : (zI (((f + q) % mF d : Nat) : Int)).toNatClampNeg = (f + q) % mF d := zI_cn (by omega)
    have en' : (zI (n : Int)).toNatClampNeg = n := zI_cn (by omega)
    by_cases hc : (n : Int) = (q : Int) * md_fr d + md_fr d
    · have e2 : os d f n = frs d f q + mSl d ((f + q) % mF d) := by
        rw [os_at w (q := q + 1) (by rw [mul_s]; omega) (by rw [mul_s]; omega), frs_s]
      have c1 : Ch (fun K _ _ => K = 31) h (jm_sI h 31 0 n (zI (os d f n))) := Ch.sI rfl
      obtain ⟨h', r1, r2, r3⟩ := ih (n + 1) (q + 1) (jm_sI h 31 0 n (zI (os d f n))) (by omega) (T.chg (fun K j hK => c1.at (by omega))) (Or.inr (by rw [mul_s]; omega)) (by rw [mul_s]; omega) (fun i hi => by
        by_cases e3 : i = n
        · rw [e3, sI_eq]
        · rw [sI_ne (by omega)]; exact Z i (by omega))
      rw [mul_s, e2, frs_s, show ((n + 1 : Nat) : Int) = (n : Int) + 1 from rfl, ← Nat.add_assoc, mod_s hF1] at r1
      refine ⟨h', wp_Supply_sumUp_31_9 ⟨fun hx => ?_, fun _ => ⟨fun _ => ⟨zI_in (by omega) (by omega) (by omega), fun hd => ⟨zI_in (by omega) (by omega) (by omega), ?_⟩, fun hd => ⟨zI_in (by omega) (by omega) (by omega), ?_⟩⟩, fun hx => ?_⟩⟩, r2, c1.tr r3⟩
      · rw [n401, zI_le (by omega) (by omega) (by omega) (by omega)] at hx; omega
      · rw [T.2.1, zl_1, zI_add, zI_le (by omega) (by omega) (by omega) (by omega)] at hd
        rw [if_pos (by omega)] at r1
        rw [ec, en', T.2.2 _ hmod, T.1, zl_0, zl_1, zI_add, zI_add, zI_add]; exact r1
      · rw [T.2.1, zl_1, zI_add, zI_le (by omega) (by omega) (by omega) (by omega)] at hd
        rw [if_neg (by omega)] at r1
        rw [ec, en', T.2.2 _ hmod, T.1, zl_1, zI_add, zI_add, zI_add, zI_add]; exact r1
      · rw [hc] at hx; exact absurd rfl hx
    · have hq0 : (n = 0 ∧ q = 0) → (q : Int) * md_fr d = 0 := fun x => by rw [x.2]; exact Int.zero_mul _
      have e2 : os d f n = frs d f q := os_at w (by omega) (by omega)
      have c1 : Ch (fun K _ _ => K = 31) h (jm_sI h 31 0 n (zI (os d f n))) := Ch.sI rfl
      obtain ⟨h', r1, r2, r3⟩ := ih (n + 1) q (jm_sI h 31 0 n (zI (os d f n))) (by omega) (T.chg (fun K j hK => c1.at (by omega))) (Or.inr (by omega)) (by omega) (fun i hi => by
        by_cases e3 : i = n
        · rw [e3, sI_eq]
        · rw [sI_ne (by omega)]; exact Z i (by omega))
      rw [e2, show ((n + 1 : Nat) : Int) = (n : Int) + 1 from rfl] at r1
      refine ⟨h', wp_Supply_sumUp_31_9 ⟨fun hx => ?_, fun _ => ⟨fun hx => ?_, fun _ => ⟨zI_in (by omega) (by omega) (by omega), ?_⟩⟩⟩, r2, c1.tr r3⟩
      · rw [n401, zI_le (by omega) (by omega) (by omega) (by omega)] at hx; omega
      · rw [zI_eq (by omega) (by omega) (by omega) (by omega)] at hx; omega
      · rw [en', zl_1, zI_add]; exact r1
theorem s_sumUp31 {d : MD} {m f : Nat} {h : jm_H} (w : WFm d) (G : gdm d) (t : TId d) (T : TFl h m d) (hf : f < mF d) : ∃ h', m_Supply_sumUp_31 0 m (zI f) h h' ∧ (∀ i : Nat, i < 401 → h'.1 31 0 i = zI (os d f i)) ∧ Ch (fun K _ _ => K = 31) h h' := by
  have w1 := w.1
  obtain ⟨h', r1, r2, r3⟩ := s_sum31 w G t (f := f) 401 0 0 h (by omega) T (Or.inl ⟨rfl, rfl⟩) (by show (0 : Int) ≤ (0 : Int) * _ + _; rw [Int.zero_mul]; omega) (fun i hi => by omega)
  rw [show ((0 : Nat) : Int) * md_fr d + md_fr d = md_fr d by rw [show ((0 : Nat) : Int) = 0 from rfl, Int.zero_mul, Int.zero_add], show f + 0 = f from rfl, Nat.mod_eq_of_lt hf] at r1
  exact ⟨h', wp_Supply_sumUp_31 (by rw [T.1]; exact r1), r2, r3⟩
/-! ===== up to a time ===== -/
noncomputable def Ut (D : Nat → MD) (c : CK) (t : Int) : Int := if k_to c < 0 ∨ t ≤ k_at c - k_now c then os (D (k_mo c)) (k_fr c) t else os (D (k_mo c)) (k_fr c) (k_at c - k_now c) + os (D (k_to c).toNat) 0 (t - (k_at c - k_now c))
section UT
variable {nm : Nat} {D : Nat → MD} {c : CK}
theorem asl_b (S : swOk nm D c) (Z : tId nm D) {n : Nat} (hn : n ≤ 1000) : 0 ≤ aSl D c n ∧ aSl D c n ≤ 100 := by
  have hm := sw_m S hn
  exact sl_b (S.1 _ hm.1) hm.2.1 (Z _ hm.1 hm.2.1) hm.2.2
theorem cs_b (S : swOk nm D c) (Z : tId nm D) : ∀ n : Nat, n ≤ 1001 → 0 ≤ sm n (aSl D c) ∧ sm n (aSl D c) ≤ 100 * n := by
  intro n
  induction n with
  | zero => intro _; exact ⟨Int.le_refl _, Int.le_refl _⟩
  | succ n ih =>
    intro hn
    have h1 := ih (by omega)
    have h2 := asl_b S Z (show n ≤ 1000 by omega)
    rw [sm_s]; omega
theorem cs_mono (S : swOk nm D c) (Z : tId nm D) {a b : Nat} (hab : a ≤ b) (hb : b ≤ 1001) : sm a (aSl D c) ≤ sm b (aSl D c) := sm_mono (fun i _ hi => (asl_b S Z (by omega)).1) hab
theorem ti_mono (S : swOk nm D c) {a : Nat} : ∀ b : Nat, a ≤ b → b ≤ 1001 → aTi D c a ≤ aTi D c b := by
  intro b
  induction b with
  | zero => intro ha _; rw [show a = 0 by omega]; exact Int.le_refl _
  | succ b ih =>
    intro ha hb
    by_cases e : a = b + 1
    · rw [e]; exact Int.le_refl _
    · have h1 := ih (by omega) (by omega)
      have hm := sw_m S (show b ≤ 1000 by omega)
      have L := (S.1 _ hm.1).1
      rw [ti_s S (by omega)]; omega
theorem cs_own {n : Nat} (hn : n ≤ sN D c) : sm n (aSl D c) = frs (D (k_mo c)) (k_fr c) n := by
  unfold frs
  refine sm_congr (fun i hi => ?_)
  unfold aSl aMo aFr
  rw [if_pos (by omega), if_pos (by omega)]
theorem cs_oth (k : Nat) : sm (sN D c + k) (aSl D c) = frs (D (k_mo c)) (k_fr c) (sN D c) + frs (D (k_to c).toNat) 0 k := by
  rw [sm_app, cs_own (Nat.le_refl _)]
  congr 1
  unfold frs
  refine sm_congr (fun i hi => ?_)
  unfold aSl aMo aFr
  rw [if_neg (by omega), if_neg (by omega), show sN D c + i - sN D c = 0 + i by omega]
theorem div_sp {t L : Int} (h0 : 0 ≤ t) (hL : 4 ≤ L) : ∃ q : Nat, (t / L).toNat = q ∧ (q : Int) * L ≤ t ∧ t < (q : Int) * L + L ∧ (q : Int) ≤ t := by
  have h1 : 0 ≤ t / L := Int.ediv_nonneg h0 (by omega)
  have h2 := Int.ediv_mul_le t (show L ≠ 0 by omega)
  have h3 := Int.lt_ediv_add_one_mul_self t (show 0 < L by omega)
  have h4 := Int.ediv_le_self L h0
  refine ⟨(t / L).toNat, rfl, ?_, ?_, by omega⟩
  · rw [Int.toNat_of_nonneg h1]; exact h2
  · rw [Int.toNat_of_nonneg h1]
    rw [Int.add_mul, Int.one_mul] at h3; exact h3
theorem Ut_sp (S : swOk nm D c) {t : Int} (t0 : 0 ≤ t) (t1 : t ≤ 400) : ∃ n, n ≤ 100 ∧ Ut D c t = sm n (aSl D c) ∧ aTi D c n ≤ k_now c + t ∧ k_now c + t < aTi D c (n + 1) := by
  have L := sw_L S
  have fin : ∀ n : Nat, n ≤ 1000 → aTi D c n ≤ k_now c + t → n ≤ 100 := fun n hn hx => by
    have := ti_b S n hn
    omega
  obtain ⟨q, e1, e2, e3, e4⟩ := div_sp t0 L.1
  rcases sw_n S with ⟨a, b, _⟩ | ⟨a, b, d, e⟩
  · have hT : aTi D c q = k_now c + (q : Int) * md_fr (D (k_mo c)) := by unfold aTi; rw [if_pos (by omega)]
    have hT1 : aTi D c (q + 1) = k_now c + ((q + 1 : Nat) : Int) * md_fr (D (k_mo c)) := by unfold aTi; rw [if_pos (by omega)]
    rw [mul_s] at hT1
    refine ⟨q, fin q (by omega) (by omega), ?_, by omega, by omega⟩
    unfold Ut os
    rw [if_pos (Or.inl a), e1, cs_own (by omega)]
  · have L2 := (S.1 _ b).1
    by_cases hc : t ≤ k_at c - k_now c
    · have hU : Ut D c t = frs (D (k_mo c)) (k_fr c) q := by
        unfold Ut os
        rw [if_pos (Or.inr hc), e1]
      have hqs : q ≤ sN D c := by
        apply Decidable.byContradiction
        intro hx
        have := mul_m (show sN D c + 1 ≤ q by omega) (show 0 ≤ md_fr (D (k_mo c)) by omega)
        rw [mul_s] at this; omega
      by_cases h2 : q < sN D c
      · have hT : aTi D c q = k_now c + (q : Int) * md_fr (D (k_mo c)) := by unfold aTi; rw [if_pos h2]
        have hM : aMo D c q = k_mo c := by unfold aMo; rw [if_pos h2]
        have hT1 := ti_s S (show q ≤ 1000 by omega)
        rw [hM] at hT1
        exact ⟨q, fin q (by omega) (by omega), by rw [hU, cs_own hqs], by omega, by omega⟩
      · have h3 : q = sN D c := by omega
        have hT := (ti_at S a (n := q)).mpr h3
        have hT1 := ti_s S (show q ≤ 1000 by omega)
        have hM := (S.1 _ (sw_m S (show q ≤ 1000 by omega)).1).1
        rw [h3] at e2 e3
        exact ⟨q, fin q (by omega) (by omega), by rw [hU, cs_own hqs], by omega, by omega⟩
    · obtain ⟨p, p1, p2, p3, p4⟩ := div_sp (t := t - (k_at c - k_now c)) (by omega) L2.1
      have hW : ((k_at c - k_now c) / md_fr (D (k_mo c))).toNat = sN D c := by
        rw [show k_at c - k_now c = (sN D c : Int) * md_fr (D (k_mo c)) by omega, Int.mul_ediv_cancel _ (by omega)]; rfl
      have hU : Ut D c t = sm (sN D c + p) (aSl D c) := by
        unfold Ut os
        rw [if_neg (by omega), hW, p1, cs_oth]
      have hat : k_now c ≤ k_at c := by
        rcases S.2.2.2.2.2.2 with ⟨y, _⟩ | ⟨_, _, _, y, _, _⟩ <;> omega
      have hT : aTi D c (sN D c + p) = k_at c + (p : Int) * md_fr (D (k_to c).toNat) := by
        unfold aTi
        rw [if_neg (by omega), show sN D c + p - sN D c = p by omega]
      have hM : aMo D c (sN D c + p) = (k_to c).toNat := by unfold aMo; rw [if_neg (by omega)]
      have hT1 := ti_s S (show sN D c + p ≤ 1000 by omega)
      rw [hM] at hT1
      exact ⟨sN D c + p, fin _ (by omega) (by omega), hU, by omega, by omega⟩
theorem Ut_iff (S : swOk nm D c) (Z : tId nm D) {t X : Int} (t0 : 0 ≤ t) (t1 : t ≤ 400) : X ≤ Ut D c t ↔ ∃ n, n ≤ 1000 ∧ aTi D c n ≤ k_now c + t ∧ X ≤ sm n (aSl D c) := by
  obtain ⟨n, n1, n2, n3, n4⟩ := Ut_sp S t0 t1
  constructor
  · intro hx
    exact ⟨n, by omega, n3, by omega⟩
  · rintro ⟨k, k1, k2, k3⟩
    have : k ≤ n := by
      apply Decidable.byContradiction
      intro hx
      have := ti_mono S k (show n + 1 ≤ k by omega) (by omega)
      omega
    have := cs_mono S Z this (by omega)
    omega
theorem Ut_b (S : swOk nm D c) (Z : tId nm D) {t : Int} (t0 : 0 ≤ t) (t1 : t ≤ 400) : 0 ≤ Ut D c t ∧ Ut D c t ≤ 10000 := by
  obtain ⟨n, n1, n2, n3, n4⟩ := Ut_sp S t0 t1
  have := cs_b S Z n (by omega)
  rw [n2]; omega
/-! ===== as the class has it ===== -/
def SV (h : jm_H) (D : Nat → MD) (c : CK) : Prop := (∀ i : Nat, i < 401 → h.1 30 0 i = zI (os (D (k_mo c)) (k_fr c) i)) ∧ (0 ≤ k_to c → ∀ i : Nat, i < 401 → h.1 31 0 i = zI (os (D (k_to c).toNat) 0 i)) ∧ ∃ s : Int, h.1 5 0 2 = zI s ∧ ((k_to c < 0 ∧ s = 400) ∨ (0 ≤ k_to c ∧ s = k_at c - k_now c))
theorem SV.chg {h h' : jm_H} (v : SV h D c) (e : ∀ K j, K = 5 ∨ K = 30 ∨ K = 31 → h'.1 K 0 j = h.1 K 0 j) : SV h' D c := by
  obtain ⟨v1, v2, s, v3, v4⟩ := v
  exact ⟨fun i hi => by rw [e _ _ (by omega)]; exact v1 i hi, fun x i hi => by rw [e _ _ (by omega)]; exact v2 x i hi, s, by rw [e _ _ (by omega)]; exact v3, v4⟩
theorem clp {t : Int} (t0 : 0 ≤ t) (t1 : t ≤ 400) : (if (0 : Int32) < (if (400 : Int32) < zI t then 400 else zI t) then (if (400 : Int32) < zI t then 400 else zI t) else 0) = zI t := by
  rw [if_neg (show ¬ (400 : Int32) < zI t by rw [zl_400, zI_lt (by omega) (by omega) (by omega) (by omega)]; omega)]
  by_cases hc : t = 0
  · subst hc; rw [if_neg (by decide)]; rfl
  · rw [if_pos (by rw [zl_0, zI_lt (by omega) (by omega) (by omega) (by omega)]; omega)]
theorem clp0 {t : Int} (t0 : 0 ≤ t) (t1 : t ≤ 1000) : (if (0 : Int32) < zI t then zI t else 0) = zI t := by
  by_cases hc : t = 0
  · subst hc; rw [if_neg (by decide)]; rfl
  · rw [if_pos (by rw [zl_0, zI_lt (by omega) (by omega) (by omega) (by omega)]; omega)]
theorem s_upTo {h : jm_H} (S : swOk nm D c) (v : SV h D c) {t : Int} (t0 : 0 ≤ t) (t1 : t ≤ 400) : m_Supply_upTo (zI t) h (zI (Ut D c t)) h := by
  obtain ⟨v1, v2, s, v3, v4⟩ := v
  have hs : 0 ≤ s ∧ s ≤ 600 := by
    rcases v4 with x | x
    · omega
    · rcases S.2.2.2.2.2.2 with y | ⟨_, _, _, y, z, _⟩ <;> omega
  refine wp_Supply_upTo ?_
  rw [clp t0 t1, v3, clp0 hs.1 (by omega)]
  refine ⟨fun hc => ?_, fun hc => ?_⟩
  · rw [zI_lt (by omega) (by omega) (by omega) (by omega)] at hc
    rw [zI_sub]
    refine ⟨zI_in (by omega) (by omega) (by omega), zI_in (by omega) (by omega) (by omega), ?_⟩
    have hto : 0 ≤ k_to c ∧ s = k_at c - k_now c := by
      rcases v4 with x | x
      · omega
      · exact x
    have a1 := v1 s.toNat (by omega)
    have a2 := v2 hto.1 (t - s).toNat (by omega)
    rw [Int.toNat_of_nonneg hs.1] at a1
    rw [Int.toNat_of_nonneg (by omega)] at a2
    rw [zI_nat (by omega) (by omega), zI_nat (by omega) (by omega), a1, a2, zI_add]
    unfold Ut
    rw [if_neg (by omega), hto.2]
  · rw [zI_lt (by omega) (by omega) (by omega) (by omega)] at hc
    refine ⟨zI_in (by omega) (by omega) (by omega), ?_⟩
    have a1 := v1 t.toNat (by omega)
    rw [Int.toNat_of_nonneg t0] at a1
    rw [zI_nat (by omega) (by omega), a1]
    unfold Ut
    rw [if_pos (by omega)]
end UT
