/-! ===== the reference's tables, kept ===== -/
theorem sm_app (a b : Nat) (g : Nat → Int) : sm (a + b) g = sm a g + sm b (fun k => g (a + k)) := by
  induction b with
  | zero => rw [Nat.add_zero, sm_0, Int.add_zero]
  | succ b ih => rw [← Nat.add_assoc, sm_s, sm_s, ih]; omega
theorem sm_grid (n : Nat) (g : Nat → Int) : sm (24 * n) g = sm n (fun j => sm 24 (fun k => g (24 * j + k))) := by
  induction n with
  | zero => rfl
  | succ n ih => rw [Nat.mul_add, Nat.mul_one, sm_app, ih]; rfl
theorem pcs_576 {J F : Nat} {u : Nat → Nat → Int} (hJ : J ≤ 24) (hF : F ≤ 24) (z : ∀ i k, (J ≤ i ∨ F ≤ k) → u i k = 0) : sm 576 (fun i => if 0 < u (i / 24) (i % 24) then 1 else 0) = pcs J F u := by
  rw [show (576 : Nat) = 24 * 24 from rfl, sm_grid]
  unfold pcs
  rw [sm_tail (n := J) (m := 24) (fun j h1 h2 => sm_zero (fun k hk => by
    rw [show (24 * j + k) / 24 = j by omega, show (24 * j + k) % 24 = k by omega, z j k (Or.inl h1)]; rfl)) hJ]
  refine sm_congr (fun j hj => ?_)
  (try dsimp only)
  rw [sm_tail (n := F) (m := 24) (fun k h1 h2 => by
    rw [show (24 * j + k) / 24 = j by omega, show (24 * j + k) % 24 = k by omega, z j k (Or.inr h1)]; rfl) hF]
  exact sm_congr (fun k hk => by rw [show (24 * j + k) / 24 = j by omega, show (24 * j + k) % 24 = k by omega])
section LAID
variable {h : jm_H} {u : Nat → Nat → Int}
theorem s_pt_4 (U : MU h u) (ub : ∀ j k, j < 24 → k < 24 → 0 ≤ u j k ∧ u j k ≤ 100) : ∀ (e n : Nat) (s : Int), n + e = 576 → l_M_piecesThere_4 (zI s) (zI n) h (some (jm_i (zI (s + (sm 576 (fun i => if 0 < u (i / 24) (i % 24) then 1 else 0) - sm n (fun i => if 0 < u (i / 24) (i % 24) then 1 else 0))))), h) := by
  intro e
  induction e with
  | zero =>
    intro n s en
    refine wp_M_piecesThere_4 ⟨fun _ => ?_, fun hc => ?_⟩
    · rw [show n = 576 by omega, Int.sub_self, Int.add_zero]
    · rw [zl_576, zI_le (by omega) (by omega) (by omega) (by omega)] at hc; omega
  | succ e ih =>
    intro n s en
    have b := ub (n / 24) (n % 24) (by omega) (by omega)
    have eu : h.1 49 0 (zI (n : Int)).toNatClampNeg = zI (u (n / 24) (n % 24)) := by
      rw [zI_cn (by omega)]
      have := U (n / 24) (n % 24) (by omega) (by omega)
      rwa [show 24 * (n / 24) + n % 24 = n by omega] at this
    have g := ih (n + 1) (s + (if 0 < u (n / 24) (n % 24) then 1 else 0)) (by omega)
    rw [sm_s n, show ∀ x y z : Int, s + x + (y - (z + x)) = s + (y - z) from fun x y z => by omega] at g
    refine wp_M_piecesThere_4 ⟨fun hc => ?_, fun _ => ⟨zI_in (by omega) (by omega) (by omega), fun hc => ?_, fun hc => ?_⟩⟩
    · rw [zl_576, zI_le (by omega) (by omega) (by omega) (by omega)] at hc; omega
    · rw [eu, zl_0, zI_le (by omega) (by omega) (by omega) (by omega)] at hc
      rw [if_neg (by omega)] at g
      rw [zl_0, zl_1, zI_add, zI_add]; exact g
    · rw [eu, zl_0, zI_le (by omega) (by omega) (by omega) (by omega)] at hc
      rw [if_pos (by omega)] at g
      rw [zl_1, zI_add, zI_add]; exact g
theorem s_piecesThere (U : MU h u) (ub : ∀ j k, j < 24 → k < 24 → 0 ≤ u j k ∧ u j k ≤ 100) {J F : Nat} (hJ : J ≤ 24) (hF : F ≤ 24) (z : ∀ i k, (J ≤ i ∨ F ≤ k) → u i k = 0) : m_M_piecesThere h (zI (pcs J F u)) h := by
  have := s_pt_4 U ub 576 0 0 (by omega)
  rw [sm_0, Int.sub_zero, Int.zero_add, pcs_576 hJ hF z] at this
  exact wp_M_piecesThere this
theorem TI_ub24 {J F : Nat} {room : Int} {fi la c : Nat → Int} {s : FSt} (hw : WN J F fi la c room) (P : TI J F fi la c room s) : ∀ j k, j < 24 → k < 24 → 0 ≤ s.2 j k ∧ s.2 j k ≤ 100 := fun j k _ _ => by
  by_cases hj : J ≤ j ∨ F ≤ k
  · rw [P.2 j k hj]; omega
  · have := (TI_ub hw P).1 j k (by omega) (by omega)
    omega
/-- the copy of a table -/
theorem s_il_41 {m : Nat} (hm : m < 3) {r : jm_Rs} {Q : jm_H → Prop} : ∀ (e n : Nat) (h : jm_H), n + e = 576 → MU h u → (∀ i, i < n → h.1 53 0 (576 * m + i) = h.1 49 0 i) → ∃ h', (∀ i, i < 576 → h'.1 53 0 (576 * m + i) = h.1 49 0 i) ∧ Ch (fun K _ j => K = 53 ∧ 576 * m ≤ j ∧ j < 576 * m + 576) h h' ∧ ∀ r, l_M_isLaid_60 (zI m) 0 h' r → l_M_isLaid_41 (zI m) (zI n) h r := by
  intro e
  induction e with
  | zero =>
    intro n h en U Z
    refine ⟨h, fun i hi => Z i (by omega), Ch.rf h, fun r hr => wp_M_isLaid_41 ⟨fun _ => hr, fun hc => ?_⟩⟩
    rw [zl_576, zI_le (by omega) (by omega) (by omega) (by omega)] at hc; omega
  | succ e ih =>
    intro n h en U Z
    have e5 : (576 * zI (m : Int)) + zI (n : Int) = zI ((576 * m + n : Nat) : Int) := by rw [zl_576, zI_mul, zI_add]; congr 1
    have c1 : Ch (fun K _ j => K = 53 ∧ 576 * m ≤ j ∧ j < 576 * m + 576) h (jm_sI h 53 0 (576 * m + n) (h.1 49 0 n)) := Ch.sI ⟨rfl, by omega, by omega⟩
    obtain ⟨h', r1, r2, r3⟩ := ih (n + 1) (jm_sI h 53 0 (576 * m + n) (h.1 49 0 n)) (by omega) (fun j k hj hk => by rw [sI_ne (by omega)]; exact U j k hj hk) (fun i hi => by
      by_cases e2 : i = n
      · rw [e2, sI_eq, sI_ne (by omega)]
      · rw [sI_ne (by omega), sI_ne (by omega)]; exact Z i (by omega))
    refine ⟨h', fun i hi => ?_, c1.tr r2, fun r hr => wp_M_isLaid_41 ⟨fun hc => ?_, fun _ => ⟨zI_in (by omega) (by omega) (by omega), ?_, ?_⟩⟩⟩
    · rw [r1 i hi, sI_ne (by omega)]
    · rw [zl_576, zI_le (by omega) (by omega) (by omega) (by omega)] at hc; omega
    · rw [e5]; exact zI_in (by omega) (by omega) (by omega)
    · rw [e5, zI_cn (by omega), zI_cn (by omega), zl_1, zI_add]; exact r3 r hr
theorem s_il_75 {m k : Nat} (hm : m < 3) (hk : k < 24) : ∀ (e n : Nat) (h : jm_H) (w : Int), n + e = 24 → MU h u → h.1 55 0 (24 * m + k) = zI w → ∃ h', h'.1 55 0 (24 * m + k) = zI (w - (sm 24 (fun j => u j k) - sm n (fun j => u j k))) ∧ Ch (fun K _ j => K = 55 ∧ j = 24 * m + k) h h' ∧ ∀ r, l_M_isLaid_60 (zI m) (zI k + 1) h' r → l_M_isLaid_75 (zI m) (zI k) (zI n) h r := by
  intro e
  induction e with
  | zero =>
    intro n h w en U hv
    refine ⟨h, by rw [hv, show n = 24 by omega]; congr 1; omega, Ch.rf h, fun r hr => wp_M_isLaid_75 ⟨fun _ => hr, fun hc => ?_⟩⟩
    rw [zl_24, zI_le (by omega) (by omega) (by omega) (by omega)] at hc; omega
  | succ e ih =>
    intro n h w en U hv
    have e1 : (24 * zI (m : Int)) + zI (k : Int) = zI ((24 * m + k : Nat) : Int) := by rw [zl_24, zI_mul, zI_add]; congr 1
    have e2 : (24 * zI (n : Int)) + zI (k : Int) = zI ((24 * n + k : Nat) : Int) := by rw [zl_24, zI_mul, zI_add]; congr 1
    have i1 : jm_in ((24 * zI (m : Int)) + zI (k : Int)) 72 := by rw [e1]; exact zI_in (by omega) (by omega) (by omega)
    have i2 : jm_in ((24 * zI (n : Int)) + zI (k : Int)) 576 := by rw [e2]; exact zI_in (by omega) (by omega) (by omega)
    have c1 : Ch (fun K _ j => K = 55 ∧ j = 24 * m + k) h (jm_sI h 55 0 (24 * m + k) (zI (w - u n k))) := Ch.sI ⟨rfl, rfl⟩
    obtain ⟨h', r1, r2, r3⟩ := ih (n + 1) _ (w - u n k) (by omega) (fun j k' hj hk' => by rw [sI_ne (by omega)]; exact U j k' hj hk') (sI_eq (h := h) (K := 55) (i := 0) (j := 24 * m + k) (x := zI (w - u n k)))
    refine ⟨h', ?_, c1.tr r2, fun r hr => wp_M_isLaid_75 ⟨fun hc => ?_, fun _ => ⟨i1, i2, i1, ?_⟩⟩⟩
    · rw [r1, sm_s n]; congr 1; omega
    · rw [zl_24, zI_le (by omega) (by omega) (by omega) (by omega)] at hc; omega
    · rw [e1, e2, zI_cn (by omega), zI_cn (by omega), hv, U n k (by omega) hk, zI_sub, zl_1, zI_add]; exact r3 r hr
theorem s_il_60 {m : Nat} (hm : m < 3) {room : Int} : ∀ (e n : Nat) (h : jm_H), n + e = 24 → MU h u → h.1 8 0 27 = zI room → h.1 52 0 m = 1 → (∀ k, k < n → h.1 55 0 (24 * m + k) = zI (room - sm 24 (fun j => u j k))) → ∃ h', l_M_isLaid_60 (zI m) (zI n) h (some (jm_i 1), h') ∧ (∀ k, k < 24 → h'.1 55 0 (24 * m + k) = zI (room - sm 24 (fun j => u j k))) ∧ Ch (fun K _ j => K = 55 ∧ 24 * m ≤ j ∧ j < 24 * m + 24) h h' := by
  intro e
  induction e with
  | zero =>
    intro n h en U hr0 hk Z
    refine ⟨h, wp_M_isLaid_60 ⟨fun _ => ⟨zI_in (by omega) (by omega) (by omega), fun _ => rfl, fun hc => ?_⟩, fun hc => ?_⟩, fun k hk => Z k (by omega), Ch.rf h⟩
    · rw [zI_cn (by omega)] at hc; exact absurd hk hc
    · rw [zl_24, zI_le (by omega) (by omega) (by omega) (by omega)] at hc; omega
  | succ e ih =>
    intro n h en U hr0 hk Z
    have e1 : (24 * zI (m : Int)) + zI (n : Int) = zI ((24 * m + n : Nat) : Int) := by rw [zl_24, zI_mul, zI_add]; congr 1
    have c1 : Ch (fun K _ j => K = 55 ∧ 24 * m ≤ j ∧ j < 24 * m + 24) h (jm_sI h 55 0 (24 * m + n) (zI room)) := Ch.sI ⟨rfl, by omega, by omega⟩
    obtain ⟨h1, q1, q2, q3⟩ := s_il_75 (u := u) hm (show n < 24 by omega) 24 0 (jm_sI h 55 0 (24 * m + n) (zI room)) room (by omega) (fun j k' hj hk' => by rw [sI_ne (by omega)]; exact U j k' hj hk') sI_eq
    rw [sm_0, Int.sub_zero] at q1
    obtain ⟨h', r1, r2, r3⟩ := ih (n + 1) h1 (by omega) (fun j k' hj hk' => by rw [q2.at (by omega), sI_ne (by omega)]; exact U j k' hj hk') (by rw [q2.at (by omega), sI_ne (by omega)]; exact hr0) (by rw [q2.at (by omega), sI_ne (by omega)]; exact hk) (fun k hk => by
      by_cases e2 : k = n
      · rw [e2]; exact q1
      · rw [q2.at (by omega), sI_ne (by omega)]; exact Z k (by omega))
    refine ⟨h', wp_M_isLaid_60 ⟨fun hc => ?_, fun _ => ⟨?_, ?_⟩⟩, r2, (c1.tr (q2.mono (fun K i j x => ⟨x.1, by omega, by omega⟩))).tr r3⟩
    · rw [zl_24, zI_le (by omega) (by omega) (by omega) (by omega)] at hc; omega
    · rw [e1]; exact zI_in (by omega) (by omega) (by omega)
    · rw [e1, zI_cn (by omega), hr0]
      exact q3 _ (by rw [zl_1, zI_add]; exact r1)
end LAID
/-- a kept table of the reference -/
def MTb (h : jm_H) (m : Nat) (d : MD) : Prop :=
  (∀ j k, j < 24 → k < 24 → h.1 53 0 (576 * m + (24 * j + k)) = zI ((tabS d (md_fr d)).2.2 j k)) ∧ h.1 54 0 m = zI (tabS d (md_fr d)).1 ∧ (∀ k, k < md_F d (md_fr d) → h.1 55 0 (24 * m + k) = zI ((tabS d (md_fr d)).2.1 k))
def TM (h : jm_H) (m : Nat) (d : MD) : Prop := ∃ kn : Int, h.1 52 0 m = zI kn ∧ (kn = 0 ∨ (kn = 2 ∧ ¬ gd d (md_fr d)) ∨ (kn = 1 ∧ gd d (md_fr d) ∧ MTb h m d))
/-- laid, as asked -/
def TL (h : jm_H) (m : Nat) (d : MD) : Prop := h.1 52 0 m = zI 1 ∧ gd d (md_fr d) ∧ MTb h m d
def cLd (m : Nat) : Nat → Nat → Nat → Prop := fun K i j => cMs K i j ∨ (K = 52 ∧ j = m) ∨ (K = 53 ∧ 576 * m ≤ j ∧ j < 576 * m + 576) ∨ (K = 54 ∧ j = m) ∨ (K = 55 ∧ 24 * m ≤ j ∧ j < 24 * m + 24)
theorem TL.tm {h : jm_H} {m : Nat} {d : MD} (t : TL h m d) : TM h m d := ⟨1, t.1, Or.inr (Or.inr ⟨rfl, t.2⟩)⟩
theorem MTb.chg {h h' : jm_H} {m : Nat} {d : MD} (t : MTb h m d) (hF : md_F d (md_fr d) ≤ 24) (e : ∀ K j, (K = 53 ∧ 576 * m ≤ j ∧ j < 576 * m + 576) ∨ (K = 54 ∧ j = m) ∨ (K = 55 ∧ 24 * m ≤ j ∧ j < 24 * m + 24) → h'.1 K 0 j = h.1 K 0 j) : MTb h' m d := by
  refine ⟨fun j k hj hk => ?_, ?_, fun k hk => ?_⟩
  · rw [e 53 _ (by omega)]; exact t.1 j k hj hk
  · rw [e 54 _ (by omega)]; exact t.2.1
  · rw [e 55 _ (by omega)]; exact t.2.2 k hk
theorem TM.chg {h h' : jm_H} {m : Nat} {d : MD} (t : TM h m d) (hF : md_F d (md_fr d) ≤ 24) (e : ∀ K j, (K = 52 ∧ j = m) ∨ (K = 53 ∧ 576 * m ≤ j ∧ j < 576 * m + 576) ∨ (K = 54 ∧ j = m) ∨ (K = 55 ∧ 24 * m ≤ j ∧ j < 24 * m + 24) → h'.1 K 0 j = h.1 K 0 j) : TM h' m d := by
  obtain ⟨kn, t1, t2⟩ := t
  refine ⟨kn, by rw [e 52 _ (by omega)]; exact t1, ?_⟩
  rcases t2 with t2 | t2 | ⟨a, b, c⟩
  · exact Or.inl t2
  · exact Or.inr (Or.inl t2)
  · exact Or.inr (Or.inr ⟨a, b, c.chg hF (fun K j hK => e K j (by omega))⟩)
theorem TL.chg {h h' : jm_H} {m : Nat} {d : MD} (t : TL h m d) (hF : md_F d (md_fr d) ≤ 24) (e : ∀ K j, (K = 52 ∧ j = m) ∨ (K = 53 ∧ 576 * m ≤ j ∧ j < 576 * m + 576) ∨ (K = 54 ∧ j = m) ∨ (K = 55 ∧ 24 * m ≤ j ∧ j < 24 * m + 24) → h'.1 K 0 j = h.1 K 0 j) : TL h' m d := ⟨by rw [e 52 _ (by omega)]; exact t.1, t.2.1, t.2.2.chg hF (fun K j hK => e K j (by omega))⟩
theorem s_isLaid {m : Nat} {h : jm_H} {d : MD} (v : vM h m d) (w : WFm d) (hm : m < 3) (T : TM h m d) : ∃ h', m_M_isLaid (zI m) h (zI (gdI d (md_fr d))) h' ∧ TM h' m d ∧ (gd d (md_fr d) → TL h' m d) ∧ Ch (cLd m) h h' := by
  have w1 := w.1
  have bd := md_bd w (g := md_fr d) (by omega) (by omega)
  obtain ⟨kn, t1, t2⟩ := T
  have hi3 : jm_in (zI (m : Int)) 3 := zI_in (by omega) (by omega) (by omega)
  have hi6 : jm_in (zI (m : Int)) 6 := zI_in (by omega) (by omega) (by omega)
  have em : (zI (m : Int)).toNatClampNeg = m := zI_cn (by omega)
  have t1' : h.1 52 0 (zI (m : Int)).toNatClampNeg = zI kn := by rw [em]; exact t1
  rcases t2 with t2 | ⟨t2, t3⟩ | ⟨t2, t3, t4⟩
  · subst t2
    obtain ⟨h1, q1, q2, q3⟩ := s_isGoodM v w hm (g := md_fr d) (by omega) (by omega)
    have hq1 : m_M_isGood (zI m) (h.1 34 0 (zI (m : Int)).toNatClampNeg) h (zI (gdI d (md_fr d))) h1 := by rw [em, v.1]; exact q1
    have k1 : Ch (cLd m) h h1 := q2.mono (fun K i j x => Or.inl x)
    by_cases hG : gd d (md_fr d)
    · have hg1 : gdI d (md_fr d) = 1 := gdI_1.mpr hG
      have hw := gd_WN w (by omega) (by omega) hG
      have c2 : Ch (cLd m) h1 (jm_sI h1 52 0 m 1) := Ch.sI (Or.inr (Or.inl ⟨rfl, rfl⟩))
      have v2 : vM (jm_sI h1 52 0 m 1) m d := q3.chg (fun K j hK => sI_ne (by omega))
      obtain ⟨h3, l1, l2, l3, l4, l5, l6, l7⟩ := s_lays v2 w hm (by omega) (by omega) hG
      have c4 : Ch (cLd m) h3 (jm_sI h3 54 0 m (h3.1 8 0 35)) := Ch.sI (Or.inr (Or.inr (Or.inr (Or.inl ⟨rfl, rfl⟩))))
      have U4 : MU (jm_sI h3 54 0 m (h3.1 8 0 35)) (tabS d (md_fr d)).2.2 := fun j k hj hk => by rw [sI_ne (by omega)]; exact l4 j k hj hk
      obtain ⟨h5, r1, r2, r3⟩ := s_il_41 (u := (tabS d (md_fr d)).2.2) hm (r := (none, h)) (Q := fun _ => True) 576 0 (jm_sI h3 54 0 m (h3.1 8 0 35)) (by omega) U4 (fun i hi => by omega)
      have e52 : h5.1 52 0 m = 1 := by rw [r2.at (by omega), sI_ne (by omega), l6.at (by unfold cMs; omega), sI_eq]
      have e27 : h5.1 8 0 27 = zI (md_rm d (md_fr d)) := by rw [r2.at (by omega), sI_ne (by omega)]; exact l2.1.2.2.2.1
      have U5 : MU h5 (tabS d (md_fr d)).2.2 := fun j k hj hk => by rw [r2.at (by omega)]; exact U4 j k hj hk
      obtain ⟨h6, y1, y2, y3⟩ := s_il_60 (u := (tabS d (md_fr d)).2.2) hm 24 0 h5 (by omega) U5 e27 e52 (fun k hk => by omega)
      have M6 : MTb h6 m d := by
        refine ⟨fun j k hj hk => ?_, ?_, fun k hk => ?_⟩
        · rw [y3.at (by omega), r1 (24 * j + k) (by omega)]; exact U4 j k hj hk
        · rw [y3.at (by omega), r2.at (by omega), sI_eq]; exact l5
        · rw [y2 k (by omega)]
          congr 1
          have := (l7.1.2.2.2 k hk).2
          rw [sm_tail (n := md_jb d) (m := 24) (f := fun j => (tabS d (md_fr d)).2.2 j k) (fun i h1 h2 => l7.2 i k (Or.inl h1)) hw.1.1]
          omega
      have T6 : TL h6 m d := ⟨by rw [y3.at (by omega)]; exact e52, hG, M6⟩
      have k6 : Ch (cLd m) h h6 := ((((k1.tr c2).tr (l6.mono (fun K i j x => Or.inl x))).tr c4).tr (r2.mono (fun K i j x => Or.inr (Or.inr (Or.inl x))))).tr (y3.mono (fun K i j x => Or.inr (Or.inr (Or.inr (Or.inr x)))))
      refine ⟨h6, ?_, T6.tm, fun _ => T6, k6⟩
      rw [hg1] at hq1 ⊢
      refine wp_M_isLaid ⟨hi3, fun _ => ⟨hi6, _, h1, hq1, fun hc => absurd hc (by decide), fun _ => ⟨hi3, hi3, fun _ => ⟨hi6, h3, ?_, hi3, ?_⟩, fun hc => ?_⟩⟩, fun hc => ?_⟩
      · rw [em, q3.1]; exact l1
      · rw [em]; exact r3 _ y1
      · rw [em, sI_eq] at hc; exact absurd rfl hc
      · rw [t1'] at hc; exact absurd rfl hc
    · have hg0 : gdI d (md_fr d) = 0 := by
        rcases gdI_01 d (md_fr d) with e | e
        · exact e
        · exact absurd (gdI_1.mp e) hG
      have c2 : Ch (cLd m) h1 (jm_sI h1 52 0 m 2) := Ch.sI (Or.inr (Or.inl ⟨rfl, rfl⟩))
      refine ⟨jm_sI h1 52 0 m 2, ?_, ⟨2, by rw [sI_eq]; rfl, Or.inr (Or.inl ⟨rfl, hG⟩)⟩, fun x => absurd x hG, k1.tr c2⟩
      rw [hg0] at hq1 ⊢
      refine wp_M_isLaid ⟨hi3, fun _ => ⟨hi6, _, h1, hq1, fun _ => ⟨hi3, hi3, fun hc => ?_, fun _ => ⟨hi3, fun hc => ?_, fun _ => ?_⟩⟩, fun hc => absurd rfl hc⟩, fun hc => ?_⟩
      · rw [em, sI_eq] at hc; exact absurd hc (by decide)
      · rw [em, sI_eq] at hc; exact absurd hc (by decide)
      · rw [em]; rfl
      · rw [t1'] at hc; exact absurd rfl hc
  · subst t2
    have hg0 : gdI d (md_fr d) = 0 := by
      rcases gdI_01 d (md_fr d) with e | e
      · exact e
      · exact absurd (gdI_1.mp e) t3
    refine ⟨h, wp_M_isLaid ⟨hi3, fun hc => ?_, fun _ => ⟨hi3, fun hc => ?_, fun _ => by rw [hg0]; rfl⟩⟩, ⟨2, t1, Or.inr (Or.inl ⟨rfl, t3⟩)⟩, fun x => absurd x t3, Ch.rf h⟩
    · rw [t1'] at hc; exact absurd hc (by decide)
    · rw [t1'] at hc; exact absurd hc (by decide)
  · subst t2
    have hg1 : gdI d (md_fr d) = 1 := gdI_1.mpr t3
    refine ⟨h, wp_M_isLaid ⟨hi3, fun hc => ?_, fun _ => ⟨hi3, fun _ => by rw [hg1]; rfl, fun hc => ?_⟩⟩, ⟨1, t1, Or.inr (Or.inr ⟨rfl, t3, t4⟩)⟩, fun _ => ⟨t1, t3, t4⟩, Ch.rf h⟩
    · rw [t1'] at hc; exact absurd hc (by decide)
    · rw [t1'] at hc; exact absurd rfl hc
