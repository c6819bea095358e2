/-! ===== the reference lays ===== -/
def cSU : Nat → Nat → Nat → Prop := fun K _ j => K = 45 ∨ K = 46 ∨ K = 47 ∨ (K = 8 ∧ 26 ≤ j ∧ j ≤ 28)
section SETS
variable {h : jm_H} {m : Nat} {d : MD} {g : Int}
theorem s_taskOf (v : vM h m d) (w : WFm d) (hm : m < 3) {j : Nat} (hj : j < md_jb d) : m_M_taskOf (zI m) (zI j) h (zI ((6 * m + md_jt d j : Nat) : Int)) h := by
  have w5 := w.2.2.2.2.1
  have e : (24 * zI (m : Int)) + zI (j : Int) = zI ((24 * m + j : Nat) : Int) := by rw [zl_24, zI_mul, zI_add]; congr 1
  refine wp_M_taskOf ⟨?_, ?_⟩
  · rw [e]; exact zI_in (by omega) (by omega) (by omega)
  · rw [e, zI_cn (by omega), (v.2.2.2.2.2.2 j hj).1, zl_6, zI_mul, zI_add]
    congr 3
theorem s_dueOf (v : vM h m d) (w : WFm d) (hm : m < 3) {j : Nat} (hj : j < md_jb d) : m_M_dueOf (zI m) (zI j) h (zI (md_du d j)) h := by
  have w5 := w.2.2.2.2.1
  have w4 := w.2.2.2.1
  have a := w.2.2.2.2.2.2.2.1 j hj
  have e : (24 * zI (m : Int)) + zI (j : Int) = zI ((24 * m + j : Nat) : Int) := by rw [zl_24, zI_mul, zI_add]; congr 1
  refine wp_M_dueOf ⟨?_, _, h, s_taskOf v w hm hj, ?_, ?_⟩
  · rw [e]; exact zI_in (by omega) (by omega) (by omega)
  · exact zI_in (by omega) (by omega) (by omega)
  · rw [e, zI_cn (by omega), zI_cn (by omega), (v.2.2.2.2.2.2 j hj).2, (v.2.2.2.2.2.1 _ a.1).2.2.2, zI_add]; rfl
theorem s_firstOf (v : vM h m d) (w : WFm d) (hm : m < 3) (g1 : 4 ≤ g) (g2 : g ≤ 96) {j : Nat} (hj : j < md_jb d) : m_M_firstOf (zI m) (zI j) (zI g) h (zI (md_fi d g j)) h := by
  have w5 := w.2.2.2.2.1
  have w3 := w.2.2.1
  have a := w.2.2.2.2.2.2.2.1 j hj
  have b := w.2.2.2.2.2.2.1 _ a.1
  have e : (24 * zI (m : Int)) + zI (j : Int) = zI ((24 * m + j : Nat) : Int) := by rw [zl_24, zI_mul, zI_add]; congr 1
  refine wp_M_firstOf ⟨?_, ?_, ?_⟩
  · rw [e]; exact zI_in (by omega) (by omega) (by omega)
  · rw [zl_0, zI_eq (by omega) (by omega) (by omega) (by omega)]; omega
  · rw [e, zI_cn (by omega), (v.2.2.2.2.2.2 j hj).2, zI_add, zl_1, zI_sub, zI_div (by omega) (by omega) (by omega) (by omega)]; rfl
theorem s_lastOf (v : vM h m d) (w : WFm d) (hm : m < 3) (g1 : 4 ≤ g) (g2 : g ≤ 96) {j : Nat} (hj : j < md_jb d) : m_M_lastOf (zI m) (zI j) (zI g) h (zI (md_la d g j)) h := by
  have bd := (md_bd w g1 g2).2.2 j hj
  refine wp_M_lastOf ⟨_, h, s_dueOf v w hm hj, ?_, ?_⟩
  · rw [zl_0, zI_eq (by omega) (by omega) (by omega) (by omega)]; omega
  · rw [zI_div (by omega) (by omega) (by omega) (by omega), zl_1, zI_sub]; rfl
theorem s_costsOf_4 (v : vM h m d) (w : WFm d) (hm : m < 3) : ∀ (e n : Nat) (s : Int), n + e = md_jb d → l_M_costsOf_4 (zI m) (zI s) (zI n) h (some (jm_i (zI (s + (sm (md_jb d) (md_c d) - sm n (md_c d))))), h) := by
  have w5 := w.2.2.2.2.1
  have w4 := w.2.2.2.1
  have hi : jm_in (zI (m : Int)) 3 := zI_in (by omega) (by omega) (by omega)
  intro e
  induction e with
  | zero =>
    intro n s en
    refine wp_M_costsOf_4 ⟨hi, fun _ => ?_, fun hc => ?_⟩
    · rw [show n = md_jb d by omega, Int.sub_self, Int.add_zero]
    · rw [zI_cn (by omega), v.2.2.2.2.1, zI_le (by omega) (by omega) (by omega) (by omega)] at hc; omega
  | succ e ih =>
    intro n s en
    have hn : n < md_jb d := by omega
    have a := w.2.2.2.2.2.2.2.1 n hn
    have g := ih (n + 1) (s + md_c d n) (by omega)
    rw [sm_s, show ∀ x y z : Int, s + x + (y - (z + x)) = s + (y - z) from fun x y z => by omega] at g
    refine wp_M_costsOf_4 ⟨hi, fun hc => ?_, fun _ => ⟨_, h, s_taskOf v w hm hn, zI_in (by omega) (by omega) (by omega), ?_⟩⟩
    · rw [zI_cn (by omega), v.2.2.2.2.1, zI_le (by omega) (by omega) (by omega) (by omega)] at hc; omega
    · rw [zI_cn (by omega), (v.2.2.2.2.2.1 _ a.1).2.2.1, zI_add, zl_1, zI_add]
      exact g
theorem s_costsOf (v : vM h m d) (w : WFm d) (hm : m < 3) : m_M_costsOf (zI m) h (zI (sm (md_jb d) (md_c d))) h := by
  have := s_costsOf_4 v w hm (md_jb d) 0 0 (by omega)
  rw [sm_0, Int.sub_zero, Int.zero_add] at this
  exact wp_M_costsOf this
theorem s_setsUp_32 (w : WFm d) (hm : m < 3) (g1 : 4 ≤ g) (g2 : g ≤ 96) : ∀ (e n : Nat) (h : jm_H), n + e = md_jb d → vM h m d → h.1 8 0 28 = zI (md_jb d) → (∀ j, j < n → h.1 45 0 j = zI (md_fi d g j) ∧ h.1 46 0 j = zI (md_la d g j) ∧ h.1 47 0 j = zI (md_c d j)) →
    ∃ h', l_M_setsUp_32 (zI m) (zI g) (zI n) h (none, h') ∧ Ch (fun K _ _ => K = 45 ∨ K = 46 ∨ K = 47) h h' ∧ (∀ j, j < md_jb d → h'.1 45 0 j = zI (md_fi d g j) ∧ h'.1 46 0 j = zI (md_la d g j) ∧ h'.1 47 0 j = zI (md_c d j)) := by
  have w5 := w.2.2.2.2.1
  have w4 := w.2.2.2.1
  intro e
  induction e with
  | zero =>
    intro n h en v l3 hn
    refine ⟨h, wp_M_setsUp_32 ⟨fun _ => rfl, fun hc => ?_⟩, Ch.rf h, fun j hj => hn j (by omega)⟩
    rw [l3, zI_le (by omega) (by omega) (by omega) (by omega)] at hc; omega
  | succ e ih =>
    intro n h en v l3 hn
    have hnj : n < md_jb d := by omega
    have a := w.2.2.2.2.2.2.2.1 n hnj
    have hi : jm_in (zI (n : Int)) 24 := zI_in (by omega) (by omega) (by omega)
    have e2 : ∀ (hh : jm_H) (K : Nat), vM hh m d → (K = 45 ∨ K = 46 ∨ K = 47) → ∀ x, vM (jm_sI hh K 0 n x) m d := fun hh K vh hK x => vh.chg (fun K' j hK' => sI_ne (by omega))
    have v1 := e2 h 45 v (by omega) (zI (md_fi d g n))
    have v2 := e2 _ 46 v1 (by omega) (zI (md_la d g n))
    have v3 := e2 _ 47 v2 (by omega) (zI (md_c d n))
    have c2 : Ch (fun K _ _ => K = 45 ∨ K = 46 ∨ K = 47) h (jm_sI (jm_sI (jm_sI h 45 0 n (zI (md_fi d g n))) 46 0 n (zI (md_la d g n))) 47 0 n (zI (md_c d n))) := ((Ch.sI (by omega)).tr (Ch.sI (by omega))).tr (Ch.sI (by omega))
    obtain ⟨h', r1, r2, r3⟩ := ih (n + 1) _ (by omega) v3 (by rw [c2.at (by omega)]; exact l3) (fun j hj => by
      by_cases e3 : j = n
      · subst e3
        refine ⟨?_, ?_, ?_⟩
        · rw [sI_ne (by omega), sI_ne (by omega), sI_eq]
        · rw [sI_ne (by omega), sI_eq]
        · rw [sI_eq]
      · rw [sI_ne (by omega), sI_ne (by omega), sI_ne (by omega)]
        rw [sI_ne (by omega), sI_ne (by omega), sI_ne (by omega)]
        rw [sI_ne (by omega), sI_ne (by omega), sI_ne (by omega)]
        exact hn j (by omega))
    refine ⟨h', wp_M_setsUp_32 ⟨fun hc => ?_, fun _ => ⟨zI (md_fi d g n), h, s_firstOf v w hm g1 g2 hnj, hi, zI (md_la d g n), jm_sI h 45 0 n (zI (md_fi d g n)), ?_, hi, zI ((6 * m + md_jt d n : Nat) : Int), jm_sI (jm_sI h 45 0 n (zI (md_fi d g n))) 46 0 n (zI (md_la d g n)), ?_, zI_in (by omega) (by omega) (by omega), hi, ?_⟩⟩, c2.tr r2, r3⟩
    · rw [l3, zI_le (by omega) (by omega) (by omega) (by omega)] at hc; omega
    · rw [zI_cn (by omega)]; exact s_lastOf v1 w hm g1 g2 hnj
    · rw [zI_cn (by omega)]; exact s_taskOf v2 w hm hnj
    · rw [zI_cn (by omega), zI_cn (by omega), (v2.2.2.2.2.2.1 _ a.1).2.2.1, zl_1, zI_add]
      exact r1
theorem s_setsUp (v : vM h m d) (w : WFm d) (hm : m < 3) (g1 : 4 ≤ g) (g2 : g ≤ 96) : ∃ h', m_M_setsUp (zI m) (zI g) h h' ∧ Ch cSU h h' ∧ MS h' (md_jb d) (md_F d g) (if 0 < g - md_rs d then g - md_rs d else 0) (md_fi d g) (md_la d g) (md_c d) := by
  have bd := md_bd w g1 g2
  have w5 := w.2.2.2.2.1
  have w3 := w.2.2.1
  have w2 := w.2.1
  have w1 := w.1
  have hi : jm_in (zI (m : Int)) 6 := zI_in (by omega) (by omega) (by omega)
  have hi3 : jm_in (zI (m : Int)) 3 := zI_in (by omega) (by omega) (by omega)
  obtain ⟨rm, erm⟩ : ∃ rm : Int, rm = if 0 < g - md_rs d then g - md_rs d else 0 := ⟨_, rfl⟩
  obtain ⟨h2, eh⟩ : ∃ h2, h2 = jm_sI (jm_sI (jm_sI h 8 0 26 (zI (md_F d g))) 8 0 27 (zI rm)) 8 0 28 (zI (md_jb d)) := ⟨_, rfl⟩
  have c2 : Ch cSU h h2 := by
    rw [eh]
    exact ((Ch.sI (Or.inr (Or.inr (Or.inr ⟨rfl, by omega, by omega⟩)))).tr (Ch.sI (Or.inr (Or.inr (Or.inr ⟨rfl, by omega, by omega⟩))))).tr (Ch.sI (Or.inr (Or.inr (Or.inr ⟨rfl, by omega, by omega⟩))))
  have v2 : vM h2 m d := v.chg (fun K j hK => c2.at (by unfold cSU; omega))
  have l1 : h2.1 8 0 27 = zI rm := by rw [eh, sI_ne (by omega), sI_eq]
  have l2 : h2.1 8 0 26 = zI (md_F d g) := by rw [eh, sI_ne (by omega), sI_ne (by omega), sI_eq]
  have l3 : h2.1 8 0 28 = zI (md_jb d) := by rw [eh, sI_eq]
  obtain ⟨h', q1, q2, q3⟩ := s_setsUp_32 w hm g1 g2 (md_jb d) 0 h2 (by omega) v2 l3 (fun j hj => by omega)
  rw [← erm]
  have g0 : ¬ zI g = 0 := by rw [zl_0, zI_eq (by omega) (by omega) (by omega) (by omega)]; omega
  refine ⟨h', wp_M_setsUp ⟨hi, g0, hi, fun hc => ⟨hi3, ?_⟩, fun hc => ⟨hi, hi3, ?_⟩⟩, c2.tr (q2.mono (fun K i j x => by unfold cSU; omega)), ⟨w5, bd.1, by split at erm <;> omega, ?_, ?_, ?_, fun j hj => ?_, fun j hj => ?_, fun j hj => ?_⟩⟩
  · rw [zI_cn (by omega), v.2.1, zI_le (by omega) (by omega) (by omega) (by omega)] at hc
    rw [if_neg (by omega)] at erm
    rw [zI_cn (by omega), v.2.2.2.1, v.2.2.2.2.1, zI_div (by omega) (by omega) (by omega) (by omega), ← bd.2.1]
    rw [eh, erm] at q1
    exact q1
  · rw [zI_cn (by omega), v.2.1, zI_le (by omega) (by omega) (by omega) (by omega)] at hc
    rw [if_pos (by omega)] at erm
    rw [zI_cn (by omega), v.2.2.2.1, v.2.2.2.2.1, v.2.1, zI_div (by omega) (by omega) (by omega) (by omega), zI_sub, ← bd.2.1]
    rw [eh, erm] at q1
    exact q1
  · rw [q2.at (by omega)]; exact l1
  · rw [q2.at (by omega)]; exact l2
  · rw [q2.at (by omega)]; exact l3
  · exact ⟨(q3 j hj).1, (bd.2.2 j hj).1⟩
  · exact ⟨(q3 j hj).2.1, (bd.2.2 j hj).2.1⟩
  · exact ⟨(q3 j hj).2.2, by have := (bd.2.2 j hj).2.2.1; omega⟩
end SETS
/-! ===== the greatest common divisor ===== -/
theorem gcd_step {x y : Nat} (hy : y ≠ 0) : Nat.gcd x y = Nat.gcd y (x % y) := by
  rw [Nat.gcd_comm x y, Nat.gcd_rec y x, Nat.gcd_comm]
theorem zmod (x y : Nat) : ((x : Int) % (y : Int)) = ((x % y : Nat) : Int) := (Int.natCast_emod x y).symm
theorem s_common_4 {h : jm_H} : ∀ (y x : Nat), x ≤ 10000 → y ≤ 10000 → l_M_common_4 (zI x) (zI y) h (some (jm_i (zI (Nat.gcd x y))), h) := by
  intro y
  induction y using Nat.strongRecOn with
  | _ y ih =>
    intro x hx hy
    by_cases h0 : y = 0
    · subst h0
      refine wp_M_common_4 ⟨fun _ => by rw [Nat.gcd_zero_right], fun hc => absurd rfl hc⟩
    · have hne : ¬ zI (y : Int) = 0 := by rw [zl_0, zI_eq (by omega) (by omega) (by omega) (by omega)]; omega
      refine wp_M_common_4 ⟨fun hc => absurd hc hne, fun _ => ⟨hne, ?_⟩⟩
      rw [zI_rem (by omega) (by omega) (by omega) (by omega), zmod, gcd_step h0]
      have := Nat.mod_lt x (show 0 < y by omega)
      exact ih (x % y) this y hy (by omega)
theorem s_common {h : jm_H} {x y : Nat} (hx : x ≤ 10000) (hy : y ≤ 10000) : m_M_common (zI x) (zI y) h (zI (Nat.gcd x y)) h := wp_M_common (s_common_4 y x hx hy)
theorem s_cdiv_6 {h : jm_H} : ∀ (y x n : Nat), x ≤ 10000 → n + y ≤ 63 → l_FR_commonDivisor_6 (zI x) (zI y) (zI n) h (some (jm_i (zI (Nat.gcd x y))), h) := by
  intro y
  induction y using Nat.strongRecOn with
  | _ y ih =>
    intro x n hx hn
    by_cases h0 : y = 0
    · subst h0
      refine wp_FR_commonDivisor_6 ⟨fun _ => by rw [Nat.gcd_zero_right], fun _ => ⟨fun _ => by rw [Nat.gcd_zero_right], fun hc => ?_⟩⟩
      rw [zl_0, zI_le (by omega) (by omega) (by omega) (by omega)] at hc; omega
    · have hne : ¬ zI (y : Int) = 0 := by rw [zl_0, zI_eq (by omega) (by omega) (by omega) (by omega)]; omega
      refine wp_FR_commonDivisor_6 ⟨fun hc => ?_, fun _ => ⟨fun hc => ?_, fun _ => ⟨hne, ?_⟩⟩⟩
      · rw [zl_64, zI_le (by omega) (by omega) (by omega) (by omega)] at hc; omega
      · rw [zl_0, zI_le (by omega) (by omega) (by omega) (by omega)] at hc; omega
      · rw [zI_rem (by omega) (by omega) (by omega) (by omega), zmod, gcd_step h0, zl_1, zI_add]
        have := Nat.mod_lt x (show 0 < y by omega)
        exact ih (x % y) this y (n + 1) (by omega) (by omega)
theorem s_cdiv {h : jm_H} {x y : Nat} (hx : x ≤ 10000) (hy : y ≤ 63) : m_FR_commonDivisor (zI x) (zI y) h (zI (Nat.gcd x y)) h := wp_FR_commonDivisor (s_cdiv_6 y x 0 hx (by omega))
/-! ===== reach ===== -/
def md_gc (d : MD) (g : Int) (t : Nat) : Nat := Nat.gcd g.toNat (md_pe d t).toNat
def md_re (d : MD) (g : Int) (t : Nat) : Int := if md_ph d t % (md_gc d g t : Int) = 0 then 2 * g - md_gc d g t else 2 * g - md_ph d t % (md_gc d g t : Int)
theorem md_gcb {d : MD} (w : WFm d) {g : Int} (g1 : 4 ≤ g) (g2 : g ≤ 96) {t : Nat} (ht : t < md_tk d) : 1 ≤ md_gc d g t ∧ md_gc d g t ≤ 60 := by
  have a := w.2.2.2.2.2.2.1 t ht
  have h1 : 0 < md_gc d g t := Nat.gcd_pos_of_pos_left _ (by omega)
  have h2 : md_gc d g t ≤ (md_pe d t).toNat := Nat.gcd_le_right _ (by omega)
  omega
theorem s_reachF {h : jm_H} {q : Nat} {d : MD} {g : Int} (v : vF h q d) (w : WFm d) (g1 : 4 ≤ g) (g2 : g ≤ 96) {t : Nat} (ht : t < md_tk d) : m_Mode_reach q (zI t) (zI g) h (zI (md_re d g t)) h := by
  have w4 := w.2.2.2.1
  have a := w.2.2.2.2.2.2.1 t ht
  have b := v.2.2.2.2.2.1 t ht
  have gb := md_gcb w g1 g2 ht
  have hi : jm_in (zI (t : Int)) 6 := zI_in (by omega) (by omega) (by omega)
  have hg := s_cdiv (h := h) (x := g.toNat) (y := (md_pe d t).toNat) (by omega) (by omega)
  rw [Int.toNat_of_nonneg (by omega), Int.toNat_of_nonneg (by omega)] at hg
  refine wp_Mode_reach ⟨hi, zI (md_gc d g t), h, ?_, fun hc => ?_, fun hc => ⟨hi, ?_, fun hc2 => ?_, fun hc2 => ?_⟩⟩
  · rw [zI_cn (by omega), b.2.1]; exact hg
  · rw [zl_0, zI_le (by omega) (by omega) (by omega) (by omega)] at hc; omega
  · rw [zl_0, zI_eq (by omega) (by omega) (by omega) (by omega)]; omega
  · rw [zI_cn (by omega), b.1, zI_rem (by omega) (by omega) (by omega) (by omega), zl_0, zI_eq (by have := Int.emod_nonneg (md_ph d t) (show (md_gc d g t : Int) ≠ 0 by omega); omega) (by have := Int.emod_lt_of_pos (md_ph d t) (show (0 : Int) < md_gc d g t by omega); omega) (by omega) (by omega)] at hc2
    unfold md_re
    rw [if_pos hc2, zl_2, zI_mul, zI_sub]
  · rw [zI_cn (by omega), b.1, zI_rem (by omega) (by omega) (by omega) (by omega), zl_0, zI_eq (by have := Int.emod_nonneg (md_ph d t) (show (md_gc d g t : Int) ≠ 0 by omega); omega) (by have := Int.emod_lt_of_pos (md_ph d t) (show (0 : Int) < md_gc d g t by omega); omega) (by omega) (by omega)] at hc2
    unfold md_re
    rw [if_neg hc2, zI_cn (by omega), b.1, zI_rem (by omega) (by omega) (by omega) (by omega), zl_2, zI_mul, zI_sub]
theorem s_reachM {h : jm_H} {m : Nat} {d : MD} {g : Int} (v : vM h m d) (w : WFm d) (hm : m < 3) (g1 : 4 ≤ g) (g2 : g ≤ 96) {t : Nat} (ht : t < md_tk d) : m_M_reach (zI m) (zI t) (zI g) h (zI (md_re d g t)) h := by
  have w4 := w.2.2.2.1
  have a := w.2.2.2.2.2.2.1 t ht
  have b := v.2.2.2.2.2.1 t ht
  have gb := md_gcb w g1 g2 ht
  have e : (6 * zI (m : Int)) + zI (t : Int) = zI ((6 * m + t : Nat) : Int) := by rw [zl_6, zI_mul, zI_add]; congr 1
  have hi : jm_in ((6 * zI (m : Int)) + zI (t : Int)) 36 := by rw [e]; exact zI_in (by omega) (by omega) (by omega)
  have hg := s_common (h := h) (x := g.toNat) (y := (md_pe d t).toNat) (by omega) (by omega)
  rw [Int.toNat_of_nonneg (by omega), Int.toNat_of_nonneg (by omega)] at hg
  refine wp_M_reach ⟨hi, zI (md_gc d g t), h, ?_, hi, ?_, fun hc2 => ?_, fun hc2 => ?_⟩
  · rw [e, zI_cn (by omega), b.2.1]; exact hg
  · rw [zl_0, zI_eq (by omega) (by omega) (by omega) (by omega)]; omega
  · rw [e, zI_cn (by omega), b.1, zI_rem (by omega) (by omega) (by omega) (by omega), zl_0, zI_eq (by have := Int.emod_nonneg (md_ph d t) (show (md_gc d g t : Int) ≠ 0 by omega); omega) (by have := Int.emod_lt_of_pos (md_ph d t) (show (0 : Int) < md_gc d g t by omega); omega) (by omega) (by omega)] at hc2
    unfold md_re
    rw [if_pos hc2, zl_2, zI_mul, zI_sub]
  · rw [e, zI_cn (by omega), b.1, zI_rem (by omega) (by omega) (by omega) (by omega), zl_0, zI_eq (by have := Int.emod_nonneg (md_ph d t) (show (md_gc d g t : Int) ≠ 0 by omega); omega) (by have := Int.emod_lt_of_pos (md_ph d t) (show (0 : Int) < md_gc d g t by omega); omega) (by omega) (by omega)] at hc2
    unfold md_re
    rw [if_neg hc2, e, zI_cn (by omega), b.1, zI_rem (by omega) (by omega) (by omega) (by omega), zl_2, zI_mul, zI_sub]
