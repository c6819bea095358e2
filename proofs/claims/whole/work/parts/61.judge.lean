/-! ===== judged ===== -/
def jB (d : MD) (g : Int) (t : Nat) : Bool := decide (md_rm d g < md_co d t)
def jBj (d : MD) (g : Int) (j : Nat) : Bool := decide (md_rm d g < md_c d j)
def jC (d : MD) (g : Int) (t : Nat) : Bool := decide (md_sp d t < md_re d g t)
def jDj (d : MD) (g : Int) (j : Nat) : Bool := decide (md_la d g j < md_fi d g j)
noncomputable def jE (d : MD) (g : Int) : Bool := @decide (¬ md_ov d g 0) (Classical.propDecidable _)
theorem jE_iff {d : MD} {g : Int} : jE d g = true ↔ ¬ md_ov d g 0 := by
  unfold jE
  exact @decide_eq_true_iff _ (Classical.propDecidable _)
noncomputable def jd (d : MD) (g : Int) : Int32 := flg (decide (¬ md_rd d % g = 0)) (anyTo (jB d g) (md_tk d)) (anyTo (jC d g) (md_tk d)) (anyTo (jDj d g) (md_jb d)) (jE d g)
noncomputable def gdB (d : MD) (g : Int) : Bool := @decide (gd d g) (Classical.propDecidable _)
theorem gdB_iff {d : MD} {g : Int} : gdB d g = true ↔ gd d g := by
  unfold gdB
  exact @decide_eq_true_iff _ (Classical.propDecidable _)
noncomputable def gdI (d : MD) (g : Int) : Int := if gdB d g = true then 1 else 0
theorem gdI_of {d : MD} {g b : Int} (h1 : b = 0 ∨ b = 1) (h2 : b = 1 ↔ gd d g) : b = gdI d g := by
  unfold gdI
  by_cases hg : gd d g
  · rw [if_pos (gdB_iff.mpr hg)]; exact h2.mpr hg
  · rw [if_neg (fun x => hg (gdB_iff.mp x))]
    rcases h1 with h1 | h1
    · exact h1
    · exact absurd (h2.mp h1) hg
theorem gdI_01 (d : MD) (g : Int) : gdI d g = 0 ∨ gdI d g = 1 := by
  unfold gdI
  split
  · exact Or.inr rfl
  · exact Or.inl rfl
theorem gdI_1 {d : MD} {g : Int} : gdI d g = 1 ↔ gd d g := by
  unfold gdI
  by_cases hg : gd d g
  · rw [if_pos (gdB_iff.mpr hg)]; exact ⟨fun _ => hg, fun _ => rfl⟩
  · rw [if_neg (fun x => hg (gdB_iff.mp x))]; exact ⟨fun x => absurd x (by decide), fun x => absurd x hg⟩
theorem flg_z : flg false false false false false = 0 := by decide
theorem flg_o : flg true false false false false = 1 := by decide
theorem md_reb {d : MD} (w : WFm d) {g : Int} (g1 : 4 ≤ g) (g2 : g ≤ 96) {t : Nat} (ht : t < md_tk d) : -60 ≤ md_re d g t ∧ md_re d g t ≤ 192 := by
  have gb := md_gcb w g1 g2 ht
  have b1 := Int.emod_nonneg (md_ph d t) (show (md_gc d g t : Int) ≠ 0 by omega)
  have b2 := Int.emod_lt_of_pos (md_ph d t) (show (0 : Int) < md_gc d g t by omega)
  unfold md_re
  split <;> omega
theorem anyTo_f {P : Nat → Bool} {n : Nat} : anyTo P n = false ↔ ∀ i, i < n → P i = false := by
  constructor
  · intro h i hi
    cases hp : P i with
    | false => rfl
    | true => rw [anyTo_iff.mpr ⟨i, hi, hp⟩] at h; cases h
  · intro h
    cases ha : anyTo P n with
    | false => rfl
    | true =>
      obtain ⟨i, h1, h2⟩ := anyTo_iff.mp ha
      rw [h i h1] at h2; cases h2
theorem jd_gd {d : MD} {g : Int} : (jd d g &&& 25 = 0) ↔ gd d g := by
  unfold jd gd
  rw [flg_25, decide_eq_false_iff_not, Classical.not_not, anyTo_f]
  refine and_congr Iff.rfl (and_congr ?_ ?_)
  · constructor
    · intro h j hj
      have := of_decide_eq_false (h j hj)
      omega
    · intro h j hj
      exact decide_eq_false (by have := h j hj; omega)
  · constructor
    · intro h
      exact Classical.byContradiction (fun hn => by rw [jE_iff.mpr hn] at h; cases h)
    · intro h
      cases he : jE d g with
      | false => rfl
      | true => exact absurd h (jE_iff.mp he)
theorem jB_j {d : MD} (w : WFm d) (g : Int) : anyTo (jBj d g) (md_jb d) = anyTo (jB d g) (md_tk d) := by
  have key : anyTo (jBj d g) (md_jb d) = true ↔ anyTo (jB d g) (md_tk d) = true := by
    rw [anyTo_iff, anyTo_iff]
    constructor
    · rintro ⟨j, h1, h2⟩
      exact ⟨md_jt d j, (w.2.2.2.2.2.2.2.1 j h1).1, h2⟩
    · rintro ⟨t, h1, h2⟩
      obtain ⟨j, j1, j2⟩ := w.2.2.2.2.2.2.2.2.2 t h1
      exact ⟨j, j1, by unfold jBj md_c; rw [j2]; exact h2⟩
  cases h1 : anyTo (jBj d g) (md_jb d) with
  | true => exact (key.mp h1).symm
  | false =>
    cases h2 : anyTo (jB d g) (md_tk d) with
    | false => rfl
    | true => rw [key.mpr h2] at h1; cases h1
theorem s_judg_20 {q : Nat} {h : jm_H} {d : MD} {g : Int} (v : vF h q d) (w : WFm d) (g1 : 4 ≤ g) (g2 : g ≤ 96) (A : FA h 3 d g) (a : Bool) : ∀ (e n : Nat), n + e = md_tk d → ∃ h', l_FR_judgement_20 q (zI g) 3 (flg a (anyTo (jB d g) n) (anyTo (jC d g) n) false false) (zI n) h (some (jm_i (flg a (anyTo (jB d g) (md_tk d)) (anyTo (jC d g) (md_tk d)) (anyTo (jDj d g) (md_jb d)) (jE d g))), h') ∧ Ch cT h h' := by
  have w4 := w.2.2.2.1
  intro e
  induction e with
  | zero =>
    intro n en
    have en : n = md_tk d := by omega
    subst en
    obtain ⟨b, b1, b2, b3⟩ := s_hasEmpty A.1
    obtain ⟨h', x, x1, x2, x3, x4, x5⟩ := s_fits A.1
    have eD : anyTo (jDj d g) (md_jb d) = decide (b = 1) := by
      rcases b1 with rfl | rfl
      · exact anyTo_f.mpr (fun j hj => decide_eq_false (by have := b2.mp rfl j hj; omega))
      · cases hh : anyTo (jDj d g) (md_jb d) with
        | true => rfl
        | false =>
          have := b2.mpr (fun j hj => by have := of_decide_eq_false (anyTo_f.mp hh j hj); omega)
          cases this
    have eE : jE d g = decide (¬ x = 0) := by
      by_cases x0 : x = 0
      · subst x0
        cases hh : jE d g with
        | false => rfl
        | true => exact absurd x1 (jE_iff.mp hh)
      · rw [decide_eq_true x0]
        exact jE_iff.mpr (fun hn => x0 (isOv.uq x1 hn))
    rw [eD, eE]
    refine ⟨h', wp_FR_judgement_20 ⟨fun _ => ⟨_, h, b3, fun hc => ⟨_, h', x4, fun hc2 => ?_, fun hc2 => ?_⟩, fun hc => ⟨_, h', x4, fun hc2 => ?_, fun hc2 => ?_⟩⟩, fun hc => ?_⟩, cT_D x5⟩
    · by_cases x0 : x = 0
      · rw [if_pos x0] at hc2; exact absurd hc2 (by decide)
      · rcases b1 with rfl | rfl
        · rw [flg_16, decide_eq_true x0]; rfl
        · exact absurd hc (by decide)
    · by_cases x0 : x = 0
      · rcases b1 with rfl | rfl
        · subst x0; rfl
        · exact absurd hc (by decide)
      · rw [if_neg x0] at hc2; exact absurd rfl hc2
    · by_cases x0 : x = 0
      · rw [if_pos x0] at hc2; exact absurd hc2 (by decide)
      · rcases b1 with rfl | rfl
        · exact absurd rfl hc
        · rw [flg_8, flg_16, decide_eq_true x0]; rfl
    · by_cases x0 : x = 0
      · rcases b1 with rfl | rfl
        · exact absurd rfl hc
        · rw [flg_8]; subst x0; rfl
      · rw [if_neg x0] at hc2; exact absurd rfl hc2
    · rw [v.2.2.1, zI_le (by omega) (by omega) (by omega) (by omega)] at hc; omega
  | succ e ih =>
    intro n en
    have ht : n < md_tk d := by omega
    have hi : jm_in (zI (n : Int)) 6 := zI_in (by omega) (by omega) (by omega)
    have a1 := w.2.2.2.2.2.2.1 n ht
    have vt := v.2.2.2.2.2.1 n ht
    have rb := md_reb w g1 g2 ht
    have rmb := md_rmb w g1 g2
    have hr := s_reachF v w g1 g2 ht
    have f1 := A.1.2.2.2.1
    obtain ⟨h', q1, q2⟩ := ih (n + 1) (by omega)
    have key : ∀ X Y : Bool, jB d g n = X → jC d g n = Y → l_FR_judgement_20 q (zI g) 3 (flg a (anyTo (jB d g) n || X) (anyTo (jC d g) n || Y) false false) (zI n + 1) h (some (jm_i (flg a (anyTo (jB d g) (md_tk d)) (anyTo (jC d g) (md_tk d)) (anyTo (jDj d g) (md_jb d)) (jE d g))), h') := by
      intro X Y e1 e2
      rw [← e1, ← e2, zl_1, zI_add]; exact q1
    refine ⟨h', wp_FR_judgement_20 ⟨fun hc => ?_, fun _ => ⟨hi, fun hc => ⟨_, h, hr, hi, fun hc2 => ?_, fun hc2 => ?_⟩, fun hc => ⟨_, h, hr, hi, fun hc2 => ?_, fun hc2 => ?_⟩⟩⟩, q2⟩
    · rw [v.2.2.1, zI_le (by omega) (by omega) (by omega) (by omega)] at hc; omega
    · rw [zI_cn (by omega), vt.2.2.1, f1, zI_le (by omega) (by omega) (by omega) (by omega)] at hc
      rw [zI_cn (by omega), vt.2.2.2, zI_le (by omega) (by omega) (by omega) (by omega)] at hc2
      have := key false false (decide_eq_false (by omega)) (decide_eq_false (by omega))
      rw [Bool.or_false, Bool.or_false] at this; exact this
    · rw [zI_cn (by omega), vt.2.2.1, f1, zI_le (by omega) (by omega) (by omega) (by omega)] at hc
      rw [zI_cn (by omega), vt.2.2.2, zI_le (by omega) (by omega) (by omega) (by omega)] at hc2
      have := key false true (decide_eq_false (by omega)) (decide_eq_true (by omega))
      rw [Bool.or_false, Bool.or_true] at this; rw [flg_4]; exact this
    · rw [zI_cn (by omega), vt.2.2.1, f1, zI_le (by omega) (by omega) (by omega) (by omega)] at hc
      rw [zI_cn (by omega), vt.2.2.2, zI_le (by omega) (by omega) (by omega) (by omega)] at hc2
      have := key true false (decide_eq_true (by omega)) (decide_eq_false (by omega))
      rw [Bool.or_true, Bool.or_false] at this; rw [flg_2]; exact this
    · rw [zI_cn (by omega), vt.2.2.1, f1, zI_le (by omega) (by omega) (by omega) (by omega)] at hc
      rw [zI_cn (by omega), vt.2.2.2, zI_le (by omega) (by omega) (by omega) (by omega)] at hc2
      have := key true true (decide_eq_true (by omega)) (decide_eq_true (by omega))
      rw [Bool.or_true, Bool.or_true] at this; rw [flg_2, flg_4]; exact this
theorem s_judgement {q : Nat} {h : jm_H} {d : MD} {g : Int} (v : vF h q d) (w : WFm d) (g1 : 4 ≤ g) (g2 : g ≤ 96) : ∃ h', m_FR_judgement q (zI g) h (jd d g) h' ∧ Ch cT h h' := by
  obtain ⟨h1, a1, a2, a3⟩ := s_layA (f := 3) v w g1 g2
  have v1 := v.cT (cT_L a2)
  have hr := s_inRound v1 w g1 g2
  obtain ⟨h', q1, q2⟩ := s_judg_20 v1 w g1 g2 a3 (decide (¬ md_rd d % g = 0)) (md_tk d) 0 (by omega)
  refine ⟨h', wp_FR_judgement ⟨h1, ?_, _, h1, hr, fun hc => ?_, fun hc => ?_⟩, (cT_L a2).tr q2⟩
  · rw [v.2.1]; exact a1
  · by_cases r0 : md_rd d % g = 0
    · rw [if_pos r0] at hc; exact absurd hc (by decide)
    · rw [← flg_o]; rw [decide_eq_true r0] at q1
      unfold jd; rw [decide_eq_true r0]; exact q1
  · by_cases r0 : md_rd d % g = 0
    · rw [← flg_z]; rw [decide_eq_false (fun x => x r0)] at q1
      unfold jd; rw [decide_eq_false (fun x => x r0)]; exact q1
    · rw [if_neg r0] at hc; exact absurd rfl hc
/-! ===== judged by the reference ===== -/
def cMs : Nat → Nat → Nat → Prop := fun K _ j => (45 ≤ K ∧ K ≤ 51) ∨ (K = 8 ∧ ((26 ≤ j ∧ j ≤ 28) ∨ j = 35 ∨ (44 ≤ j ∧ j ≤ 48)))
theorem vM.ms {h h' : jm_H} {m : Nat} {d : MD} (v : vM h m d) (a : Ch cMs h h') : vM h' m d := v.chg (fun K j hK => a.at (by unfold cMs; omega))
theorem cMs_48 {h h' : jm_H} (a : Ch c48 h h') : Ch cMs h h' := a.mono (fun K i j x => by unfold c48 at x; unfold cMs; omega)
theorem cMs_SU {h h' : jm_H} (a : Ch cSU h h') : Ch cMs h h' := a.mono (fun K i j x => by unfold cSU at x; unfold cMs; omega)
/-- what the reference has when it has laid -/
def SUp (h : jm_H) (m : Nat) (d : MD) (g : Int) : Prop := MS h (md_jb d) (md_F d g) (md_rm d g) (md_fi d g) (md_la d g) (md_c d) ∧ vM h m d
theorem s_setsUpA {h : jm_H} {m : Nat} {d : MD} {g : Int} (v : vM h m d) (w : WFm d) (hm : m < 3) (g1 : 4 ≤ g) (g2 : g ≤ 96) : ∃ h', m_M_setsUp (zI m) (zI g) h h' ∧ Ch cMs h h' ∧ SUp h' m d g := by
  obtain ⟨h', a1, a2, a3⟩ := s_setsUp v w hm g1 g2
  exact ⟨h', a1, cMs_SU a2, a3, v.ms (cMs_SU a2)⟩
theorem s_judgd_53 {m : Nat} {h : jm_H} {d : MD} {g : Int} (S : SUp h m d g) (w : WFm d) (hm : m < 3) (g1 : 4 ≤ g) (g2 : g ≤ 96) (a b c : Bool) : ∀ (e n : Nat), n + e = md_tk d → ∃ h', l_M_judged_53 (zI m) (zI g) (flg a b (anyTo (jC d g) n) c false) (zI n) h (some (jm_i (flg a b (anyTo (jC d g) (md_tk d)) c (jE d g))), h') ∧ Ch cMs h h' := by
  have w4 := w.2.2.2.1
  have v := S.2
  have hi : jm_in (zI (m : Int)) 6 := zI_in (by omega) (by omega) (by omega)
  intro e
  induction e with
  | zero =>
    intro n en
    have en : n = md_tk d := by omega
    subst en
    obtain ⟨h', x, x1, x2, x3, x4, x5⟩ := s_overAll S.1
    refine ⟨h', wp_M_judged_53 ⟨hi, fun _ => ⟨_, h', x1, fun hc => ?_, fun hc => ?_⟩, fun hc => ?_⟩, cMs_48 x2⟩
    · rw [zl_0, zI_le (by omega) (by omega) (by omega) (by omega)] at hc
      have : jE d g = false := by
        cases hh : jE d g with
        | false => rfl
        | true => exact absurd (show md_ov d g 0 by rw [show (0 : Int) = x by omega]; exact x3) (jE_iff.mp hh)
      rw [this, flg_0]
    · rw [zl_0, zI_le (by omega) (by omega) (by omega) (by omega)] at hc
      have : jE d g = true := jE_iff.mpr (fun hn => by have := isOv.uq x3 hn; omega)
      rw [this, flg_16]
    · rw [zI_cn (by omega), v.2.2.1, zI_le (by omega) (by omega) (by omega) (by omega)] at hc; omega
  | succ e ih =>
    intro n en
    have ht : n < md_tk d := by omega
    have a1 := w.2.2.2.2.2.2.1 n ht
    have vt := v.2.2.2.2.2.1 n ht
    have rb := md_reb w g1 g2 ht
    have hr := s_reachM v w hm g1 g2 ht
    have e6 : (6 * zI (m : Int)) + zI (n : Int) = zI ((6 * m + n : Nat) : Int) := by rw [zl_6, zI_mul, zI_add]; congr 1
    obtain ⟨h', q1, q2⟩ := ih (n + 1) (by omega)
    have key : ∀ Y : Bool, jC d g n = Y → l_M_judged_53 (zI m) (zI g) (flg a b (anyTo (jC d g) n || Y) c false) (zI n + 1) h (some (jm_i (flg a b (anyTo (jC d g) (md_tk d)) c (jE d g))), h') := by
      intro Y e2
      rw [← e2, zl_1, zI_add]; exact q1
    refine ⟨h', wp_M_judged_53 ⟨hi, fun hc => ?_, fun _ => ⟨_, h, hr, ?_, fun hc => ?_, fun hc => ?_⟩⟩, q2⟩
    · rw [zI_cn (by omega), v.2.2.1, zI_le (by omega) (by omega) (by omega) (by omega)] at hc; omega
    · rw [e6]; exact zI_in (by omega) (by omega) (by omega)
    · rw [e6, zI_cn (by omega), vt.2.2.2, zI_le (by omega) (by omega) (by omega) (by omega)] at hc
      have := key false (decide_eq_false (by omega))
      rw [Bool.or_false] at this; rw [flg_0]; exact this
    · rw [e6, zI_cn (by omega), vt.2.2.2, zI_le (by omega) (by omega) (by omega) (by omega)] at hc
      have := key true (decide_eq_true (by omega))
      rw [Bool.or_true] at this; rw [flg_4]; exact this
theorem s_judgd_17 {m : Nat} {h : jm_H} {d : MD} {g : Int} (S : SUp h m d g) (w : WFm d) (hm : m < 3) (g1 : 4 ≤ g) (g2 : g ≤ 96) (a : Bool) : ∀ (e n : Nat), n + e = md_jb d → ∃ h', l_M_judged_17 (zI m) (zI g) (flg a (anyTo (jBj d g) n) false (anyTo (jDj d g) n) false) (zI n) h (some (jm_i (flg a (anyTo (jB d g) (md_tk d)) (anyTo (jC d g) (md_tk d)) (anyTo (jDj d g) (md_jb d)) (jE d g))), h') ∧ Ch cMs h h' := by
  obtain ⟨s1, s2, s3, s4, s5, s6, s7, s8, s9⟩ := S.1
  intro e
  induction e with
  | zero =>
    intro n en
    have en : n = md_jb d := by omega
    subst en
    obtain ⟨h', q1, q2⟩ := s_judgd_53 S w hm g1 g2 a (anyTo (jBj d g) (md_jb d)) (anyTo (jDj d g) (md_jb d)) (md_tk d) 0 (by omega)
    rw [jB_j w g] at q1 ⊢
    refine ⟨h', wp_M_judged_17 ⟨fun _ => q1, fun hc => ?_⟩, q2⟩
    rw [s6, zI_le (by omega) (by omega) (by omega) (by omega)] at hc; omega
  | succ e ih =>
    intro n en
    have hj : n < md_jb d := by omega
    have hi : jm_in (zI (n : Int)) 24 := zI_in (by omega) (by omega) (by omega)
    have b1 := s7 n hj
    have b2 := s8 n hj
    have b3 := s9 n hj
    have e1 : h.1 45 0 (zI (n : Int)).toNatClampNeg = zI (md_fi d g n) := by rw [zI_cn (by omega)]; exact b1.1
    have e2 : h.1 46 0 (zI (n : Int)).toNatClampNeg = zI (md_la d g n) := by rw [zI_cn (by omega)]; exact b2.1
    have e3 : h.1 47 0 (zI (n : Int)).toNatClampNeg = zI (md_c d n) := by rw [zI_cn (by omega)]; exact b3.1
    obtain ⟨h', q1, q2⟩ := ih (n + 1) (by omega)
    have key : ∀ X Y : Bool, jBj d g n = X → jDj d g n = Y → l_M_judged_17 (zI m) (zI g) (flg a (anyTo (jBj d g) n || X) false (anyTo (jDj d g) n || Y) false) (zI n + 1) h (some (jm_i (flg a (anyTo (jB d g) (md_tk d)) (anyTo (jC d g) (md_tk d)) (anyTo (jDj d g) (md_jb d)) (jE d g))), h') := by
      intro X Y e1 e2
      rw [← e1, ← e2, zl_1, zI_add]; exact q1
    refine ⟨h', wp_M_judged_17 ⟨fun hc => ?_, fun _ => ⟨hi, fun hc => ⟨hi, hi, fun hc2 => ?_, fun hc2 => ?_⟩, fun hc => ⟨hi, hi, fun hc2 => ?_, fun hc2 => ?_⟩⟩⟩, q2⟩
    · rw [s6, zI_le (by omega) (by omega) (by omega) (by omega)] at hc; omega
    · rw [e3, s4, zI_le (by omega) (by omega) (by omega) (by omega)] at hc
      rw [e1, e2, zI_le (by omega) (by omega) (by omega) (by omega)] at hc2
      have := key false false (decide_eq_false (by omega)) (decide_eq_false (by omega))
      rw [Bool.or_false, Bool.or_false] at this; rw [flg_0, flg_0]; exact this
    · rw [e3, s4, zI_le (by omega) (by omega) (by omega) (by omega)] at hc
      rw [e1, e2, zI_le (by omega) (by omega) (by omega) (by omega)] at hc2
      have := key false true (decide_eq_false (by omega)) (decide_eq_true (by omega))
      rw [Bool.or_false, Bool.or_true] at this; rw [flg_0, flg_8]; exact this
    · rw [e3, s4, zI_le (by omega) (by omega) (by omega) (by omega)] at hc
      rw [e1, e2, zI_le (by omega) (by omega) (by omega) (by omega)] at hc2
      have := key true false (decide_eq_true (by omega)) (decide_eq_false (by omega))
      rw [Bool.or_true, Bool.or_false] at this; rw [flg_2, flg_0]; exact this
    · rw [e3, s4, zI_le (by omega) (by omega) (by omega) (by omega)] at hc
      rw [e1, e2, zI_le (by omega) (by omega) (by omega) (by omega)] at hc2
      have := key true true (decide_eq_true (by omega)) (decide_eq_true (by omega))
      rw [Bool.or_true, Bool.or_true] at this; rw [flg_2, flg_8]; exact this
theorem s_judged {m : Nat} {h : jm_H} {d : MD} {g : Int} (v : vM h m d) (w : WFm d) (hm : m < 3) (g1 : 4 ≤ g) (g2 : g ≤ 96) : ∃ h', m_M_judged (zI m) (zI g) h (jd d g) h' ∧ Ch cMs h h' ∧ vM h' m d := by
  have w3 := w.2.2.1
  have b1 := Int.emod_nonneg (md_rd d) (show g ≠ 0 by omega)
  have b2 := Int.emod_lt_of_pos (md_rd d) (show 0 < g by omega)
  obtain ⟨h1, a1, a2, a3⟩ := s_setsUpA v w hm g1 g2
  obtain ⟨h', q1, q2⟩ := s_judgd_17 a3 w hm g1 g2 (decide (¬ md_rd d % g = 0)) (md_jb d) 0 (by omega)
  refine ⟨h', wp_M_judged ⟨h1, a1, zI_in (by omega) (by omega) (by omega), ?_, fun hc => ?_, fun hc => ?_⟩, a2.tr q2, (v.ms a2).ms q2⟩
  · rw [zl_0, zI_eq (by omega) (by omega) (by omega) (by omega)]; omega
  · rw [zI_cn (by omega), a3.2.2.2.2.1, zI_rem (by omega) (by omega) (by omega) (by omega), zl_0, zI_eq (by omega) (by omega) (by omega) (by omega)] at hc
    rw [decide_eq_false (fun x => x hc)] at q1
    unfold jd; rw [decide_eq_false (fun x => x hc), ← flg_z]; exact q1
  · rw [zI_cn (by omega), a3.2.2.2.2.1, zI_rem (by omega) (by omega) (by omega) (by omega), zl_0, zI_eq (by omega) (by omega) (by omega) (by omega)] at hc
    rw [decide_eq_true hc] at q1
    unfold jd; rw [decide_eq_true hc, ← flg_o]; exact q1
theorem s_isGoodM {m : Nat} {h : jm_H} {d : MD} {g : Int} (v : vM h m d) (w : WFm d) (hm : m < 3) (g1 : 4 ≤ g) (g2 : g ≤ 96) : ∃ h', m_M_isGood (zI m) (zI g) h (zI (gdI d g)) h' ∧ Ch cMs h h' ∧ vM h' m d := by
  obtain ⟨h', q1, q2, q3⟩ := s_judged v w hm g1 g2
  refine ⟨h', wp_M_isGood ⟨_, h', q1, fun hc => ?_, fun hc => ?_⟩, q2, q3⟩
  · rw [gdI_1.mpr (jd_gd.mp hc)]; rfl
  · have : gdI d g = 0 := by
      rcases gdI_01 d g with e | e
      · exact e
      · exact absurd (jd_gd.mpr (gdI_1.mp e)) hc
    rw [this]; rfl
/-! ===== how many lengths are good, and which ===== -/
noncomputable def gsum (d : MD) : Nat → Int → Int
  | 0, _ => 0
  | e + 1, g => gdI d g + gsum d e (g + 1)
noncomputable def gnth (d : MD) : Nat → Int → Int → Int
  | 0, _, _ => -1
  | e + 1, g, i => if gdI d g = 0 then gnth d e (g + 1) i else if i = 0 then g else gnth d e (g + 1) (i - 1)
theorem gnth_neg (d : MD) : ∀ (e : Nat) (g i : Int), i < 0 → gnth d e g i = -1 := by
  intro e
  induction e with
  | zero => intro g i _; rfl
  | succ e ih =>
    intro g i hi
    rw [gnth]
    split
    · exact ih _ _ hi
    · rw [if_neg (by omega)]; exact ih _ _ (by omega)
theorem gnth_b (d : MD) : ∀ (e : Nat) (g i : Int), 0 ≤ g → gnth d e g i = -1 ∨ (g ≤ gnth d e g i ∧ gnth d e g i < g + e) := by
  intro e
  induction e with
  | zero => intro g i _; exact Or.inl rfl
  | succ e ih =>
    intro g i hg
    rw [gnth]
    split
    · rcases ih (g + 1) i (by omega) with x | x
      · exact Or.inl x
      · exact Or.inr (by omega)
    · split
      · exact Or.inr (by omega)
      · rcases ih (g + 1) (i - 1) (by omega) with x | x
        · exact Or.inl x
        · exact Or.inr (by omega)
section GOODS
variable {d : MD} {m p : Nat}
theorem s_goods_12 (w : WFm d) (hm : m < 3) : ∀ (e : Nat) (g s : Int) (h : jm_H), g + e = 97 → 4 ≤ g → h.2.1 7 0 1 = p → vF h (3 * p + m) d → ∃ h', l_FR_goods_12 (zI m) (zI s) (zI g) h (some (jm_i (zI (s + gsum d e g))), jm_sI h' 7 0 8 0) ∧ Ch cT h h' := by
  intro e
  induction e with
  | zero =>
    intro g s h eg g4 hp v
    refine ⟨h, wp_FR_goods_12 ⟨fun _ => ⟨_, _, wp_FR_answered rfl, ?_⟩, fun hc => ?_⟩, Ch.rf h⟩
    · rw [gsum, Int.add_zero]
    · rw [zl_96, zI_lt (by omega) (by omega) (by omega) (by omega)] at hc; omega
  | succ e ih =>
    intro g s h eg g4 hp v
    obtain ⟨h1, b, q1, q2, q3, q4⟩ := s_isGoodF v w g4 (show g ≤ 96 by omega)
    have eb := gdI_of q3 q4
    have hp1 : h1.2.1 7 0 1 = p := by rw [q2.2]; exact hp
    obtain ⟨h', r1, r2⟩ := ih (g + 1) (s + b) h1 (by omega) (by omega) hp1 (v.cT q2)
    rw [gsum, ← eb, show s + (b + gsum d e (g + 1)) = s + b + gsum d e (g + 1) by omega]
    refine ⟨h', wp_FR_goods_12 ⟨fun hc => ?_, fun _ => ⟨zI_in (by omega) (by omega) (by omega), zI b, h1, ?_, fun hc => ?_, fun hc => ?_⟩⟩, q2.tr r2⟩
    · rw [zl_96, zI_lt (by omega) (by omega) (by omega) (by omega)] at hc; omega
    · rw [hp, zI_cn (by omega)]; exact q1
    · rcases q3 with e0 | e0
      · rw [zl_1, zI_add]; rw [show s + b = s by omega] at r1 ⊢; exact r1
      · rw [e0] at hc; exact absurd hc (by decide)
    · rcases q3 with e0 | e0
      · rw [e0] at hc; exact absurd rfl hc
      · rw [zl_1, zI_add, zI_add]; rw [show s + b = s + 1 by omega] at r1 ⊢; exact r1
theorem s_goodsM_14 (w : WFm d) (hm : m < 3) : ∀ (e : Nat) (g s : Int) (h : jm_H), g + e = 97 → 4 ≤ g → vM h m d → ∃ h', l_M_goods_14 (zI m) (zI s) (zI g) h (some (jm_i (zI (s + gsum d e g))), h') ∧ Ch cMs h h' := by
  intro e
  induction e with
  | zero =>
    intro g s h eg g4 v
    refine ⟨h, wp_M_goods_14 ⟨fun _ => ?_, fun hc => ?_⟩, Ch.rf h⟩
    · rw [gsum, Int.add_zero]
    · rw [zl_96, zI_lt (by omega) (by omega) (by omega) (by omega)] at hc; omega
  | succ e ih =>
    intro g s h eg g4 v
    obtain ⟨h1, q1, q2, q3⟩ := s_isGoodM v w hm g4 (show g ≤ 96 by omega)
    obtain ⟨h', r1, r2⟩ := ih (g + 1) (s + gdI d g) h1 (by omega) (by omega) q3
    rw [gsum, show s + (gdI d g + gsum d e (g + 1)) = s + gdI d g + gsum d e (g + 1) by omega]
    refine ⟨h', wp_M_goods_14 ⟨fun hc => ?_, fun _ => ⟨_, h1, q1, fun hc => ?_, fun hc => ?_⟩⟩, q2.tr r2⟩
    · rw [zl_96, zI_lt (by omega) (by omega) (by omega) (by omega)] at hc; omega
    · rcases gdI_01 d g with e0 | e0
      · rw [zl_1, zl_0, zI_add, zI_add]; rw [e0] at r1 ⊢; exact r1
      · rw [e0] at hc; exact absurd hc (by decide)
    · rcases gdI_01 d g with e0 | e0
      · rw [e0] at hc; exact absurd rfl hc
      · rw [zl_1, zI_add, zI_add]; rw [e0] at r1 ⊢; exact r1
theorem s_good_14 (w : WFm d) (hm : m < 3) : ∀ (e : Nat) (g i : Int) (h : jm_H), g + e = 97 → 4 ≤ g → 0 ≤ i → i ≤ 2147483647 → h.2.1 7 0 1 = p → vF h (3 * p + m) d → ∃ h', l_FR_good_14 (zI m) (zI i) (zI g) h (some (jm_i (zI (gnth d e g i))), jm_sI h' 7 0 8 (if gnth d e g i = -1 then 1 else 0)) ∧ Ch cT h h' := by
  intro e
  induction e with
  | zero =>
    intro g i h eg g4 i0 i1 hp v
    refine ⟨h, wp_FR_good_14 ⟨fun _ => ⟨_, _, wp_FR_refused rfl, ?_⟩, fun hc => ?_⟩, Ch.rf h⟩
    · rw [gnth, if_pos rfl]; rfl
    · rw [zl_96, zI_lt (by omega) (by omega) (by omega) (by omega)] at hc; omega
  | succ e ih =>
    intro g i h eg g4 i0 i1 hp v
    obtain ⟨h1, b, q1, q2, q3, q4⟩ := s_isGoodF v w g4 (show g ≤ 96 by omega)
    have eb := gdI_of q3 q4
    have hp1 : h1.2.1 7 0 1 = p := by rw [q2.2]; exact hp
    rw [gnth, ← eb]
    by_cases hb : b = 0
    · obtain ⟨h', r1, r2⟩ := ih (g + 1) i h1 (by omega) (by omega) i0 i1 hp1 (v.cT q2)
      rw [if_pos hb]
      refine ⟨h', wp_FR_good_14 ⟨fun hc => ?_, fun _ => ⟨zI_in (by omega) (by omega) (by omega), zI b, h1, ?_, fun hc => ?_, fun hc => ?_⟩⟩, q2.tr r2⟩
      · rw [zl_96, zI_lt (by omega) (by omega) (by omega) (by omega)] at hc; omega
      · rw [hp, zI_cn (by omega)]; exact q1
      · rw [zl_1, zI_add]; exact r1
      · rw [hb] at hc; exact absurd rfl hc
    · rw [if_neg hb]
      by_cases hi : i = 0
      · rw [if_pos hi]
        refine ⟨h1, wp_FR_good_14 ⟨fun hc => ?_, fun _ => ⟨zI_in (by omega) (by omega) (by omega), zI b, h1, ?_, fun hc => ?_, fun hc => ⟨fun _ => ⟨_, _, wp_FR_answered rfl, ?_⟩, fun hc2 => ?_⟩⟩⟩, q2⟩
        · rw [zl_96, zI_lt (by omega) (by omega) (by omega) (by omega)] at hc; omega
        · rw [hp, zI_cn (by omega)]; exact q1
        · rw [zl_0, zI_eq (by omega) (by omega) (by omega) (by omega)] at hc; omega
        · rw [if_neg (by omega)]
        · rw [hi] at hc2; exact absurd rfl hc2
      · obtain ⟨h', r1, r2⟩ := ih (g + 1) (i - 1) h1 (by omega) (by omega) (by omega) (by omega) hp1 (v.cT q2)
        rw [if_neg hi]
        refine ⟨h', wp_FR_good_14 ⟨fun hc => ?_, fun _ => ⟨zI_in (by omega) (by omega) (by omega), zI b, h1, ?_, fun hc => ?_, fun hc => ⟨fun hc2 => ?_, fun _ => ?_⟩⟩⟩, q2.tr r2⟩
        · rw [zl_96, zI_lt (by omega) (by omega) (by omega) (by omega)] at hc; omega
        · rw [hp, zI_cn (by omega)]; exact q1
        · rw [zl_0, zI_eq (by omega) (by omega) (by omega) (by omega)] at hc; omega
        · rw [zl_0, zI_eq (by omega) (by omega) (by omega) (by omega)] at hc2; omega
        · rw [zl_m1, zl_1, zI_add, zI_add]; exact r1
theorem s_goodM_14 (w : WFm d) (hm : m < 3) {I : Int} (I0 : -2147483648 ≤ I) (I1 : I ≤ 2147483647) : ∀ (e : Nat) (g n : Int) (h : jm_H), g + e = 97 → 4 ≤ g → 0 ≤ n → n ≤ g → vM h m d → ∃ h', l_M_good_14 (zI m) (zI I) (zI n) (zI g) h (some (jm_i (zI (gnth d e g (I - n)))), if gnth d e g (I - n) = -1 then jm_sI h' 8 0 1 1 else h') ∧ Ch cMs h h' := by
  intro e
  induction e with
  | zero =>
    intro g n h eg g4 n0 n1 v
    refine ⟨h, wp_M_good_14 ⟨fun _ => ⟨_, _, wp_M_no rfl, ?_⟩, fun hc => ?_⟩, Ch.rf h⟩
    · rw [gnth, if_pos rfl]; rfl
    · rw [zl_96, zI_lt (by omega) (by omega) (by omega) (by omega)] at hc; omega
  | succ e ih =>
    intro g n h eg g4 n0 n1 v
    obtain ⟨h1, q1, q2, q3⟩ := s_isGoodM v w hm g4 (show g ≤ 96 by omega)
    have g01 := gdI_01 d g
    rw [gnth]
    by_cases hb : gdI d g = 0
    · obtain ⟨h', r1, r2⟩ := ih (g + 1) n h1 (by omega) (by omega) n0 (by omega) q3
      rw [if_pos hb]
      refine ⟨h', wp_M_good_14 ⟨fun hc => ?_, fun _ => ⟨_, h1, q1, fun hc => ?_, fun hc => ?_⟩⟩, q2.tr r2⟩
      · rw [zl_96, zI_lt (by omega) (by omega) (by omega) (by omega)] at hc; omega
      · rw [zl_1, zI_add]; exact r1
      · rw [hb] at hc; exact absurd rfl hc
    · rw [if_neg hb]
      by_cases hi : I - n = 0
      · rw [if_pos hi]
        refine ⟨h1, wp_M_good_14 ⟨fun hc => ?_, fun _ => ⟨_, h1, q1, fun hc => ?_, fun hc => ⟨fun _ => ?_, fun hc2 => ?_⟩⟩⟩, q2⟩
        · rw [zl_96, zI_lt (by omega) (by omega) (by omega) (by omega)] at hc; omega
        · rw [zl_0, zI_eq (by omega) (by omega) (by omega) (by omega)] at hc; omega
        · rw [if_neg (by omega)]
        · rw [zI_eq (by omega) (by omega) (by omega) (by omega)] at hc2; omega
      · obtain ⟨h', r1, r2⟩ := ih (g + 1) (n + 1) h1 (by omega) (by omega) (by omega) (by omega) q3
        rw [if_neg hi, show I - n - 1 = I - (n + 1) by omega]
        refine ⟨h', wp_M_good_14 ⟨fun hc => ?_, fun _ => ⟨_, h1, q1, fun hc => ?_, fun hc => ⟨fun hc2 => ?_, fun _ => ?_⟩⟩⟩, q2.tr r2⟩
        · rw [zl_96, zI_lt (by omega) (by omega) (by omega) (by omega)] at hc; omega
        · rw [zl_0, zI_eq (by omega) (by omega) (by omega) (by omega)] at hc; omega
        · rw [zI_eq (by omega) (by omega) (by omega) (by omega)] at hc2; omega
        · rw [zl_1, zI_add, zI_add]; exact r1
end GOODS
