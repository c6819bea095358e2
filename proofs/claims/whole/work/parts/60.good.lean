/-! ===== lengths judged ===== -/
def flg (a b c d e : Bool) : Int32 := (if a then 1 else 0) ||| (if b then 2 else 0) ||| (if c then 4 else 0) ||| (if d then 8 else 0) ||| (if e then 16 else 0)
theorem flg_0 : ∀ a b c d e, flg a b c d e ||| 0 = flg a b c d e := by decide
theorem flg_2 : ∀ a b c d e, flg a b c d e ||| 2 = flg a true c d e := by decide
theorem flg_4 : ∀ a b c d e, flg a b c d e ||| 4 = flg a b true d e := by decide
theorem flg_8 : ∀ a b c d e, flg a b c d e ||| 8 = flg a b c true e := by decide
theorem flg_16 : ∀ a b c d e, flg a b c d e ||| 16 = flg a b c d true := by decide
theorem flg_25 : ∀ a b c d e, (flg a b c d e &&& 25 = 0) ↔ (a = false ∧ d = false ∧ e = false) := by decide
def anyTo (P : Nat → Bool) : Nat → Bool
  | 0 => false
  | n + 1 => anyTo P n || P n
theorem anyTo_iff {P : Nat → Bool} {n : Nat} : anyTo P n = true ↔ ∃ i, i < n ∧ P i = true := by
  induction n with
  | zero => simp [anyTo]
  | succ n ih =>
    rw [anyTo, Bool.or_eq_true, ih]
    constructor
    · rintro (⟨i, h1, h2⟩ | h)
      · exact ⟨i, by omega, h2⟩
      · exact ⟨n, by omega, h⟩
    · rintro ⟨i, h1, h2⟩
      by_cases e : i = n
      · subst e; exact Or.inr h2
      · exact Or.inl ⟨i, by omega, h2⟩
def md_rm (d : MD) (g : Int) : Int := if 0 < g - md_rs d then g - md_rs d else 0
def md_ov (d : MD) (g v : Int) : Prop := isOv (md_jb d) (md_F d g) (md_fi d g) (md_la d g) (md_c d) (md_rm d g) v
def gd (d : MD) (g : Int) : Prop := md_rd d % g = 0 ∧ (∀ j, j < md_jb d → md_fi d g j ≤ md_la d g j) ∧ md_ov d g 0
theorem md_rmb {d : MD} (w : WFm d) {g : Int} (g1 : 4 ≤ g) (g2 : g ≤ 96) : 0 ≤ md_rm d g ∧ md_rm d g ≤ 96 := by
  have w2 := w.2.1
  unfold md_rm
  split <;> omega
theorem FS.fib {h : jm_H} {f J F : Nat} {room : Int} {fi la c : Nat → Int} (S : FS h f J F room fi la c) : ∀ j, j < J → 0 ≤ fi j := fun j hj => (S.2.2.2.2.2.2.1 j hj).2.1
theorem FS.lab {h : jm_H} {f J F : Nat} {room : Int} {fi la c : Nat → Int} (S : FS h f J F room fi la c) : ∀ j, j < J → la j < F := fun j hj => (S.2.2.2.2.2.2.2.1 j hj).2.2
/-- fits, with what is left -/
theorem s_fits {f : Nat} {h : jm_H} {J F : Nat} {room : Int} {fi la c : Nat → Int} (S : FS h f J F room fi la c) : ∃ h' v, isOv J F fi la c room v ∧ 0 ≤ v ∧ v ≤ 1440 ∧ m_Flow_fits f h (zI (if v = 0 then 1 else 0)) h' ∧ Ch (cD f) h h' := by
  obtain ⟨h', lf, sl, u, q1, q2, q3, q4, q5⟩ := s_spread S
  have hJ := S.1
  have cb := sm_bd (n := J) (f := c) (B := 60) (fun j hj => (S.2.2.2.2.2.2.2.2 j hj).2)
  have lb := sm_bd (n := J) (f := lf) (B := 60) (fun j hj => by
    have a := q4.2.2.1 j hj
    have b := (S.2.2.2.2.2.2.2.2 j hj).2
    have : 0 ≤ sm F (u j) := sm_nn (fun k' hk' => q4.1 j k' hj hk')
    omega)
  refine ⟨h', sm J lf, edf_isOv q4 q5 S.fib S.lab, by omega, by omega, wp_Flow_fits ⟨_, h', q1, _, h', s_allCosts (S.ch q2), fun hc => ?_, fun hc => ?_⟩, q2⟩
  · rw [zI_eq (by omega) (by omega) (by omega) (by omega)] at hc
    rw [if_pos (by omega)]; rfl
  · rw [zI_eq (by omega) (by omega) (by omega) (by omega)] at hc
    rw [if_neg (by omega)]; rfl
theorem s_inRound {h : jm_H} {q : Nat} {d : MD} (v : vF h q d) (w : WFm d) {g : Int} (g1 : 4 ≤ g) (g2 : g ≤ 96) : m_Mode_isInRound q (zI g) h (zI (if md_rd d % g = 0 then 1 else 0)) h := by
  have w3 := w.2.2.1
  have b1 := Int.emod_nonneg (md_rd d) (show g ≠ 0 by omega)
  have b2 := Int.emod_lt_of_pos (md_rd d) (show 0 < g by omega)
  refine wp_Mode_isInRound ⟨fun hc => ?_, fun _ => ⟨_, h, s_round v w, ?_, fun hc => ?_, fun hc => ?_⟩⟩
  · rw [zl_0, zI_le (by omega) (by omega) (by omega) (by omega)] at hc; omega
  · rw [zl_0, zI_eq (by omega) (by omega) (by omega) (by omega)]; omega
  · rw [zI_rem (by omega) (by omega) (by omega) (by omega), zl_0, zI_eq (by omega) (by omega) (by omega) (by omega)] at hc
    rw [if_pos hc]; rfl
  · rw [zI_rem (by omega) (by omega) (by omega) (by omega), zl_0, zI_eq (by omega) (by omega) (by omega) (by omega)] at hc
    rw [if_neg hc]; rfl
/-- what a flow that is laid has -/
def FA (h : jm_H) (f : Nat) (d : MD) (g : Int) : Prop := FS h f (md_jb d) (md_F d g) (md_rm d g) (md_fi d g) (md_la d g) (md_c d) ∧ FT h f d g
theorem FA.ch {h h' : jm_H} {f : Nat} {d : MD} {g : Int} (a : FA h f d g) (c : Ch (cD f) h h') : FA h' f d g := by
  refine ⟨a.1.ch c, ?_, fun j hj => ?_⟩
  · rw [c.at (by unfold cD; omega)]; exact a.2.1
  · rw [c.at (by unfold cD; omega), c.at (by unfold cD; omega), c.at (by unfold cD; omega)]; exact a.2.2 j hj
theorem s_layA {f q : Nat} {h : jm_H} {d : MD} {g : Int} (v : vF h q d) (w : WFm d) (g1 : 4 ≤ g) (g2 : g ≤ 96) : ∃ h', m_Flow_lay f q (zI g) (zI (md_rs d)) h h' ∧ Ch (cL f) h h' ∧ FA h' f d g := by
  have w2 := w.2.1
  have w1 := w.1
  obtain ⟨h', a1, a2, a3, a4⟩ := s_lay (f := f) v w g1 g2 w2.1 (by omega)
  exact ⟨h', a1, a2, a3, a4⟩
theorem s_goodIn {f q : Nat} {h : jm_H} {d : MD} {g : Int} (v : vF h q d) (w : WFm d) (g1 : 4 ≤ g) (g2 : g ≤ 96) (A : FA h f d g) : ∃ h' b, m_Flow_isGoodIn f q h (zI b) h' ∧ Ch (cD f) h h' ∧ (b = 0 ∨ b = 1) ∧ (b = 1 ↔ gd d g) := by
  have hr := s_inRound v w g1 g2
  obtain ⟨b, b1, b2, b3⟩ := s_hasEmpty A.1
  obtain ⟨h', x, x1, x2, x3, x4, x5⟩ := s_fits A.1
  by_cases r0 : md_rd d % g = 0
  · by_cases be : b = 0
    · by_cases xe : x = 0
      · refine ⟨h', 1, wp_Flow_isGoodIn ⟨zI (if md_rd d % g = 0 then 1 else 0), h, ?_, fun hc => ?_, fun _ => ⟨_, h, b3, fun _ => ⟨_, h', x4, fun hc => ?_, fun _ => rfl⟩, fun hc => ?_⟩⟩, x5, Or.inr rfl, fun _ => ⟨r0, b2.mp be, by rw [← xe]; exact x1⟩, fun _ => rfl⟩
        · rw [A.2.1]; exact hr
        · rw [if_pos r0] at hc; exact absurd hc (by decide)
        · rw [if_pos xe] at hc; exact absurd hc (by decide)
        · rw [be] at hc; exact absurd rfl hc
      · refine ⟨h', 0, wp_Flow_isGoodIn ⟨zI (if md_rd d % g = 0 then 1 else 0), h, ?_, fun hc => ?_, fun _ => ⟨_, h, b3, fun _ => ⟨_, h', x4, fun _ => rfl, fun hc => ?_⟩, fun hc => ?_⟩⟩, x5, Or.inl rfl, fun hc => by omega, fun hc => ?_⟩
        · rw [A.2.1]; exact hr
        · rw [if_pos r0] at hc; exact absurd hc (by decide)
        · rw [if_neg xe] at hc; exact absurd rfl hc
        · rw [be] at hc; exact absurd rfl hc
        · exact absurd (isOv.uq x1 hc.2.2) xe
    · refine ⟨h, 0, wp_Flow_isGoodIn ⟨zI (if md_rd d % g = 0 then 1 else 0), h, ?_, fun hc => ?_, fun _ => ⟨_, h, b3, fun hc => ?_, fun _ => rfl⟩⟩, Ch.rf h, Or.inl rfl, fun hc => by omega, fun hc => absurd (b2.mpr hc.2.1) be⟩
      · rw [A.2.1]; exact hr
      · rw [if_pos r0] at hc; exact absurd hc (by decide)
      · rw [show b = 1 by omega] at hc; exact absurd hc (by decide)
  · refine ⟨h, 0, wp_Flow_isGoodIn ⟨zI (if md_rd d % g = 0 then 1 else 0), h, ?_, fun _ => rfl, fun hc => ?_⟩, Ch.rf h, Or.inl rfl, fun hc => by omega, fun hc => absurd hc.1 r0⟩
    · rw [A.2.1]; exact hr
    · rw [if_neg r0] at hc; exact absurd rfl hc
/-- the trial flow -/
def cT : Nat → Nat → Nat → Prop := fun K i _ => cL 3 K i 0 ∨ cD 3 K i 0 ∨ (K = 6 ∧ i = 3)
theorem cT_L {h h' : jm_H} (a : Ch (cL 3) h h') : Ch cT h h' := a.mono (fun K i j x => Or.inl x)
theorem cT_D {h h' : jm_H} (a : Ch (cD 3) h h') : Ch cT h h' := a.mono (fun K i j x => Or.inr (Or.inl x))
theorem vF.cT {h h' : jm_H} {q : Nat} {d : MD} (v : vF h q d) (a : Ch cT h h') : vF h' q d := v.chg (fun K j hK => a.at (by unfold Jvm.Pilot.CFrameRoundLaw_law_r7718_4414e1.cT cL cD; omega))
theorem s_isGoodF {q : Nat} {h : jm_H} {d : MD} {g : Int} (v : vF h q d) (w : WFm d) (g1 : 4 ≤ g) (g2 : g ≤ 96) : ∃ h' b, m_FR_isGood q (zI g) h (zI b) h' ∧ Ch cT h h' ∧ (b = 0 ∨ b = 1) ∧ (b = 1 ↔ gd d g) := by
  have hr := s_inRound v w g1 g2
  by_cases r0 : md_rd d % g = 0
  · obtain ⟨h1, a1, a2, a3⟩ := s_layA (f := 3) v w g1 g2
    obtain ⟨h', b, b1, b2, b3, b4⟩ := s_goodIn (v.cT (cT_L a2)) w g1 g2 a3
    refine ⟨h', b, wp_FR_isGood ⟨_, h, hr, fun hc => ?_, fun _ => ⟨h1, ?_, _, h', b1, ?_, rfl⟩⟩, (cT_L a2).tr (cT_D b2), b3, b4⟩
    · rw [if_pos r0] at hc; exact absurd hc (by decide)
    · rw [v.2.1]; exact a1
    · rcases b3 with rfl | rfl <;> rfl
  · refine ⟨h, 0, wp_FR_isGood ⟨_, h, hr, fun _ => rfl, fun hc => ?_⟩, Ch.rf h, Or.inl rfl, fun hc => by omega, fun hc => absurd hc.1 r0⟩
    rw [if_neg r0] at hc; exact absurd rfl hc
