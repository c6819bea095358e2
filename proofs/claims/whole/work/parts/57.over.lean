/-! ===== the greatest over, as the reference finds it ===== -/
def MS (h : jm_H) (J F : Nat) (room : Int) (fi la c : Nat → Int) : Prop :=
  J ≤ 24 ∧ F ≤ 24 ∧ (0 ≤ room ∧ room ≤ 100) ∧ h.1 8 0 27 = zI room ∧ h.1 8 0 26 = zI F ∧ h.1 8 0 28 = zI J ∧ (∀ j, j < J → h.1 45 0 j = zI (fi j) ∧ 0 ≤ fi j ∧ fi j ≤ 100) ∧ (∀ j, j < J → h.1 46 0 j = zI (la j) ∧ -1 ≤ la j ∧ la j < F) ∧ (∀ j, j < J → h.1 47 0 j = zI (c j) ∧ 0 ≤ c j ∧ c j ≤ 60)
def c48 : Nat → Nat → Nat → Prop := fun K _ _ => K = 48
theorem MS.chg {h h' : jm_H} {J F : Nat} {room : Int} {fi la c : Nat → Int} (s : MS h J F room fi la c) (e : ∀ K j, (K = 8 ∧ 26 ≤ j ∧ j ≤ 28) ∨ K = 45 ∨ K = 46 ∨ K = 47 → h'.1 K 0 j = h.1 K 0 j) : MS h' J F room fi la c := by
  obtain ⟨s1, s2, s3, s4, s5, s6, s7, s8, s9⟩ := s
  refine ⟨s1, s2, s3, ?_, ?_, ?_, fun j hj => ?_, fun j hj => ?_, fun j hj => ?_⟩
  · rw [e _ _ (by omega)]; exact s4
  · rw [e _ _ (by omega)]; exact s5
  · rw [e _ _ (by omega)]; exact s6
  · rw [e _ _ (by omega)]; exact s7 j hj
  · rw [e _ _ (by omega)]; exact s8 j hj
  · rw [e _ _ (by omega)]; exact s9 j hj
theorem MS.ch {h h' : jm_H} {J F : Nat} {room : Int} {fi la c : Nat → Int} (s : MS h J F room fi la c) (a : Ch c48 h h') : MS h' J F room fi la c := s.chg (fun K j hK => a.at (by unfold c48; omega))
theorem mulB {a b A B : Int} (h1 : 0 ≤ a) (h2 : a ≤ A) (h3 : 0 ≤ b) (h4 : b ≤ B) : 0 ≤ a * b ∧ a * b ≤ A * B := ⟨Int.mul_nonneg h1 h3, Int.mul_le_mul h2 h4 h3 (by omega)⟩
def nowh (J : Nat) (fi la c : Nat → Int) : Int := sm J (fun j => if fi j ≤ la j then 0 else c j)
section OVR
variable {h : jm_H} {J F : Nat} {room : Int} {fi la c : Nat → Int}
theorem s_asksIn_4 (S : MS h J F room fi la c) {a b : Nat} (ha : a ≤ 30) (hb : b ≤ 30) : ∀ (d n : Nat) (s : Int), n + d = J → l_M_asksIn_4 (zI a) (zI b) (zI s) (zI n) h (some (jm_i (zI (s + (asin J fi la c a b - sm n (fun j => if fi j ≤ la j ∧ (a : Int) ≤ fi j ∧ la j ≤ b then c j else 0))))), h) := by
  obtain ⟨s1, s2, s3, s4, s5, s6, s7, s8, s9⟩ := S
  intro d
  induction d with
  | zero =>
    intro n s e
    refine wp_M_asksIn_4 ⟨fun _ => ?_, fun hc => ?_⟩
    · unfold asin
      rw [show n = J by omega, Int.sub_self, Int.add_zero]
    · rw [s6, zI_le (by omega) (by omega) (by omega) (by omega)] at hc; omega
  | succ d ih =>
    intro n s e
    have hn : n < J := by omega
    have hi : jm_in (zI (n : Int)) 24 := zI_in (by omega) (by omega) (by omega)
    have b1 := s7 n hn
    have b2 := s8 n hn
    have b3 := s9 n hn
    have e1 : h.1 45 0 (zI (n : Int)).toNatClampNeg = zI (fi n) := by rw [zI_cn (by omega)]; exact b1.1
    have e2 : h.1 46 0 (zI (n : Int)).toNatClampNeg = zI (la n) := by rw [zI_cn (by omega)]; exact b2.1
    have e3 : h.1 47 0 (zI (n : Int)).toNatClampNeg = zI (c n) := by rw [zI_cn (by omega)]; exact b3.1
    have g := ih (n + 1) (s + (if fi n ≤ la n ∧ (a : Int) ≤ fi n ∧ la n ≤ b then c n else 0)) (by omega)
    rw [sm_s, show ∀ x y z : Int, s + x + (y - (z + x)) = s + (y - z) from fun x y z => by omega] at g
    refine wp_M_asksIn_4 ⟨fun hc => ?_, fun _ => ⟨hi, hi, fun hc => ?_, fun hc => ⟨hi, fun hc2 => ?_, fun hc2 => ⟨hi, fun hc3 => ?_, fun hc3 => ⟨hi, ?_⟩⟩⟩⟩⟩
    · rw [s6, zI_le (by omega) (by omega) (by omega) (by omega)] at hc; omega
    · rw [e1, e2, zI_lt (by omega) (by omega) (by omega) (by omega)] at hc
      rw [if_neg (by omega)] at g
      rw [zl_0, zI_add, zl_1, zI_add]; exact g
    · rw [e1, zI_lt (by omega) (by omega) (by omega) (by omega)] at hc2
      rw [if_neg (by omega)] at g
      rw [zl_0, zI_add, zl_1, zI_add]; exact g
    · rw [e2, zI_lt (by omega) (by omega) (by omega) (by omega)] at hc3
      rw [if_neg (by omega)] at g
      rw [zl_0, zI_add, zl_1, zI_add]; exact g
    · rw [e1, e2, zI_lt (by omega) (by omega) (by omega) (by omega)] at hc
      rw [e1, zI_lt (by omega) (by omega) (by omega) (by omega)] at hc2
      rw [e2, zI_lt (by omega) (by omega) (by omega) (by omega)] at hc3
      rw [if_pos (by omega)] at g
      rw [e3, zI_add, zl_1, zI_add]; exact g
theorem s_asksIn (S : MS h J F room fi la c) {a b : Nat} (ha : a ≤ 30) (hb : b ≤ 30) : m_M_asksIn (zI a) (zI b) h (zI (asin J fi la c a b)) h := by
  have := s_asksIn_4 S ha hb J 0 0 (by omega)
  rw [sm_0, Int.sub_zero, Int.zero_add] at this
  exact wp_M_asksIn this
theorem s_asksNowhere_4 (S : MS h J F room fi la c) : ∀ (d n : Nat) (s : Int), n + d = J → l_M_asksNowhere_4 (zI s) (zI n) h (some (jm_i (zI (s + (nowh J fi la c - sm n (fun j => if fi j ≤ la j then 0 else c j))))), h) := by
  obtain ⟨s1, s2, s3, s4, s5, s6, s7, s8, s9⟩ := S
  intro d
  induction d with
  | zero =>
    intro n s e
    refine wp_M_asksNowhere_4 ⟨fun _ => ?_, fun hc => ?_⟩
    · unfold nowh
      rw [show n = J by omega, Int.sub_self, Int.add_zero]
    · rw [s6, zI_le (by omega) (by omega) (by omega) (by omega)] at hc; omega
  | succ d ih =>
    intro n s e
    have hn : n < J := by omega
    have hi : jm_in (zI (n : Int)) 24 := zI_in (by omega) (by omega) (by omega)
    have b1 := s7 n hn
    have b2 := s8 n hn
    have b3 := s9 n hn
    have e1 : h.1 45 0 (zI (n : Int)).toNatClampNeg = zI (fi n) := by rw [zI_cn (by omega)]; exact b1.1
    have e2 : h.1 46 0 (zI (n : Int)).toNatClampNeg = zI (la n) := by rw [zI_cn (by omega)]; exact b2.1
    have e3 : h.1 47 0 (zI (n : Int)).toNatClampNeg = zI (c n) := by rw [zI_cn (by omega)]; exact b3.1
    have g := ih (n + 1) (s + (if fi n ≤ la n then 0 else c n)) (by omega)
    rw [sm_s, show ∀ x y z : Int, s + x + (y - (z + x)) = s + (y - z) from fun x y z => by omega] at g
    refine wp_M_asksNowhere_4 ⟨fun hc => ?_, fun _ => ⟨hi, hi, fun hc => ?_, fun hc => ⟨hi, ?_⟩⟩⟩
    · rw [s6, zI_le (by omega) (by omega) (by omega) (by omega)] at hc; omega
    · rw [e1, e2, zI_le (by omega) (by omega) (by omega) (by omega)] at hc
      rw [if_pos (by omega)] at g
      rw [zl_0, zI_add, zl_1, zI_add]; exact g
    · rw [e1, e2, zI_le (by omega) (by omega) (by omega) (by omega)] at hc
      rw [if_neg (by omega)] at g
      rw [e3, zI_add, zl_1, zI_add]; exact g
theorem s_asksNowhere (S : MS h J F room fi la c) : m_M_asksNowhere h (zI (nowh J fi la c)) h := by
  have := s_asksNowhere_4 S J 0 0 (by omega)
  rw [sm_0, Int.sub_zero, Int.zero_add] at this
  exact wp_M_asksNowhere this
theorem sm_bd {n : Nat} {f : Nat → Int} {B : Int} (h : ∀ i, i < n → 0 ≤ f i ∧ f i ≤ B) : 0 ≤ sm n f ∧ sm n f ≤ B * n := by
  induction n with
  | zero => exact ⟨Int.le_refl _, by rw [sm_0]; omega⟩
  | succ n ih =>
    have a := ih (fun i hi => h i (by omega))
    have b := h n (by omega)
    rw [sm_s, show ((n + 1 : Nat) : Int) = (n : Int) + 1 from rfl, Int.mul_add, Int.mul_one]
    omega
theorem asin_bd (S : MS h J F room fi la c) (a b : Nat) : 0 ≤ asin J fi la c a b ∧ asin J fi la c a b ≤ 1440 := by
  have := sm_bd (n := J) (f := fun j => if fi j ≤ la j ∧ (a : Int) ≤ fi j ∧ la j ≤ b then c j else 0) (B := 60) (fun j hj => by
    have := (S.2.2.2.2.2.2.2.2 j hj).2
    split <;> omega)
  have := S.1
  unfold asin
  omega
/-- the table of the greatest overs so far -/
def dpTo (J : Nat) (fi la c : Nat → Int) (room w : Int) (M : Nat → Int) (n : Nat) : Prop :=
  M 0 = 0 ∧ (∀ b, b ≤ n → 0 ≤ M b ∧ M b ≤ 1440 * b) ∧ ∀ b, b < n → M b ≤ M (b + 1) ∧ (∀ a, a ≤ b → ¬ ((a : Int) ≤ w ∧ w ≤ b) → M a + asin J fi la c a b - room * ((b : Int) - a + 1) ≤ M (b + 1)) ∧ (M (b + 1) = M b ∨ ∃ a, a ≤ b ∧ ¬ ((a : Int) ≤ w ∧ w ≤ b) ∧ M (b + 1) = M a + asin J fi la c a b - room * ((b : Int) - a + 1))
theorem s_over_18 {w : Int} (hw : -1 ≤ w ∧ w ≤ 30) {b : Nat} (hb : b < F) {M : Nat → Int} (hM : dpTo J fi la c room w M b) (S : MS h J F room fi la c) (hR : ∀ i, i ≤ b → h.1 48 0 i = zI (M i)) :
    ∀ (n : Nat) (v : Int), n ≤ b + 1 → M b ≤ v → v ≤ 1440 * (b + 1) → (n ≤ b → ¬ ((n : Int) ≤ w ∧ w ≤ b)) → (∀ a, n ≤ a → a ≤ b → M a + asin J fi la c a b - room * ((b : Int) - a + 1) ≤ v) → (v = M b ∨ ∃ a, a ≤ b ∧ ¬ ((a : Int) ≤ w ∧ w ≤ b) ∧ v = M a + asin J fi la c a b - room * ((b : Int) - a + 1)) →
    ∃ v' : Int, (M b ≤ v' ∧ v' ≤ 1440 * (b + 1) ∧ (∀ a, a ≤ b → ¬ ((a : Int) ≤ w ∧ w ≤ b) → M a + asin J fi la c a b - room * ((b : Int) - a + 1) ≤ v') ∧ (v' = M b ∨ ∃ a, a ≤ b ∧ ¬ ((a : Int) ≤ w ∧ w ≤ b) ∧ v' = M a + asin J fi la c a b - room * ((b : Int) - a + 1))) ∧ ∀ r, l_M_overWithout_7 (zI w) (zI ((b : Int) + 1)) (jm_sI h 48 0 (b + 1) (zI v')) r → l_M_overWithout_18 (zI w) (zI b) (zI v) (zI ((n : Int) - 1)) h r := by
  have hF := S.2.1
  have hro := S.2.2.1
  have M0 := fun i (hi : i ≤ b) => hM.2.1 i hi
  have eb : zI (b : Int) + 1 = zI ((b : Int) + 1) := by rw [zl_1, zI_add]
  have eb2 : (zI ((b : Int) + 1)).toNatClampNeg = b + 1 := by rw [zI_nat (by omega) (by omega)]; omega
  have hin : jm_in (zI (b : Int) + 1) 25 := by rw [eb]; exact zI_in (by omega) (by omega) (by omega)
  intro n
  induction n with
  | zero =>
    intro v hn v1 v2 q1 q2 q3
    refine ⟨v, ⟨v1, v2, fun a ha _ => q2 a (by omega) ha, q3⟩, fun r hr => wp_M_overWithout_18 ⟨fun _ => ⟨hin, ?_⟩, fun hc => ?_⟩⟩
    · rw [eb, eb2]
      exact hr
    · rw [zl_0, zI_lt (by omega) (by omega) (by omega) (by omega)] at hc; omega
  | succ n ih =>
    intro v hn v1 v2 q1 q2 q3
    have vb := M0 b (Nat.le_refl _)
    have en : zI (((n + 1 : Nat) : Int) - 1) = zI (n : Int) := by rw [show ((n + 1 : Nat) : Int) - 1 = (n : Int) by omega]
    rw [en]
    by_cases hbw : (b : Int) = w
    · refine ⟨v, ⟨v1, v2, fun a ha hna => absurd ⟨by omega, by omega⟩ hna, q3⟩, fun r hr => wp_M_overWithout_18 ⟨fun _ => ⟨hin, ?_⟩, fun _ => ⟨fun _ => ⟨hin, ?_⟩, fun hc => ?_⟩⟩⟩
      · rw [eb, eb2]
        exact hr
      · rw [eb, eb2]
        exact hr
      · rw [zI_eq (by omega) (by omega) (by omega) (by omega)] at hc; omega
    · by_cases hnw : (n : Int) = w
      · refine ⟨v, ⟨v1, v2, fun a ha hna => q2 a (by omega) ha, q3⟩, fun r hr => wp_M_overWithout_18 ⟨fun _ => ⟨hin, ?_⟩, fun _ => ⟨fun hc => ?_, fun _ => ⟨fun _ => ⟨hin, ?_⟩, fun hc => ?_⟩⟩⟩⟩
        · rw [eb, eb2]
          exact hr
        · rw [zI_eq (by omega) (by omega) (by omega) (by omega)] at hc; omega
        · rw [eb, eb2]
          exact hr
        · rw [zI_eq (by omega) (by omega) (by omega) (by omega)] at hc; omega
      · have hnb : n ≤ b := by omega
        have hnot : ¬ ((n : Int) ≤ w ∧ w ≤ b) := by
          rintro ⟨x1, x2⟩
          exact q1 (by omega) ⟨by omega, x2⟩
        have Mn := M0 n hnb
        have ab := asin_bd S n b
        have mb := mulB hro.1 hro.2 (show (0 : Int) ≤ (b : Int) - n + 1 by omega) (show (b : Int) - n + 1 ≤ 25 by omega)
        have ev : ((h.1 48 0 (zI (n : Int)).toNatClampNeg) + zI (asin J fi la c n b)) - ((h.1 8 0 27) * ((zI (b : Int) - zI (n : Int)) + 1)) = zI (M n + asin J fi la c n b - room * ((b : Int) - n + 1)) := by
          rw [zI_cn (by omega), hR n hnb, S.2.2.2.1, zI_add, zI_sub, zl_1, zI_add, zI_mul, zI_sub]
        have em : zI (n : Int) + (-1) = zI ((n : Int) - 1) := by rw [zl_m1, zI_add]; rfl
        by_cases hle : M n + asin J fi la c n b - room * ((b : Int) - n + 1) ≤ v
        · obtain ⟨v', g1, g2⟩ := ih v (by omega) v1 v2 (fun _ => hnot) (fun a a1 a2 => by
            by_cases e : a = n
            · rw [e]; exact hle
            · exact q2 a (by omega) a2) q3
          refine ⟨v', g1, fun r hr => wp_M_overWithout_18 ⟨fun hc => ?_, fun _ => ⟨fun hc => ?_, fun _ => ⟨fun hc => ?_, fun _ => ⟨zI_in (by omega) (by omega) (by omega), _, h, s_asksIn S (by omega) (by omega), fun hc => ?_, fun hc => ?_⟩⟩⟩⟩⟩
          · rw [zl_0, zI_lt (by omega) (by omega) (by omega) (by omega)] at hc; omega
          · rw [zI_eq (by omega) (by omega) (by omega) (by omega)] at hc; omega
          · rw [zI_eq (by omega) (by omega) (by omega) (by omega)] at hc; omega
          · rw [em]
            exact g2 r hr
          · rw [ev, zI_le (by omega) (by omega) (by omega) (by omega)] at hc; omega
        · obtain ⟨v', g1, g2⟩ := ih (M n + asin J fi la c n b - room * ((b : Int) - n + 1)) (by omega) (by omega) (by omega) (fun _ => hnot) (fun a a1 a2 => by
            by_cases e : a = n
            · rw [e]; exact Int.le_refl _
            · have := q2 a (by omega) a2
              omega) (Or.inr ⟨n, hnb, hnot, rfl⟩)
          refine ⟨v', g1, fun r hr => wp_M_overWithout_18 ⟨fun hc => ?_, fun _ => ⟨fun hc => ?_, fun _ => ⟨fun hc => ?_, fun _ => ⟨zI_in (by omega) (by omega) (by omega), _, h, s_asksIn S (by omega) (by omega), fun hc => ?_, fun hc => ?_⟩⟩⟩⟩⟩
          · rw [zl_0, zI_lt (by omega) (by omega) (by omega) (by omega)] at hc; omega
          · rw [zI_eq (by omega) (by omega) (by omega) (by omega)] at hc; omega
          · rw [zI_eq (by omega) (by omega) (by omega) (by omega)] at hc; omega
          · rw [ev, zI_le (by omega) (by omega) (by omega) (by omega)] at hc; omega
          · rw [ev, em]
            exact g2 r hr
theorem s_over_7 {w : Int} (hw : -1 ≤ w ∧ w ≤ 30) : ∀ (d b : Nat) (h : jm_H) (M : Nat → Int), b + d = F → MS h J F room fi la c → dpTo J fi la c room w M b → (∀ i, i ≤ b → h.1 48 0 i = zI (M i)) → ∃ h' M', l_M_overWithout_7 (zI w) (zI b) h (some (jm_i (zI (M' F))), h') ∧ Ch c48 h h' ∧ dpTo J fi la c room w M' F := by
  intro d
  induction d with
  | zero =>
    intro b h M e S hM hR
    have hF := S.2.1
    have h5 := S.2.2.2.2.1
    refine ⟨h, M, wp_M_overWithout_7 ⟨fun _ => ⟨?_, ?_⟩, fun hc => ?_⟩, Ch.rf h, by rwa [show F = b by omega]⟩
    · rw [h5]; exact zI_in (by omega) (by omega) (by omega)
    · rw [h5, zI_cn (by omega), hR F (by omega)]
    · rw [h5, zI_le (by omega) (by omega) (by omega) (by omega)] at hc; omega
  | succ d ih =>
    intro b h M e S hM hR
    have hF := S.2.1
    have h5 := S.2.2.2.2.1
    have hb : b < F := by omega
    have vb := hM.2.1 b (Nat.le_refl _)
    obtain ⟨v', ⟨g1, g2, g3, g4⟩, g5⟩ := s_over_18 hw hb hM S hR (b + 1) (M b) (Nat.le_refl _) (Int.le_refl _) (by omega) (fun x => by omega) (fun a a1 a2 => by omega) (Or.inl rfl)
    have c1 : Ch c48 h (jm_sI h 48 0 (b + 1) (zI v')) := Ch.sI rfl
    have eM : ∀ i, i ≤ b → up M (b + 1) v' i = M i := fun i hi => up_ne (by omega)
    obtain ⟨h', M', q1, q2, q3⟩ := ih (b + 1) (jm_sI h 48 0 (b + 1) (zI v')) (up M (b + 1) v') (by omega) (S.ch c1) ⟨by rw [eM 0 (by omega)]; exact hM.1, fun i hi => by
        by_cases e2 : i = b + 1
        · rw [e2, up_eq]; omega
        · rw [eM i (by omega)]; exact hM.2.1 i (by omega), fun i hi => by
        rw [eM i (by omega)]
        by_cases e2 : i = b
        · subst e2
          rw [up_eq]
          refine ⟨g1, fun a ha hna => ?_, ?_⟩
          · rw [eM a ha]; exact g3 a ha hna
          · rcases g4 with g4 | ⟨a, a1, a2, a3⟩
            · exact Or.inl g4
            · exact Or.inr ⟨a, a1, a2, by rw [eM a a1]; exact a3⟩
        · rw [eM (i + 1) (by omega)]
          have old := hM.2.2 i (by omega)
          refine ⟨old.1, fun a ha hna => ?_, ?_⟩
          · rw [eM a (by omega)]; exact old.2.1 a ha hna
          · rcases old.2.2 with g4 | ⟨a, a1, a2, a3⟩
            · exact Or.inl g4
            · exact Or.inr ⟨a, a1, a2, by rw [eM a (by omega)]; exact a3⟩⟩ (fun i hi => by
        by_cases e2 : i = b + 1
        · rw [e2, sI_eq, up_eq]
        · rw [sI_ne (by omega), eM i (by omega)]; exact hR i (by omega))
    refine ⟨h', M', wp_M_overWithout_7 ⟨fun hc => ?_, fun _ => ⟨zI_in (by omega) (by omega) (by omega), ?_⟩⟩, c1.tr q2, q3⟩
    · rw [h5, zI_le (by omega) (by omega) (by omega) (by omega)] at hc; omega
    · rw [zI_cn (by omega), hR b (Nat.le_refl _)]
      have := g5 _ q1
      rw [show ((b + 1 : Nat) : Int) - 1 = (b : Int) by omega] at this
      exact this
theorem s_over (S : MS h J F room fi la c) {w : Int} (hw : -1 ≤ w ∧ w ≤ 30) : ∃ h' M, m_M_overWithout (zI w) h (zI (M F)) h' ∧ Ch c48 h h' ∧ dp_ok J F fi la c room w M ∧ 0 ≤ M F ∧ M F ≤ 36000 := by
  have c1 : Ch c48 h (jm_sI h 48 0 0 (zI 0)) := Ch.sI rfl
  obtain ⟨h', M, q1, q2, q3⟩ := s_over_7 hw F 0 (jm_sI h 48 0 0 (zI 0)) (fun _ => 0) (by omega) (S.ch c1) ⟨rfl, fun i hi => ⟨Int.le_refl _, by show (0 : Int) ≤ 1440 * (i : Int); omega⟩, fun i hi => by omega⟩ (fun i hi => by rw [show i = 0 by omega, sI_eq])
  have hF := S.2.1
  have := q3.2.1 F (Nat.le_refl _)
  exact ⟨h', M, wp_M_overWithout q1, c1.tr q2, ⟨q3.1, q3.2.2⟩, by omega, by omega⟩
/-- how much is too much -/
def isOv (J F : Nat) (fi la c : Nat → Int) (room v : Int) : Prop := (∀ S, ovr J F fi la c room S + nowh J fi la c ≤ v) ∧ ∃ S, v ≤ ovr J F fi la c room S + nowh J fi la c
theorem isOv.uq {v v' : Int} (a : isOv J F fi la c room v) (b : isOv J F fi la c room v') : v = v' := by
  obtain ⟨a1, S, a2⟩ := a
  obtain ⟨b1, S', b2⟩ := b
  have := a1 S'
  have := b1 S
  omega
theorem s_overAll (S : MS h J F room fi la c) : ∃ h' v, m_M_overAll h (zI v) h' ∧ Ch c48 h h' ∧ isOv J F fi la c room v ∧ 0 ≤ v ∧ v ≤ 40000 := by
  obtain ⟨h', M, q1, q2, q3, q4, q5⟩ := s_over S (w := -1) (by omega)
  have hfi : ∀ j, j < J → 0 ≤ fi j := fun j hj => (S.2.2.2.2.2.2.1 j hj).2.1
  have hla : ∀ j, j < J → la j < F := fun j hj => (S.2.2.2.2.2.2.2.1 j hj).2.2
  have hc : ∀ j, j < J → 0 ≤ c j := fun j hj => (S.2.2.2.2.2.2.2.2 j hj).2.1
  have nb := sm_bd (n := J) (f := fun j => if fi j ≤ la j then 0 else c j) (B := 60) (fun j hj => by
    have := (S.2.2.2.2.2.2.2.2 j hj).2
    split <;> omega)
  have hJ := S.1
  refine ⟨h', nowh J fi la c + M F, ?_, q2, ⟨fun S' => ?_, ?_⟩, by unfold nowh; omega, by unfold nowh; omega⟩
  · rw [show zI (nowh J fi la c + M F) = zI (nowh J fi la c) + zI (M F) from (zI_add _ _).symm]
    exact wp_M_overAll ⟨_, h, s_asksNowhere S, _, h', q1, rfl⟩
  · have := dp_le hfi hla hc q3 S' (fun k hk => by omega)
    omega
  · obtain ⟨S', _, _, q6⟩ := dp_at hfi hc q3 F (Nat.le_refl _)
    exact ⟨S', by omega⟩
end OVR
/-- what is left when all that can be is spread -/
theorem edf_isOv {J F : Nat} {room : Int} {fi la c : Nat → Int} {lf sl : Nat → Int} {u : Nat → Nat → Int} (ok : fl_ok J F fi la c room lf sl u) (ed : fl_edf J F fi la c sl u) (hfi : ∀ j, j < J → 0 ≤ fi j) (hla : ∀ j, j < J → la j < F) : isOv J F fi la c room (sm J lf) := by
  have e : sm J lf = lft J fi la lf + nowh J fi la c := by
    unfold lft nowh
    rw [← sm_add]
    refine sm_congr (fun j hj => ?_)
    by_cases hne : fi j ≤ la j
    · rw [if_pos hne, if_pos hne]; omega
    · rw [if_neg hne, if_neg hne]
      have := (ok.2.2.1 j hj).2
      rw [sm_zero (fun k hk => Classical.byContradiction (fun hu => by have := ok.2.1 j k hj hk hu; omega))] at this
      omega
  refine ⟨fun S => ?_, fl_S0 J fi la lf sl u, ?_⟩
  · have := ovr_le ok S
    omega
  · have := (tight_iff ok _).mpr (edf_tight ok ed hfi hla)
    omega
