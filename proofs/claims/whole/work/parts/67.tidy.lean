/-! ===== tidying ===== -/
theorem zI_neg (a : Int) : -(Int32.ofInt a) = Int32.ofInt (-a) := (Int32.ofInt_neg a).symm
def tdc (s : FSt) (j a b : Nat) : Bool := decide (b ≠ a ∧ 0 < s.2 j a ∧ 0 < s.2 j b ∧ s.2 j a ≤ s.1 b)
def fB (s : FSt) (j a : Nat) : Nat → Nat → Option Nat
  | 0, _ => none
  | e + 1, b => if tdc s j a b = true then some b else fB s j a e (b + 1)
def fA (s : FSt) (F j : Nat) : Nat → Nat → Option (Nat × Nat)
  | 0, _ => none
  | e + 1, a => match fB s j a F 0 with
    | some b => some (a, b)
    | none => fA s F j e (a + 1)
def fJ (s : FSt) (F : Nat) : Nat → Nat → Option (Nat × Nat × Nat)
  | 0, _ => none
  | e + 1, j => match fA s F j F 0 with
    | some q => some (j, q.1, q.2)
    | none => fJ s F e (j + 1)
def tmv (s : FSt) (j a b : Nat) : FSt := (up (up s.1 a (s.1 a - -(s.2 j a))) b (up s.1 a (s.1 a - -(s.2 j a)) b - s.2 j a), put1 (put1 s.2 j a (-(s.2 j a))) j b (s.2 j a))
def titer (J F : Nat) : Nat → FSt → Int × FSt
  | 0, s => (0, s)
  | e + 1, s => match fJ s F J 0 with
    | none => (0, s)
    | some q => ((titer J F e (tmv s q.1 q.2.1 q.2.2)).1 + 1, (titer J F e (tmv s q.1 q.2.1 q.2.2)).2)
theorem tdc_iff {s : FSt} {j a b : Nat} : tdc s j a b = true ↔ b ≠ a ∧ 0 < s.2 j a ∧ 0 < s.2 j b ∧ s.2 j a ≤ s.1 b := by unfold tdc; exact decide_eq_true_iff
theorem fB_none {s : FSt} {j a : Nat} : ∀ (e b : Nat), (∀ x, b ≤ x → x < b + e → ¬ tdc s j a x = true) → fB s j a e b = none := by
  intro e
  induction e with
  | zero => intro b _; rfl
  | succ e ih =>
    intro b h
    rw [fB, if_neg (h b (Nat.le_refl _) (by omega))]
    exact ih (b + 1) (fun x h1 h2 => h x (by omega) (by omega))
theorem fB_skip {s : FSt} {j a : Nat} : ∀ (n e b : Nat), (∀ x, b ≤ x → x < b + n → ¬ tdc s j a x = true) → fB s j a (n + e) b = fB s j a e (b + n) := by
  intro n
  induction n with
  | zero => intro e b _; rw [Nat.zero_add, Nat.add_zero]
  | succ n ih =>
    intro e b h
    rw [show n + 1 + e = (n + e) + 1 by omega, fB, if_neg (h b (Nat.le_refl _) (by omega)), ih e (b + 1) (fun x h1 h2 => h x (by omega) (by omega)), show b + 1 + n = b + (n + 1) by omega]
theorem fB_some {s : FSt} {j a x : Nat} : ∀ (e b : Nat), fB s j a e b = some x → tdc s j a x = true ∧ b ≤ x ∧ x < b + e := by
  intro e
  induction e with
  | zero => intro b h; cases h
  | succ e ih =>
    intro b h
    rw [fB] at h
    split at h
    · rename_i ht
      cases h
      exact ⟨ht, Nat.le_refl _, by omega⟩
    · have := ih (b + 1) h
      exact ⟨this.1, by omega, by omega⟩
theorem fA_none {s : FSt} {F j : Nat} : ∀ (e a : Nat), (∀ x, a ≤ x → x < a + e → fB s j x F 0 = none) → fA s F j e a = none := by
  intro e
  induction e with
  | zero => intro a _; rfl
  | succ e ih =>
    intro a h
    rw [fA, h a (Nat.le_refl _) (by omega)]
    exact ih (a + 1) (fun x h1 h2 => h x (by omega) (by omega))
theorem fA_skip {s : FSt} {F j : Nat} : ∀ (n e a : Nat), (∀ x, a ≤ x → x < a + n → fB s j x F 0 = none) → fA s F j (n + e) a = fA s F j e (a + n) := by
  intro n
  induction n with
  | zero => intro e b _; rw [Nat.zero_add, Nat.add_zero]
  | succ n ih =>
    intro e b h
    rw [show n + 1 + e = (n + e) + 1 by omega, fA, h b (Nat.le_refl _) (by omega)]
    (try dsimp only)
    rw [ih e (b + 1) (fun x h1 h2 => h x (by omega) (by omega)), show b + 1 + n = b + (n + 1) by omega]
theorem fA_some {s : FSt} {F j : Nat} {q : Nat × Nat} : ∀ (e a : Nat), fA s F j e a = some q → tdc s j q.1 q.2 = true ∧ q.1 < a + e ∧ q.2 < F := by
  intro e
  induction e with
  | zero => intro b h; cases h
  | succ e ih =>
    intro a h
    rw [fA] at h
    split at h
    · rename_i b hb
      cases h
      have := fB_some _ _ hb
      exact ⟨this.1, by (try dsimp only); omega, by (try dsimp only); omega⟩
    · have := ih (a + 1) h
      exact ⟨this.1, by omega, this.2.2⟩
theorem fJ_some {s : FSt} {F : Nat} {q : Nat × Nat × Nat} : ∀ (e j : Nat), fJ s F e j = some q → tdc s q.1 q.2.1 q.2.2 = true ∧ q.1 < j + e ∧ q.2.1 < F ∧ q.2.2 < F := by
  intro e
  induction e with
  | zero => intro b h; cases h
  | succ e ih =>
    intro a h
    rw [fJ] at h
    split at h
    · rename_i b hb
      cases h
      have := fA_some _ _ hb
      exact ⟨this.1, by (try dsimp only); omega, by (try dsimp only); omega, this.2.2⟩
    · have := ih (a + 1) h
      exact ⟨this.1, by omega, this.2.2⟩
theorem fJ_none {s : FSt} {F : Nat} : ∀ (e j : Nat), (∀ x a b, ¬ tdc s x a b = true) → fJ s F e j = none := by
  intro e
  induction e with
  | zero => intro b h; rfl
  | succ e ih =>
    intro j h
    rw [fJ, fA_none F 0 (fun x _ _ => fB_none F 0 (fun y _ _ => h j x y))]
    exact ih (j + 1) h
/-- what holds of a table -/
def TI (J F : Nat) (fi la c : Nat → Int) (room : Int) (s : FSt) : Prop := fl_ok J F fi la c room (fun _ => 0) s.1 s.2 ∧ (∀ i k', (J ≤ i ∨ F ≤ k') → s.2 i k' = 0)
section TIDY
variable {J F : Nat} {room : Int} {fi la c : Nat → Int} {s : FSt}
theorem fout_TI (P : fout J F fi la c room J s) : TI J F fi la c room s := ⟨fl_ok_lf P.1 (fun i hi => by unfold lfJ; rw [if_pos hi]), P.2.2.2⟩
theorem TI.mv (P : TI J F fi la c room s) {j a b : Nat} (hj : j < J) (ha : a < F) (hb : b < F) (t : tdc s j a b = true) : TI J F fi la c room (tmv s j a b) := by
  obtain ⟨t1, t2, t3, t4⟩ := tdc_iff.mp t
  obtain ⟨p1, p2⟩ := P
  have wa := p1.2.1 j a hj ha (by omega)
  have wb := p1.2.1 j b hj hb (by omega)
  have q1 := put_ok p1 (b := j) (k := a) (a := -(s.2 j a)) hj ha (by omega) (by have := p1.1 j a hj ha; (try dsimp only); omega) (by have := (p1.2.2.2 a ha).1; have := p1.1 j a hj ha; omega) wa.1 wa.2
  have q2 := put_ok q1 (b := j) (k := b) (a := s.2 j a) hj hb (by rw [put1_ne (by omega)]; omega) (by rw [up_eq]; (try dsimp only); omega) (by rw [up_ne t1]; exact t4) wb.1 wb.2
  refine ⟨fl_ok_lf q2 (fun i hi => ?_), fun i k' h => ?_⟩
  · by_cases e : i = j
    · rw [e, up_eq, up_eq]; omega
    · rw [up_ne e, up_ne e]
  · show put1 (put1 s.2 j a (-(s.2 j a))) j b (s.2 j a) i k' = 0
    rw [put1_ne (by omega), put1_ne (by omega)]
    exact p2 i k' h
def pcs (J F : Nat) (u : Nat → Nat → Int) : Int := sm J (fun j => sm F (fun k => if 0 < u j k then 1 else 0))
theorem pcs_mv {j a b : Nat} (hj : j < J) (ha : a < F) (hb : b < F) (t : tdc s j a b = true) : pcs J F (tmv s j a b).2 = pcs J F s.2 - 1 := by
  obtain ⟨t1, t2, t3, t4⟩ := tdc_iff.mp t
  unfold pcs
  have ne : ∀ i k, ¬ (i = j ∧ (k = a ∨ k = b)) → (tmv s j a b).2 i k = s.2 i k := fun i k h => by
    show put1 (put1 s.2 j a (-(s.2 j a))) j b (s.2 j a) i k = _
    rw [put1_ne (by omega), put1_ne (by omega)]
  have ea : (tmv s j a b).2 j a = 0 := by
    show put1 (put1 s.2 j a (-(s.2 j a))) j b (s.2 j a) j a = _
    rw [put1_ne (by omega), put1_eq]; omega
  have eb : 0 < (tmv s j a b).2 j b := by
    show 0 < put1 (put1 s.2 j a (-(s.2 j a))) j b (s.2 j a) j b
    rw [put1_eq, put1_ne (by omega)]; omega
  have e1 := sm_up (n := J) (f := fun j => sm F (fun k => if 0 < s.2 j k then (1 : Int) else 0)) (g := fun i => sm F (fun k => if 0 < (tmv s j a b).2 i k then (1 : Int) else 0)) hj (fun i _ hne => by
    (try dsimp only)
    exact sm_congr (fun k _ => by rw [ne i k (by omega)]))
  have e2 := sm_up (n := F) (f := fun k => if 0 < s.2 j k then (1 : Int) else 0) (g := fun k => if 0 < (tmv s j a b).2 j k then (1 : Int) else 0) ha (fun k _ hne => by
    (try dsimp only)
    by_cases e : k = b
    · rw [e, if_pos eb, if_pos t3]
    · rw [ne j k (by omega)])
  (try dsimp only at e1 e2)
  rw [ea, if_neg (by omega), if_pos t2] at e2
  omega
theorem pcs_0 (P : TI J F fi la c room s) (hz : pcs J F s.2 ≤ 0) : ∀ j a b, ¬ tdc s j a b = true := by
  intro j a b t
  obtain ⟨t1, t2, t3, t4⟩ := tdc_iff.mp t
  have hj : j < J := Classical.byContradiction (fun hn => by have := P.2 j a (by omega); omega)
  have ha : a < F := Classical.byContradiction (fun hn => by have := P.2 j a (by omega); omega)
  have nn : ∀ i, i < J → 0 ≤ sm F (fun k => if 0 < s.2 i k then (1 : Int) else 0) := fun i _ => sm_nn (fun k _ => by (try dsimp only); split <;> omega)
  have h1 := sm_ge (n := J) (f := fun i => sm F (fun k => if 0 < s.2 i k then (1 : Int) else 0)) nn hj
  have h2 := sm_ge (n := F) (f := fun k => if 0 < s.2 j k then (1 : Int) else 0) (fun k _ => by (try dsimp only); split <;> omega) ha
  (try dsimp only at h1 h2)
  rw [if_pos t2] at h2
  unfold pcs at hz
  omega
theorem pcs_le (J F : Nat) (u : Nat → Nat → Int) : 0 ≤ pcs J F u ∧ pcs J F u ≤ F * J := by
  unfold pcs
  refine sm_bd (fun j _ => ?_)
  have := sm_bd (n := F) (f := fun k => if 0 < u j k then (1 : Int) else 0) (B := 1) (fun k _ => by (try dsimp only); split <;> omega)
  omega
theorem TI.it (P : TI J F fi la c room s) : ∀ (e : Nat), TI J F fi la c room (titer J F e s).2 := by
  intro e
  induction e generalizing s with
  | zero => exact P
  | succ e ih =>
    rw [titer]
    split
    · exact P
    · rename_i q hq
      have := fJ_some _ _ hq
      exact ih (P.mv (by omega) this.2.2.1 this.2.2.2 this.1)
theorem titer_b (e : Nat) (s : FSt) : 0 ≤ (titer J F e s).1 ∧ (titer J F e s).1 ≤ e := by
  induction e generalizing s with
  | zero => exact ⟨Int.le_refl _, Int.le_refl _⟩
  | succ e ih =>
    rw [titer]
    split
    · exact ⟨Int.le_refl _, by (try dsimp only); omega⟩
    · rename_i q hq
      have := ih (tmv s q.1 q.2.1 q.2.2)
      (try dsimp only)
      omega
end TIDY
def oI : Option Nat → Int
  | none => -1
  | some b => b
/-! ===== the class tidies ===== -/
section TIDYC
variable {h : jm_H} {f J F : Nat} {room : Int} {fi la c : Nat → Int} {s : FSt}
theorem TI_ub (hw : WN J F fi la c room) (P : TI J F fi la c room s) : (∀ j k, j < J → k < F → 0 ≤ s.2 j k ∧ s.2 j k ≤ 60) ∧ (∀ k, k < F → 0 ≤ s.1 k ∧ s.1 k ≤ 100) := by
  refine ⟨fun j k hj hk => ?_, slB hw P.1⟩
  have a := P.1.2.2.1 j hj
  have d := sm_ge (n := F) (f := s.2 j) (fun k' hk' => P.1.1 j k' hj hk') hk
  have := hw.2.2.1 j hj
  have := P.1.1 j k hj hk
  (try dsimp only at a)
  omega
theorem s_of_6 (hw : WN J F fi la c room) (S : FS h f J F room fi la c) (D : FD h f J F (fun _ => 0) s.1 s.2) (P : TI J F fi la c room s) {j a : Nat} (hj : j < J) (ha : a < F) (hpa : 0 < s.2 j a) : ∀ (e n : Nat), n + e = F → l_Table_otherFrameFor_6 f (zI j) (zI a) (zI n) h (some (jm_i (zI (oI (fB s j a e n)))), h) := by
  have hJ := hw.1
  have wj := hw.2.2.1 j hj
  have s8 := S.2.2.2.2.2.2.2.1 j hj
  obtain ⟨ub, lb⟩ := TI_ub hw P
  have ua := ub j a hj ha
  have hi : jm_in (zI (j : Int)) 24 := zI_in (by omega) (by omega) (by omega)
  have hia : jm_in (zI (a : Int)) 24 := zI_in (by omega) (by omega) (by omega)
  have ela : h.1 17 f (zI (j : Int)).toNatClampNeg = zI (la j) := by rw [zI_cn (by omega)]; exact s8.1
  have eua : h.1 21 (24 * f + (zI (j : Int)).toNatClampNeg) (zI (a : Int)).toNatClampNeg = zI (s.2 j a) := by rw [zI_cn (by omega), zI_cn (by omega)]; exact D.2.2 j a hj (by omega)
  intro e
  induction e with
  | zero =>
    intro n en
    refine wp_Table_otherFrameFor_6 ⟨hi, fun _ => rfl, fun hc => ?_⟩
    rw [ela, zI_lt (by omega) (by omega) (by omega) (by omega)] at hc; omega
  | succ e ih =>
    intro n en
    have hn : n < F := by omega
    by_cases hl : la j < n
    · rw [fB_none (e + 1) n (fun x h1 h2 ht => by
        have := (tdc_iff.mp ht).2.2.1
        have := P.1.2.1 j x hj (by omega) (by omega)
        omega)]
      refine wp_Table_otherFrameFor_6 ⟨hi, fun _ => rfl, fun hc => ?_⟩
      rw [ela, zI_lt (by omega) (by omega) (by omega) (by omega)] at hc; omega
    · have un := ub j n hj hn
      have ln := lb n hn
      have eun : h.1 21 (24 * f + (zI (j : Int)).toNatClampNeg) (zI (n : Int)).toNatClampNeg = zI (s.2 j n) := by rw [zI_cn (by omega), zI_cn (by omega)]; exact D.2.2 j n hj (by omega)
      have esn : h.1 19 f (zI (n : Int)).toNatClampNeg = zI (s.1 n) := by rw [zI_cn (by omega)]; exact D.2.1 n hn
      have hin : jm_in (zI (n : Int)) 24 := zI_in (by omega) (by omega) (by omega)
      have go := ih (n + 1) (by omega)
      have skip : ¬ tdc s j a n = true → l_Table_otherFrameFor_6 f (zI j) (zI a) (zI n + 1) h (some (jm_i (zI (oI (fB s j a (e + 1) n)))), h) := fun hnt => by
        rw [fB, if_neg hnt, zl_1, zI_add]; exact go
      refine wp_Table_otherFrameFor_6 ⟨hi, fun hc => ?_, fun _ => ⟨fun hc => skip ?_, fun hc => ⟨hi, hin, fun hc2 => skip ?_, fun hc2 => ⟨hin, hi, hia, fun hc3 => skip ?_, fun hc3 => ?_⟩⟩⟩⟩
      · rw [ela, zI_lt (by omega) (by omega) (by omega) (by omega)] at hc; omega
      · rw [zI_eq (by omega) (by omega) (by omega) (by omega)] at hc
        intro ht; have := (tdc_iff.mp ht).1; omega
      · rw [eun, zl_0, zI_le (by omega) (by omega) (by omega) (by omega)] at hc2
        intro ht; have := (tdc_iff.mp ht).2.2.1; omega
      · rw [esn, eua, zI_lt (by omega) (by omega) (by omega) (by omega)] at hc3
        intro ht; have := (tdc_iff.mp ht).2.2.2; omega
      · rw [zI_eq (by omega) (by omega) (by omega) (by omega)] at hc
        rw [eun, zl_0, zI_le (by omega) (by omega) (by omega) (by omega)] at hc2
        rw [esn, eua, zI_lt (by omega) (by omega) (by omega) (by omega)] at hc3
        rw [fB, if_pos (tdc_iff.mpr ⟨by omega, hpa, by omega, by omega⟩)]; rfl
theorem s_otherFrame (hw : WN J F fi la c room) (S : FS h f J F room fi la c) (D : FD h f J F (fun _ => 0) s.1 s.2) (P : TI J F fi la c room s) {j a : Nat} (hj : j < J) (ha : a < F) (hpa : 0 < s.2 j a) : m_Table_otherFrameFor f (zI j) (zI a) h (zI (oI (fB s j a F 0))) h := by
  have hJ := hw.1
  have wj := hw.2.2.1 j hj
  have s7 := S.2.2.2.2.2.2.1 j hj
  obtain ⟨x, ex⟩ : ∃ x : Nat, fi j = (x : Int) := ⟨(fi j).toNat, by omega⟩
  have := s_of_6 hw S D P hj ha hpa (F - x) x (by omega)
  rw [show fB s j a (F - x) x = fB s j a F 0 by
    have := fB_skip (s := s) (j := j) (a := a) x (F - x) 0 (fun y h1 h2 ht => by
      have := (tdc_iff.mp ht).2.2.1
      have := P.1.2.1 j y hj (by omega) (by omega)
      omega)
    rw [show x + (F - x) = F by omega, Nat.zero_add] at this
    exact this.symm] at this
  refine wp_Table_otherFrameFor ⟨zI_in (by omega) (by omega) (by omega), ?_⟩
  rw [zI_cn (by omega), s7.1, ex]
  exact this
theorem s_to_13 (hw : WN J F fi la c room) (S : FS h f J F room fi la c) (D : FD h f J F (fun _ => 0) s.1 s.2) (P : TI J F fi la c room s) {j : Nat} (hj : j < J) : ∀ (e n : Nat), n + e = F → (fA s F j e n = none → ∀ r, l_Table_tidyOnce_2 f (zI j + 1) h r → l_Table_tidyOnce_13 f (zI j) (zI n) h r) ∧ (∀ q, fA s F j e n = some q → ∃ h', l_Table_tidyOnce_13 f (zI j) (zI n) h (some (jm_i 1), h') ∧ FD h' f J F (fun _ => 0) (tmv s j q.1 q.2).1 (tmv s j q.1 q.2).2 ∧ Ch (cD f) h h') := by
  have hJ := hw.1
  have wj := hw.2.2.1 j hj
  have s8 := S.2.2.2.2.2.2.2.1 j hj
  obtain ⟨ub, lb⟩ := TI_ub hw P
  have hi : jm_in (zI (j : Int)) 24 := zI_in (by omega) (by omega) (by omega)
  have ela : h.1 17 f (zI (j : Int)).toNatClampNeg = zI (la j) := by rw [zI_cn (by omega)]; exact s8.1
  intro e
  induction e with
  | zero =>
    intro n en
    refine ⟨fun _ r hr => wp_Table_tidyOnce_13 ⟨hi, fun _ => hr, fun hc => ?_⟩, fun q hq => by cases hq⟩
    rw [ela, zI_lt (by omega) (by omega) (by omega) (by omega)] at hc; omega
  | succ e ih =>
    intro n en
    have hn : n < F := by omega
    have un := ub j n hj hn
    have eun : h.1 21 (24 * f + (zI (j : Int)).toNatClampNeg) (zI (n : Int)).toNatClampNeg = zI (s.2 j n) := by rw [zI_cn (by omega), zI_cn (by omega)]; exact D.2.2 j n hj (by omega)
    have hin : jm_in (zI (n : Int)) 24 := zI_in (by omega) (by omega) (by omega)
    obtain ⟨g1, g2⟩ := ih (n + 1) (by omega)
    have en1 : zI (n : Int) + 1 = zI ((n + 1 : Nat) : Int) := by rw [zl_1, zI_add]; rfl
    by_cases hl : la j < n
    · have hno : fA s F j (e + 1) n = none := fA_none (e + 1) n (fun x h1 h2 => fB_none F 0 (fun y h3 h4 ht => by
        have := (tdc_iff.mp ht).2.1
        have := P.1.2.1 j x hj (by omega) (by omega)
        omega))
      refine ⟨fun _ r hr => wp_Table_tidyOnce_13 ⟨hi, fun _ => hr, fun hc => ?_⟩, fun q hq => by rw [hno] at hq; cases hq⟩
      rw [ela, zI_lt (by omega) (by omega) (by omega) (by omega)] at hc; omega
    · by_cases hp : 0 < s.2 j n
      · have hof := s_otherFrame hw S D P hj hn hp
        rw [fA]
        cases hb : fB s j n F 0 with
        | none =>
          rw [hb] at hof
          (try dsimp only)
          refine ⟨fun hno r hr => wp_Table_tidyOnce_13 ⟨hi, fun _ => hr, fun _ => ⟨hi, hin, fun hc => ?_, fun _ => ⟨_, h, hof, fun _ => ?_, fun hc => ?_⟩⟩⟩, fun q hq => ?_⟩
          · rw [eun, zl_0, zI_le (by omega) (by omega) (by omega) (by omega)] at hc; omega
          · rw [en1]; exact g1 hno r hr
          · exact absurd (show zI (oI none) < 0 by decide) hc
          · obtain ⟨h', r1, r2, r3⟩ := g2 q hq
            refine ⟨h', wp_Table_tidyOnce_13 ⟨hi, fun hc => ?_, fun _ => ⟨hi, hin, fun hc => ?_, fun _ => ⟨_, h, hof, fun _ => ?_, fun hc => ?_⟩⟩⟩, r2, r3⟩
            · rw [ela, zI_lt (by omega) (by omega) (by omega) (by omega)] at hc; omega
            · rw [eun, zl_0, zI_le (by omega) (by omega) (by omega) (by omega)] at hc; omega
            · rw [en1]; exact r1
            · exact absurd (show zI (oI none) < 0 by decide) hc
        | some b =>
          rw [hb] at hof
          (try dsimp only)
          refine ⟨fun hno => (by cases hno), fun q hq => ?_⟩
          cases hq
          (try dsimp only)
          obtain ⟨t, _, hbF⟩ := fB_some _ _ hb
          rw [Nat.zero_add] at hbF
          obtain ⟨h1, p1, p2, p3⟩ := s_put S D hj hn (-(s.2 j n))
          obtain ⟨h2, q1, q2, q3⟩ := s_put (S.ch p2) p3 hj hbF (s.2 j n)
          refine ⟨h2, wp_Table_tidyOnce_13 ⟨hi, fun hc => ?_, fun _ => ⟨hi, hin, fun hc => ?_, fun _ => ⟨_, h, hof, fun hc => ?_, fun _ => ⟨h1, ?_, h2, ?_, rfl⟩⟩⟩⟩, ⟨fun i hi => ?_, q3.2.1, q3.2.2⟩, p2.tr q2⟩
          · rw [ela, zI_lt (by omega) (by omega) (by omega) (by omega)] at hc; omega
          · rw [eun, zl_0, zI_le (by omega) (by omega) (by omega) (by omega)] at hc; omega
          · rw [show oI (some b) = (b : Int) from rfl, zl_0, zI_lt (by omega) (by omega) (by omega) (by omega)] at hc; omega
          · rw [eun, zI_neg]; exact p1
          · rw [eun]; exact q1
          · rw [q3.1 i hi]
            congr 1
            by_cases e : i = j
            · rw [e, up_eq, up_eq]; (try dsimp only); omega
            · rw [up_ne e, up_ne e]
      · have hno : fB s j n F 0 = none := fB_none F 0 (fun y h3 h4 ht => by
          have := (tdc_iff.mp ht).2.1
          omega)
        rw [fA, hno]
        (try dsimp only)
        refine ⟨fun hx r hr => wp_Table_tidyOnce_13 ⟨hi, fun _ => hr, fun _ => ⟨hi, hin, fun _ => ⟨fun _ => ?_, fun hc => absurd (by decide) hc⟩, fun hc => ?_⟩⟩, fun q hq => ?_⟩
        · rw [en1]; exact g1 hx r hr
        · rw [eun, zl_0, zI_le (by omega) (by omega) (by omega) (by omega)] at hc; omega
        · obtain ⟨h', r1, r2, r3⟩ := g2 q hq
          refine ⟨h', wp_Table_tidyOnce_13 ⟨hi, fun hc => ?_, fun _ => ⟨hi, hin, fun _ => ⟨fun _ => ?_, fun hc => absurd (by decide) hc⟩, fun hc => ?_⟩⟩, r2, r3⟩
          · rw [ela, zI_lt (by omega) (by omega) (by omega) (by omega)] at hc; omega
          · rw [en1]; exact r1
          · rw [eun, zl_0, zI_le (by omega) (by omega) (by omega) (by omega)] at hc; omega
theorem s_to_2 (hw : WN J F fi la c room) (S : FS h f J F room fi la c) (D : FD h f J F (fun _ => 0) s.1 s.2) (P : TI J F fi la c room s) : ∀ (e j : Nat), j + e = J → (fJ s F e j = none → l_Table_tidyOnce_2 f (zI j) h (some (jm_i 0), h)) ∧ (∀ q, fJ s F e j = some q → ∃ h', l_Table_tidyOnce_2 f (zI j) h (some (jm_i 1), h') ∧ FD h' f J F (fun _ => 0) (tmv s q.1 q.2.1 q.2.2).1 (tmv s q.1 q.2.1 q.2.2).2 ∧ Ch (cD f) h h') := by
  have hJ := hw.1
  have s6 := S.2.2.2.2.2.1
  intro e
  induction e with
  | zero =>
    intro j ej
    refine ⟨fun _ => wp_Table_tidyOnce_2 ⟨fun _ => rfl, fun hc => ?_⟩, fun q hq => by cases hq⟩
    rw [s6, zI_le (by omega) (by omega) (by omega) (by omega)] at hc; omega
  | succ e ih =>
    intro j ej
    have hj : j < J := by omega
    have wj := hw.2.2.1 j hj
    have s7 := S.2.2.2.2.2.2.1 j hj
    obtain ⟨x, ex⟩ : ∃ x : Nat, fi j = (x : Int) := ⟨(fi j).toNat, by omega⟩
    have hi : jm_in (zI (j : Int)) 24 := zI_in (by omega) (by omega) (by omega)
    have eA : fA s F j (F - x) x = fA s F j F 0 := by
      have := fA_skip (s := s) (F := F) (j := j) x (F - x) 0 (fun y h1 h2 => fB_none F 0 (fun z h3 h4 ht => by
        have := (tdc_iff.mp ht).2.1
        have := P.1.2.1 j y hj (by omega) (by omega)
        omega))
      rw [show x + (F - x) = F by omega, Nat.zero_add] at this
      exact this.symm
    obtain ⟨a1, a2⟩ := s_to_13 hw S D P hj (F - x) x (by omega)
    rw [eA] at a1 a2
    obtain ⟨g1, g2⟩ := ih (j + 1) (by omega)
    have en1 : zI (j : Int) + 1 = zI ((j + 1 : Nat) : Int) := by rw [zl_1, zI_add]; rfl
    rw [fJ]
    cases hA : fA s F j F 0 with
    | none =>
      (try dsimp only)
      refine ⟨fun hno => wp_Table_tidyOnce_2 ⟨fun _ => rfl, fun _ => ⟨hi, ?_⟩⟩, fun q hq => ?_⟩
      · rw [zI_cn (by omega), s7.1, ex]
        exact a1 hA _ (by rw [en1]; exact g1 hno)
      · obtain ⟨h', r1, r2, r3⟩ := g2 q hq
        refine ⟨h', wp_Table_tidyOnce_2 ⟨fun hc => ?_, fun _ => ⟨hi, ?_⟩⟩, r2, r3⟩
        · rw [s6, zI_le (by omega) (by omega) (by omega) (by omega)] at hc; omega
        · rw [zI_cn (by omega), s7.1, ex]
          exact a1 hA _ (by rw [en1]; exact r1)
    | some q0 =>
      (try dsimp only)
      refine ⟨fun hno => (by cases hno), fun q hq => ?_⟩
      cases hq
      obtain ⟨h', r1, r2, r3⟩ := a2 q0 hA
      refine ⟨h', wp_Table_tidyOnce_2 ⟨fun hc => ?_, fun _ => ⟨hi, ?_⟩⟩, r2, r3⟩
      · rw [s6, zI_le (by omega) (by omega) (by omega) (by omega)] at hc; omega
      · rw [zI_cn (by omega), s7.1, ex]; exact r1
def cDT (f : Nat) : Nat → Nat → Nat → Prop := fun K i j => cD f K i j ∨ (K = 6 ∧ i = f)
theorem FS.cDT {h h' : jm_H} (S : FS h f J F room fi la c) (a : Ch (cDT f) h h') : FS h' f J F room fi la c := by
  have e : ∀ K i j, K ≠ 18 → K ≠ 19 → K ≠ 21 → K ≠ 6 → h'.1 K i j = h.1 K i j := fun K i j h1 h2 h3 h4 => a.at (by unfold Jvm.Pilot.CFrameRoundLaw_law_r7718_4414e1.cDT cD; omega)
  obtain ⟨s1, s2, s3, s4, s5, s6, s7, s8, s9⟩ := S
  refine ⟨s1, s2, s3, ?_, ?_, ?_, fun j hj => ?_, fun j hj => ?_, fun j hj => ?_⟩
  · rw [e _ _ _ (by decide) (by decide) (by decide) (by decide)]; exact s4
  · rw [e _ _ _ (by decide) (by decide) (by decide) (by decide)]; exact s5
  · rw [e _ _ _ (by decide) (by decide) (by decide) (by decide)]; exact s6
  · rw [e _ _ _ (by decide) (by decide) (by decide) (by decide)]; exact s7 j hj
  · rw [e _ _ _ (by decide) (by decide) (by decide) (by decide)]; exact s8 j hj
  · rw [e _ _ _ (by decide) (by decide) (by decide) (by decide)]; exact s9 j hj
theorem s_tidy_2 (hw : WN J F fi la c room) : ∀ (e n : Nat) (h : jm_H) (s : FSt) (w : Int), n + e = 576 → FS h f J F room fi la c → FD h f J F (fun _ => 0) s.1 s.2 → TI J F fi la c room s → h.1 6 f 3 = zI w → ∃ h', l_Table_tidy_2 f (zI n) h (none, h') ∧ FD h' f J F (fun _ => 0) (titer J F e s).2.1 (titer J F e s).2.2 ∧ h'.1 6 f 3 = zI (w + (titer J F e s).1) ∧ Ch (fun K i j => cD f K i j ∨ (K = 6 ∧ i = f ∧ j = 3)) h h' := by
  intro e
  induction e with
  | zero =>
    intro n h s w en S D P hwv
    refine ⟨h, wp_Table_tidy_2 ⟨fun _ => rfl, fun hc => ?_⟩, D, by rw [hwv]; congr 1; rw [titer]; (try dsimp only); omega, Ch.rf h⟩
    rw [zl_576, zI_le (by omega) (by omega) (by omega) (by omega)] at hc; omega
  | succ e ih =>
    intro n h s w en S D P hwv
    obtain ⟨t1, t2⟩ := s_to_2 hw S D P J 0 (by omega)
    rw [titer]
    cases hq : fJ s F J 0 with
    | none =>
      (try dsimp only)
      refine ⟨h, wp_Table_tidy_2 ⟨fun _ => rfl, fun _ => ⟨0, h, wp_Table_tidyOnce (t1 hq), fun _ => rfl, fun hc => absurd rfl hc⟩⟩, D, by rw [hwv, Int.add_zero], Ch.rf h⟩
    | some q =>
      (try dsimp only)
      obtain ⟨h1, r1, r2, r3⟩ := t2 q hq
      have hj := fJ_some _ _ hq
      have c2 : Ch (cDT f) h1 (jm_sI h1 6 f 3 (zI (w + 1))) := Ch.sI (Or.inr ⟨rfl, rfl⟩)
      obtain ⟨h', g1, g2, g3, g4⟩ := ih (n + 1) (jm_sI h1 6 f 3 (zI (w + 1))) (tmv s q.1 q.2.1 q.2.2) (w + 1) (by omega) ((S.ch r3).cDT c2) ⟨fun i hi => by rw [sI_ne (by omega)]; exact r2.1 i hi, fun k hk => by rw [sI_ne (by omega)]; exact r2.2.1 k hk, fun i k hi hk => by rw [sI_ne (by omega)]; exact r2.2.2 i k hi hk⟩ (P.mv (by omega) hj.2.2.1 hj.2.2.2 hj.1) sI_eq
      refine ⟨h', wp_Table_tidy_2 ⟨fun hc => ?_, fun _ => ⟨1, h1, wp_Table_tidyOnce r1, fun hc => absurd hc (by decide), fun _ => ?_⟩⟩, g2, ?_, ((r3.mono (fun K i j x => Or.inl x)).tr (Ch.sI (Or.inr ⟨rfl, rfl, rfl⟩))).tr g4⟩
      · rw [zl_576, zI_le (by omega) (by omega) (by omega) (by omega)] at hc; omega
      · rw [r3.at (by unfold cD; omega), hwv, zl_1, zI_add, zI_add]; exact g1
      · rw [g3]; congr 1; omega
theorem s_tidy {w : Int} (hw : WN J F fi la c room) (S : FS h f J F room fi la c) (D : FD h f J F (fun _ => 0) s.1 s.2) (P : TI J F fi la c room s) (hwv : h.1 6 f 3 = zI w) : ∃ h', m_Table_tidy f h h' ∧ FD h' f J F (fun _ => 0) (titer J F 576 s).2.1 (titer J F 576 s).2.2 ∧ h'.1 6 f 3 = zI (w + (titer J F 576 s).1) ∧ Ch (fun K i j => cD f K i j ∨ (K = 6 ∧ i = f ∧ j = 3)) h h' := by
  obtain ⟨h', r1, r2⟩ := s_tidy_2 (f := f) hw 576 0 h s w (by omega) S D P hwv
  exact ⟨h', wp_Table_tidy r1, r2⟩
theorem s_cp_15 (hw : WN J F fi la c room) (S : FS h f J F room fi la c) (D : FD h f J F (fun _ => 0) s.1 s.2) (P : TI J F fi la c room s) {j : Nat} (hj : j < J) : ∀ (e n : Nat) (w : Int) (r : jm_Rs), n + e = F → l_Table_countPieces_4 f (zI (w + (sm F (fun k => if 0 < s.2 j k then 1 else 0) - sm n (fun k => if 0 < s.2 j k then 1 else 0)))) (zI j + 1) h r → l_Table_countPieces_15 f (zI w) (zI j) (zI n) h r := by
  have hJ := hw.1
  have wj := hw.2.2.1 j hj
  have s8 := S.2.2.2.2.2.2.2.1 j hj
  obtain ⟨ub, lb⟩ := TI_ub hw P
  have hi : jm_in (zI (j : Int)) 24 := zI_in (by omega) (by omega) (by omega)
  have ela : h.1 17 f (zI (j : Int)).toNatClampNeg = zI (la j) := by rw [zI_cn (by omega)]; exact s8.1
  intro e
  induction e with
  | zero =>
    intro n w r en hr
    rw [show n = F by omega, Int.sub_self, Int.add_zero] at hr
    refine wp_Table_countPieces_15 ⟨hi, fun _ => hr, fun hc => ?_⟩
    rw [ela, zI_lt (by omega) (by omega) (by omega) (by omega)] at hc; omega
  | succ e ih =>
    intro n w r en hr
    have hn : n < F := by omega
    have un := ub j n hj hn
    have eun : h.1 21 (24 * f + (zI (j : Int)).toNatClampNeg) (zI (n : Int)).toNatClampNeg = zI (s.2 j n) := by rw [zI_cn (by omega), zI_cn (by omega)]; exact D.2.2 j n hj (by omega)
    have hin : jm_in (zI (n : Int)) 24 := zI_in (by omega) (by omega) (by omega)
    by_cases hl : la j < n
    · have ez : sm F (fun k => if 0 < s.2 j k then (1 : Int) else 0) = sm n (fun k => if 0 < s.2 j k then (1 : Int) else 0) := sm_tail (fun i h1 h2 => by
        (try dsimp only)
        rw [if_neg (fun hp => by have := P.1.2.1 j i hj h2 (by omega); omega)]) (by omega)
      rw [ez, Int.sub_self, Int.add_zero] at hr
      refine wp_Table_countPieces_15 ⟨hi, fun _ => hr, fun hc => ?_⟩
      rw [ela, zI_lt (by omega) (by omega) (by omega) (by omega)] at hc; omega
    · refine wp_Table_countPieces_15 ⟨hi, fun hc => ?_, fun _ => ⟨hi, hin, fun hc => ?_, fun hc => ?_⟩⟩
      · rw [ela, zI_lt (by omega) (by omega) (by omega) (by omega)] at hc; omega
      · rw [eun, zl_0, zI_le (by omega) (by omega) (by omega) (by omega)] at hc
        rw [zl_1, zI_add]
        refine ih (n + 1) w r (by omega) ?_
        rw [sm_s, if_neg (by omega), Int.add_zero]; exact hr
      · rw [eun, zl_0, zI_le (by omega) (by omega) (by omega) (by omega)] at hc
        rw [zl_1, zI_add, zI_add]
        refine ih (n + 1) (w + 1) r (by omega) ?_
        rw [sm_s, if_pos (by omega), show ∀ x y : Int, w + 1 + (x - (y + 1)) = w + (x - y) from fun x y => by omega]; exact hr
theorem s_cp_4 (hw : WN J F fi la c room) (S : FS h f J F room fi la c) (D : FD h f J F (fun _ => 0) s.1 s.2) (P : TI J F fi la c room s) : ∀ (e j : Nat) (w : Int), j + e = J → l_Table_countPieces_4 f (zI w) (zI j) h (some (jm_i (zI (w + (pcs J F s.2 - pcs j F s.2)))), h) := by
  have hJ := hw.1
  have s6 := S.2.2.2.2.2.1
  intro e
  induction e with
  | zero =>
    intro j w ej
    refine wp_Table_countPieces_4 ⟨fun _ => ?_, fun hc => ?_⟩
    · rw [show j = J by omega, Int.sub_self, Int.add_zero]
    · rw [s6, zI_le (by omega) (by omega) (by omega) (by omega)] at hc; omega
  | succ e ih =>
    intro j w ej
    have hj : j < J := by omega
    have wj := hw.2.2.1 j hj
    have s7 := S.2.2.2.2.2.2.1 j hj
    obtain ⟨x, ex⟩ : ∃ x : Nat, fi j = (x : Int) := ⟨(fi j).toNat, by omega⟩
    have ez : sm x (fun k => if 0 < s.2 j k then (1 : Int) else 0) = 0 := sm_zero (fun i hi => by
      (try dsimp only)
      rw [if_neg (fun hp => by have := P.1.2.1 j i hj (by omega) (by omega); omega)])
    refine wp_Table_countPieces_4 ⟨fun hc => ?_, fun _ => ⟨zI_in (by omega) (by omega) (by omega), ?_⟩⟩
    · rw [s6, zI_le (by omega) (by omega) (by omega) (by omega)] at hc; omega
    · rw [zI_cn (by omega), s7.1, ex]
      refine s_cp_15 hw S D P hj (F - x) x w _ (by omega) ?_
      rw [ez, Int.sub_zero, zl_1, zI_add]
      have := ih (j + 1) (w + sm F (fun k => if 0 < s.2 j k then 1 else 0)) (by omega)
      rw [show pcs (j + 1) F s.2 = pcs j F s.2 + sm F (fun k => if 0 < s.2 j k then 1 else 0) from rfl, show ∀ x y z : Int, w + x + (y - (z + x)) = w + (y - z) from fun x y z => by omega] at this
      exact this
theorem s_countPieces (hw : WN J F fi la c room) (S : FS h f J F room fi la c) (D : FD h f J F (fun _ => 0) s.1 s.2) (P : TI J F fi la c room s) : m_Table_countPieces f h (zI (pcs J F s.2)) h := by
  have := s_cp_4 hw S D P J 0 0 (by omega)
  rw [show pcs 0 F s.2 = 0 from rfl, Int.sub_zero, Int.zero_add] at this
  exact wp_Table_countPieces this
end TIDYC
