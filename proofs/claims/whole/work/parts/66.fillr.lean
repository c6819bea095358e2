/-! ===== the reference fills ===== -/
def ML (h : jm_H) (F : Nat) (sl : Nat → Int) : Prop := ∀ k, k < F → h.1 50 0 k = zI (sl k)
def MU (h : jm_H) (u : Nat → Nat → Int) : Prop := ∀ j k, j < 24 → k < 24 → h.1 49 0 (24 * j + k) = zI (u j k)
def MW (h : jm_H) (W : Nat → Nat → Int) : Prop := ∀ a b, a < 24 → b < 24 → h.1 51 0 (24 * a + b) = zI (W a b)
def c51 : Nat → Nat → Nat → Prop := fun K _ _ => K = 51
def cFl : Nat → Nat → Nat → Prop := fun K _ _ => 49 ≤ K ∧ K ≤ 51
theorem MS.c51 {h h' : jm_H} {J F : Nat} {room : Int} {fi la c : Nat → Int} (s : MS h J F room fi la c) (a : Ch c51 h h') : MS h' J F room fi la c := s.chg (fun K j hK => a.at (by unfold Jvm.Pilot.CFrameRoundLaw_law_r7718_4414e1.c51; omega))
theorem MS.cFl {h h' : jm_H} {J F : Nat} {room : Int} {fi la c : Nat → Int} (s : MS h J F room fi la c) (a : Ch cFl h h') : MS h' J F room fi la c := s.chg (fun K j hK => a.at (by unfold Jvm.Pilot.CFrameRoundLaw_law_r7718_4414e1.cFl; omega))
theorem ML.c51 {h h' : jm_H} {F : Nat} {sl : Nat → Int} (s : ML h F sl) (a : Ch c51 h h') : ML h' F sl := fun k hk => by rw [a.at (by unfold Jvm.Pilot.CFrameRoundLaw_law_r7718_4414e1.c51; omega)]; exact s k hk
theorem MU.c51 {h h' : jm_H} {u : Nat → Nat → Int} (s : MU h u) (a : Ch c51 h h') : MU h' u := fun j k hj hk => by rw [a.at (by unfold Jvm.Pilot.CFrameRoundLaw_law_r7718_4414e1.c51; omega)]; exact s j k hj hk
theorem MW.put {h : jm_H} {W : Nat → Nat → Int} (s : MW h W) {x y : Nat} (hx : x < 24) (hy : y < 24) (v : Int) : MW (jm_sI h 51 0 (24 * x + y) (zI (W x y) + zI v)) (put1 W x y v) := fun a b ha hb => by
  by_cases e : a = x ∧ b = y
  · obtain ⟨rfl, rfl⟩ := e
    rw [sI_eq, put1_eq, zI_add]
  · rw [sI_ne (by omega), put1_ne e]; exact s a b ha hb
section FILLR
variable {J F : Nat} {room : Int} {fi la c : Nat → Int} {sl : Nat → Int} {j k : Nat} {rest : Int}
/-- what is asked of frames by column -/
def Wt (J : Nat) (fi la c : Nat → Int) (j k : Nat) (rest : Int) (n a b : Nat) : Int := (if a = k + 1 ∧ la j = (b : Int) then rest else 0) + sm n (fun i => if j < i ∧ fi i = (a : Int) ∧ la i = (b : Int) then c i else 0)
def wcp (J : Nat) (fi la c : Nat → Int) (j k : Nat) (rest : Int) (a n b : Nat) : Int := (if a ≤ k + 1 ∧ k + 1 < n ∧ la j = (b : Int) then rest else 0) + sm J (fun i => if j < i ∧ (a : Int) ≤ fi i ∧ fi i < (n : Int) ∧ la i = (b : Int) then c i else 0)
theorem wcp_s (a n b : Nat) (han : a ≤ n) : wcp J fi la c j k rest a (n + 1) b = wcp J fi la c j k rest a n b + Wt J fi la c j k rest J n b := by
  unfold wcp Wt
  have e : sm J (fun i => if j < i ∧ (a : Int) ≤ fi i ∧ fi i < ((n + 1 : Nat) : Int) ∧ la i = (b : Int) then c i else 0) = sm J (fun i => if j < i ∧ (a : Int) ≤ fi i ∧ fi i < (n : Int) ∧ la i = (b : Int) then c i else 0) + sm J (fun i => if j < i ∧ fi i = (n : Int) ∧ la i = (b : Int) then c i else 0) := by
    rw [← sm_add]
    refine sm_congr (fun i _ => ?_)
    (try dsimp only)
    by_cases h1 : j < i ∧ la i = (b : Int)
    · by_cases h2 : (a : Int) ≤ fi i ∧ fi i < (n : Int)
      · rw [if_pos (by omega), if_pos (by omega), if_neg (by omega)]; omega
      · by_cases h3 : fi i = (n : Int)
        · rw [if_pos (by omega), if_neg (by omega), if_pos (by omega)]; omega
        · rw [if_neg (by omega), if_neg (by omega), if_neg (by omega)]; rfl
    · rw [if_neg (by omega), if_neg (by omega), if_neg (by omega)]; rfl
  rw [e]
  have e2 : (if a ≤ k + 1 ∧ k + 1 < n + 1 ∧ la j = (b : Int) then rest else 0) = (if a ≤ k + 1 ∧ k + 1 < n ∧ la j = (b : Int) then rest else 0) + (if n = k + 1 ∧ la j = (b : Int) then rest else 0) := by
    by_cases h1 : la j = (b : Int)
    · by_cases h2 : a ≤ k + 1 ∧ k + 1 < n
      · rw [if_pos (by omega), if_pos (by omega), if_neg (by omega)]; omega
      · by_cases h3 : n = k + 1
        · rw [if_pos (by omega), if_neg (by omega), if_pos (by omega)]; omega
        · rw [if_neg (by omega), if_neg (by omega), if_neg (by omega)]; rfl
    · rw [if_neg (by omega), if_neg (by omega), if_neg (by omega)]; rfl
  rw [e2]; omega
theorem wcp_0 (a b : Nat) : wcp J fi la c j k rest a a b = 0 := by
  unfold wcp
  rw [if_neg (by omega), sm_zero (fun i _ => if_neg (by omega))]; rfl
/-- all that is asked of the frames from a to ahead of n alone -/
def AL (J : Nat) (fi la c : Nat → Int) (j k : Nat) (rest : Int) (a n : Nat) : Int := ltN J fi la c j a n + (if (a ≤ k + 1 ∧ la j < (n : Int)) then rest else 0)
theorem AL_s (hw : WN J F fi la c room) (hr : 0 < rest → (k : Int) + 1 ≤ la j) (r0 : 0 ≤ rest) (a n : Nat) : AL J fi la c j k rest a (n + 1) = AL J fi la c j k rest a n + wcp J fi la c j k rest a (n + 1) n := by
  unfold AL wcp
  rw [ltN_s]
  have e : sm J (fun i => if j < i ∧ (a : Int) ≤ fi i ∧ fi i < ((n + 1 : Nat) : Int) ∧ la i = (n : Int) then c i else 0) = dgL J fi la c j a n := sm_congr (fun i hi => by
    (try dsimp only)
    have := hw.2.2.1 i hi
    by_cases h1 : j < i ∧ (a : Int) ≤ fi i ∧ la i = (n : Int)
    · rw [if_pos (by omega), if_pos h1]
    · rw [if_neg (by omega), if_neg h1])
  rw [e]
  by_cases r1 : rest = 0
  · subst r1
    have z : ∀ (p : Prop) [Decidable p], (if p then (0 : Int) else 0) = 0 := fun p _ => by split <;> rfl
    rw [z, z, z]; omega
  · have := hr (by omega)
    by_cases h1 : a ≤ k + 1
    · by_cases h2 : la j < (n : Int)
      · rw [if_pos (by omega), if_pos ⟨h1, h2⟩, if_neg (by omega)]; omega
      · by_cases h3 : la j = n
        · rw [if_pos (by omega), if_neg (by omega), if_pos (by omega)]; omega
        · rw [if_neg (by omega), if_neg (by omega), if_neg (by omega)]; omega
    · rw [if_neg (by omega), if_neg (by omega), if_neg (by omega)]; omega
theorem AL_bd (hw : WN J F fi la c room) (r0 : 0 ≤ rest ∧ rest ≤ 60) (a n : Nat) : 0 ≤ AL J fi la c j k rest a n ∧ AL J fi la c j k rest a n ≤ 1500 := by
  have h1 := ltN_nn hw j a n
  have h2 := ltN_bd hw j a n
  unfold AL
  split <;> omega
theorem wcp_bd (hw : WN J F fi la c room) (r0 : 0 ≤ rest ∧ rest ≤ 60) (a n b : Nat) : 0 ≤ wcp J fi la c j k rest a n b ∧ wcp J fi la c j k rest a n b ≤ 1500 := by
  have := sm_bd (n := J) (f := fun i => if j < i ∧ (a : Int) ≤ fi i ∧ fi i < (n : Int) ∧ la i = (b : Int) then c i else 0) (B := 60) (fun i hi => by
    have := hw.2.2.1 i hi
    (try dsimp only)
    split <;> omega)
  have h1 := hw.1
  unfold wcp
  split <;> omega
theorem s_cb_97 {h : jm_H} (hw : WN J F fi la c room) (hs : ∀ k, k < F → 0 ≤ sl k ∧ sl k ≤ 100) (r0 : 0 ≤ rest ∧ rest ≤ 60) (hr : 0 < rest → (k : Int) + 1 ≤ la j) (W : MW h (Wt J fi la c j k rest J)) {a b : Nat} (hab : a ≤ b) (hb : b < F) {r : jm_Rs} (r1 : AL J fi la c j k rest a (b + 1) ≤ sg sl a (b + 1) → l_M_canBe_84 (zI a) (zI (sg sl a (b + 1))) (zI (AL J fi la c j k rest a (b + 1))) (zI b + 1) h r) (r2 : ¬ AL J fi la c j k rest a (b + 1) ≤ sg sl a (b + 1) → r = (some (jm_i 0), h)) : ∀ (e n : Nat), n + e = b + 1 → a ≤ n → l_M_canBe_97 (zI a) (zI (sg sl a (b + 1))) (zI (AL J fi la c j k rest a b + wcp J fi la c j k rest a n b)) (zI b) (zI n) h r := by
  have hJ := hw.1
  have ab := AL_bd (j := j) (k := k) hw r0 a (b + 1)
  have gb := sg_bd hs hJ.2 (a := a) (n := b + 1) (by omega) (by omega)
  intro e
  induction e with
  | zero =>
    intro n en han
    have en : n = b + 1 := by omega
    subst en
    rw [← AL_s hw hr r0.1 a b]
    refine wp_M_canBe_97 ⟨fun _ => ⟨fun hc => ?_, fun hc => ?_⟩, fun hc => ?_⟩
    · rw [zI_le (by omega) (by omega) (by omega) (by omega)] at hc
      exact r1 hc
    · rw [zI_le (by omega) (by omega) (by omega) (by omega)] at hc
      exact r2 hc
    · rw [zI_lt (by omega) (by omega) (by omega) (by omega)] at hc; omega
  | succ e ih =>
    intro n en han
    have g := ih (n + 1) (by omega) (by omega)
    rw [wcp_s a n b han] at g
    have e24 : (24 * zI (n : Int)) + zI (b : Int) = zI ((24 * n + b : Nat) : Int) := by rw [zl_24, zI_mul, zI_add]; congr 1
    refine wp_M_canBe_97 ⟨fun hc => ?_, fun _ => ⟨?_, ?_⟩⟩
    · rw [zI_lt (by omega) (by omega) (by omega) (by omega)] at hc; omega
    · rw [e24]; exact zI_in (by omega) (by omega) (by omega)
    · rw [e24, zI_cn (by omega), W n b (by omega) (by omega), zI_add, zl_1, zI_add, show ∀ x y z : Int, x + y + z = x + (y + z) from fun x y z => by omega]
      exact g
theorem s_cb_84 {h : jm_H} (S : MS h J F room fi la c) (L : ML h F sl) (hw : WN J F fi la c room) (hs : ∀ k, k < F → 0 ≤ sl k ∧ sl k ≤ 100) (r0 : 0 ≤ rest ∧ rest ≤ 60) (hr : 0 < rest → (k : Int) + 1 ≤ la j) (W : MW h (Wt J fi la c j k rest J)) {a : Nat} (ha : a ≤ F) {r : jm_Rs} (r1 : (∀ n, a ≤ n → n ≤ F → AL J fi la c j k rest a n ≤ sg sl a n) → l_M_canBe_74 (zI a + 1) h r) (r2 : (¬ ∀ n, a ≤ n → n ≤ F → AL J fi la c j k rest a n ≤ sg sl a n) → r = (some (jm_i 0), h)) : ∀ (e b : Nat), b + e = F → a ≤ b → (∀ n, a ≤ n → n ≤ b → AL J fi la c j k rest a n ≤ sg sl a n) → l_M_canBe_84 (zI a) (zI (sg sl a b)) (zI (AL J fi la c j k rest a b)) (zI b) h r := by
  have hJ := hw.1
  have s5 := S.2.2.2.2.1
  intro e
  induction e with
  | zero =>
    intro b en hab hall
    have en : b = F := by omega
    subst en
    refine wp_M_canBe_84 ⟨fun _ => r1 hall, fun hc => ?_⟩
    rw [s5, zI_le (by omega) (by omega) (by omega) (by omega)] at hc; omega
  | succ e ih =>
    intro b en hab hall
    refine wp_M_canBe_84 ⟨fun hc => ?_, fun _ => ⟨zI_in (by omega) (by omega) (by omega), ?_⟩⟩
    · rw [s5, zI_le (by omega) (by omega) (by omega) (by omega)] at hc; omega
    · rw [zI_cn (by omega), L b (by omega), zI_add, ← sg_s]
      have := s_cb_97 hw hs r0 hr W hab (by omega) (r := r) (fun hle => by
        rw [zl_1, zI_add]
        exact ih (b + 1) (by omega) (by omega) (fun n n1 n2 => by
          by_cases e2 : n = b + 1
          · rw [e2]; exact hle
          · exact hall n n1 (by omega))) (fun hno => r2 (fun hx => hno (hx (b + 1) (by omega) (by omega)))) (b + 1 - a) a (by omega) (Nat.le_refl _)
      rw [wcp_0, Int.add_zero] at this
      exact this
theorem s_cb_74 {h : jm_H} (S : MS h J F room fi la c) (L : ML h F sl) (hw : WN J F fi la c room) (hs : ∀ k, k < F → 0 ≤ sl k ∧ sl k ≤ 100) (r0 : 0 ≤ rest ∧ rest ≤ 60) (hr : 0 < rest → (k : Int) + 1 ≤ la j) (W : MW h (Wt J fi la c j k rest J)) {r : jm_Rs} (r1 : (∀ a n, a ≤ n → n ≤ F → AL J fi la c j k rest a n ≤ sg sl a n) → r = (some (jm_i 1), h)) (r2 : (¬ ∀ a n, a ≤ n → n ≤ F → AL J fi la c j k rest a n ≤ sg sl a n) → r = (some (jm_i 0), h)) : ∀ (e a : Nat), a + e = F → (∀ a' n, a' < a → a' ≤ n → n ≤ F → AL J fi la c j k rest a' n ≤ sg sl a' n) → l_M_canBe_74 (zI a) h r := by
  have hJ := hw.1
  have s5 := S.2.2.2.2.1
  have triv : ∀ a, AL J fi la c j k rest a a ≤ sg sl a a := fun a => by
    unfold AL
    rw [ltN_0 hw j (Nat.le_refl _), show sg sl a a = 0 from Int.sub_self _]
    by_cases hc : a ≤ k + 1 ∧ la j < (a : Int)
    · rw [if_pos hc]
      by_cases hp : 0 < rest
      · have := hr hp; omega
      · omega
    · rw [if_neg hc]; omega
  intro e
  induction e with
  | zero =>
    intro a ea hall
    have ea : a = F := by omega
    subst ea
    refine wp_M_canBe_74 ⟨fun _ => r1 (fun a' n h1 h2 => ?_), fun hc => ?_⟩
    · by_cases e2 : a' < a
      · exact hall a' n e2 h1 h2
      · have : n = a' := by omega
        rw [this]; exact triv a'
    · rw [s5, zI_le (by omega) (by omega) (by omega) (by omega)] at hc; omega
  | succ e ih =>
    intro a ea hall
    refine wp_M_canBe_74 ⟨fun hc => ?_, fun _ => ?_⟩
    · rw [s5, zI_le (by omega) (by omega) (by omega) (by omega)] at hc; omega
    · have := s_cb_84 S L hw hs r0 hr W (a := a) (by omega) (r := r) (fun hx => by
        rw [zl_1, zI_add]
        exact ih (a + 1) (by omega) (fun a' n h1 h2 h3 => by
          by_cases e2 : a' = a
          · subst e2; exact hx n h2 h3
          · exact hall a' n (by omega) h2 h3)) (fun hno => r2 (fun hx => hno (fun n n1 n2 => hx a n n1 n2))) (F - a) a (by omega) (Nat.le_refl _) (fun n n1 n2 => by
        have : n = a := by omega
        rw [this]; exact triv a)
      have e0 : AL J fi la c j k rest a a = 0 := by
        unfold AL
        rw [ltN_0 hw j (Nat.le_refl _)]
        by_cases hc : a ≤ k + 1 ∧ la j < (a : Int)
        · rw [if_pos hc]
          by_cases hp : 0 < rest
          · have := hr hp; omega
          · omega
        · rw [if_neg hc]; rfl
      rw [e0, show sg sl a a = 0 from Int.sub_self _] at this
      exact this
theorem Wt_s (n : Nat) (hn : j < n) {x y : Nat} (ex : fi n = (x : Int)) (ey : la n = (y : Int)) (a b : Nat) : Wt J fi la c j k rest (n + 1) a b = put1 (Wt J fi la c j k rest n) x y (c n) a b := by
  by_cases e : a = x ∧ b = y
  · obtain ⟨rfl, rfl⟩ := e
    rw [put1_eq]
    unfold Wt
    have e1 : (if j < n ∧ fi n = (a : Int) ∧ la n = (b : Int) then c n else 0) = c n := if_pos ⟨hn, ex, ey⟩
    rw [sm_s, e1]; omega
  · rw [put1_ne e]
    unfold Wt
    have e1 : (if j < n ∧ fi n = (a : Int) ∧ la n = (b : Int) then c n else 0) = 0 := if_neg (by omega)
    rw [sm_s, e1]; omega
theorem s_cb_45 (hw : WN J F fi la c room) (hs : ∀ k, k < F → 0 ≤ sl k ∧ sl k ≤ 100) (r0 : 0 ≤ rest ∧ rest ≤ 60) (hr : 0 < rest → (k : Int) + 1 ≤ la j) : ∀ (e n : Nat) (h : jm_H), n + e = J → j < n → MS h J F room fi la c → ML h F sl → MW h (Wt J fi la c j k rest n) → ∃ h' b, l_M_canBe_45 (zI n) h (some (jm_i (zI b)), h') ∧ (b = 0 ∨ b = 1) ∧ (b = 1 ↔ ∀ a n, a ≤ n → n ≤ F → AL J fi la c j k rest a n ≤ sg sl a n) ∧ Ch c51 h h' := by
  have hJ := hw.1
  intro e
  induction e with
  | zero =>
    intro n h en hjn S L W
    have en : n = J := by omega
    subst en
    have s6 := S.2.2.2.2.2.1
    by_cases hall : ∀ a m, a ≤ m → m ≤ F → AL n fi la c j k rest a m ≤ sg sl a m
    · refine ⟨h, 1, wp_M_canBe_45 ⟨fun _ => ?_, fun hc => ?_⟩, Or.inr rfl, ⟨fun _ => hall, fun _ => rfl⟩, Ch.rf h⟩
      · exact s_cb_74 S L hw hs r0 hr W (fun _ => rfl) (fun x => absurd hall x) F 0 (by omega) (fun a' m h1 => by omega)
      · rw [s6, zI_le (by omega) (by omega) (by omega) (by omega)] at hc; omega
    · refine ⟨h, 0, wp_M_canBe_45 ⟨fun _ => ?_, fun hc => ?_⟩, Or.inl rfl, ⟨fun hc => by omega, fun x => absurd x hall⟩, Ch.rf h⟩
      · exact s_cb_74 S L hw hs r0 hr W (fun x => absurd x hall) (fun _ => rfl) F 0 (by omega) (fun a' m h1 => by omega)
      · rw [s6, zI_le (by omega) (by omega) (by omega) (by omega)] at hc; omega
  | succ e ih =>
    intro n h en hjn S L W
    have hn : n < J := by omega
    have s6 := S.2.2.2.2.2.1
    have s7 := S.2.2.2.2.2.2.1 n hn
    have s8 := S.2.2.2.2.2.2.2.1 n hn
    have s9 := S.2.2.2.2.2.2.2.2 n hn
    have wn := hw.2.2.1 n hn
    obtain ⟨x, ex⟩ : ∃ x : Nat, fi n = (x : Int) := ⟨(fi n).toNat, by omega⟩
    obtain ⟨y, ey⟩ : ∃ y : Nat, la n = (y : Int) := ⟨(la n).toNat, by omega⟩
    have hi : jm_in (zI (n : Int)) 24 := zI_in (by omega) (by omega) (by omega)
    have e24 : (24 * (h.1 45 0 (zI (n : Int)).toNatClampNeg)) + (h.1 46 0 (zI (n : Int)).toNatClampNeg) = zI ((24 * x + y : Nat) : Int) := by
      rw [zI_cn (by omega), s7.1, s8.1, ex, ey, zl_24, zI_mul, zI_add]; congr 1
    have c1 : Ch c51 h (jm_sI h 51 0 (24 * x + y) (zI (Wt J fi la c j k rest n x y) + zI (c n))) := Ch.sI rfl
    have W2 := W.put (x := x) (y := y) (by omega) (by omega) (c n)
    obtain ⟨h', b, q1, q2, q3, q4⟩ := ih (n + 1) _ (by omega) (by omega) (S.c51 c1) (L.c51 c1) (fun a b ha hb => by rw [W2 a b ha hb, Wt_s n hjn ex ey])
    have hin : jm_in ((24 * (h.1 45 0 (zI (n : Int)).toNatClampNeg)) + (h.1 46 0 (zI (n : Int)).toNatClampNeg)) 576 := by rw [e24]; exact zI_in (by omega) (by omega) (by omega)
    refine ⟨h', b, wp_M_canBe_45 ⟨fun hc => ?_, fun _ => ⟨hi, hi, hin, hi, hin, ?_⟩⟩, q2, q3, c1.tr q4⟩
    · rw [s6, zI_le (by omega) (by omega) (by omega) (by omega)] at hc; omega
    · rw [e24, zI_cn (by omega), zI_cn (by omega), W x y (by omega) (by omega), s9.1, zl_1, zI_add]
      exact q1
theorem s_cb_12 (hw : WN J F fi la c room) (hs : ∀ k, k < F → 0 ≤ sl k ∧ sl k ≤ 100) (r0 : 0 ≤ rest ∧ rest ≤ 60) (hj : j < J) (hkl : (k : Int) ≤ la j) (hr : 0 < rest → (k : Int) + 1 ≤ la j) : ∀ (e n : Nat) (h : jm_H), n + e = 576 → MS h J F room fi la c → ML h F sl → (∀ i, i < n → h.1 51 0 i = zI 0) → ∃ h' b, l_M_canBe_12 (zI j) (zI k) (zI rest) (zI n) h (some (jm_i (zI b)), h') ∧ (b = 0 ∨ b = 1) ∧ (b = 1 ↔ ∀ a n, a ≤ n → n ≤ F → AL J fi la c j k rest a n ≤ sg sl a n) ∧ Ch c51 h h' := by
  have hJ := hw.1
  have wj := hw.2.2.1 j hj
  intro e
  induction e with
  | zero =>
    intro n h en S L Z
    have s8 := S.2.2.2.2.2.2.2.1 j hj
    have W0 : MW h (fun _ _ => 0) := fun a b ha hb => Z (24 * a + b) (by omega)
    by_cases hp : 0 < rest
    · have := hr hp
      obtain ⟨y, ey⟩ : ∃ y : Nat, la j = (y : Int) := ⟨(la j).toNat, by omega⟩
      have e24 : (24 * (zI (k : Int) + 1)) + (h.1 46 0 (zI (j : Int)).toNatClampNeg) = zI ((24 * (k + 1) + y : Nat) : Int) := by
        rw [zI_cn (by omega), s8.1, ey, zl_24, zl_1, zI_add, zI_mul, zI_add]; congr 1
      have hin : jm_in ((24 * (zI (k : Int) + 1)) + (h.1 46 0 (zI (j : Int)).toNatClampNeg)) 576 := by rw [e24]; exact zI_in (by omega) (by omega) (by omega)
      have c1 : Ch c51 h (jm_sI h 51 0 (24 * (k + 1) + y) (zI 0 + zI rest)) := Ch.sI rfl
      have W2 := W0.put (x := k + 1) (y := y) (by omega) (by omega) rest
      obtain ⟨h', b, q1, q2, q3, q4⟩ := s_cb_45 hw hs r0 hr (J - (j + 1)) (j + 1) _ (by omega) (by omega) (S.c51 c1) (L.c51 c1) (fun a b ha hb => by
        rw [W2 a b ha hb]
        unfold Wt
        rw [sm_zero (fun i hi => if_neg (by omega)), Int.add_zero]
        by_cases e2 : a = k + 1 ∧ b = y
        · obtain ⟨rfl, rfl⟩ := e2
          rw [put1_eq, if_pos ⟨rfl, ey⟩, Int.zero_add]
        · rw [put1_ne e2, if_neg (by omega)])
      refine ⟨h', b, wp_M_canBe_12 ⟨fun _ => ⟨fun hc => ?_, fun _ => ⟨zI_in (by omega) (by omega) (by omega), hin, hin, ?_⟩⟩, fun hc => ?_⟩, q2, q3, c1.tr q4⟩
      · rw [zl_0, zI_le (by omega) (by omega) (by omega) (by omega)] at hc; omega
      · rw [e24, zI_cn (by omega), Z (24 * (k + 1) + y) (by omega), zl_1, zI_add]
        exact q1
      · rw [zl_576, zI_le (by omega) (by omega) (by omega) (by omega)] at hc; omega
    · have r00 : rest = 0 := by omega
      obtain ⟨h', b, q1, q2, q3, q4⟩ := s_cb_45 hw hs r0 hr (J - (j + 1)) (j + 1) h (by omega) (by omega) S L (fun a b ha hb => by
        rw [W0 a b ha hb]
        unfold Wt
        rw [sm_zero (fun i hi => if_neg (by omega)), Int.add_zero, r00]
        congr 1
        split <;> rfl)
      refine ⟨h', b, wp_M_canBe_12 ⟨fun _ => ⟨fun _ => ?_, fun hc => ?_⟩, fun hc => ?_⟩, q2, q3, q4⟩
      · rw [zl_1, zI_add]; exact q1
      · rw [zl_0, zI_le (by omega) (by omega) (by omega) (by omega)] at hc; omega
      · rw [zl_576, zI_le (by omega) (by omega) (by omega) (by omega)] at hc; omega
  | succ e ih =>
    intro n h en S L Z
    have c1 : Ch c51 h (jm_sI h 51 0 n (zI 0)) := Ch.sI rfl
    obtain ⟨h', b, q1, q2, q3, q4⟩ := ih (n + 1) _ (by omega) (S.c51 c1) (L.c51 c1) (fun i hi => by
      by_cases e2 : i = n
      · rw [e2, sI_eq]
      · rw [sI_ne (by omega)]; exact Z i (by omega))
    refine ⟨h', b, wp_M_canBe_12 ⟨fun hc => ?_, fun _ => ⟨zI_in (by omega) (by omega) (by omega), ?_⟩⟩, q2, q3, c1.tr q4⟩
    · rw [zl_576, zI_le (by omega) (by omega) (by omega) (by omega)] at hc; omega
    · rw [zI_cn (by omega), zl_1, zI_add]; exact q1
theorem s_canBe {h : jm_H} (hw : WN J F fi la c room) (hs : ∀ k, k < F → 0 ≤ sl k ∧ sl k ≤ 100) (r0 : 0 ≤ rest ∧ rest ≤ 60) (hj : j < J) (hkl : (k : Int) ≤ la j) (S : MS h J F room fi la c) (L : ML h F sl) : ∃ h' b, m_M_canBe (zI j) (zI k) (zI rest) h (zI b) h' ∧ (b = 0 ∨ b = 1) ∧ (b = 1 ↔ Hok J F fi la c j (k + 1) rest sl) ∧ Ch c51 h h' := by
  have hJ := hw.1
  have wj := hw.2.2.1 j hj
  have s8 := S.2.2.2.2.2.2.2.1 j hj
  have hi : jm_in (zI (j : Int)) 24 := zI_in (by omega) (by omega) (by omega)
  by_cases hr : 0 < rest → (k : Int) + 1 ≤ la j
  · obtain ⟨h', b, q1, q2, q3, q4⟩ := s_cb_12 hw hs r0 hj hkl hr 576 0 h (by omega) S L (fun i hi => by omega)
    refine ⟨h', b, wp_M_canBe ⟨fun _ => q1, fun hc => ⟨hi, fun hc2 => ?_, fun _ => q1⟩⟩, q2, ⟨fun hb => ⟨fun hp => by have := hr hp; omega, fun a n h1 h2 => q3.mp hb a n h1 h2⟩, fun H => q3.mpr (fun a n h1 h2 => H.2 a n h1 h2)⟩, q4⟩
    rw [zl_0, zI_le (by omega) (by omega) (by omega) (by omega)] at hc
    rw [zI_cn (by omega), s8.1, zI_eq (by omega) (by omega) (by omega) (by omega)] at hc2
    have := hr (by omega)
    omega
  · have hp : 0 < rest := by omega
    refine ⟨h, 0, wp_M_canBe ⟨fun hc => ?_, fun hc => ⟨hi, fun _ => rfl, fun hc2 => ?_⟩⟩, Or.inl rfl, ⟨fun hb => by omega, fun H => absurd (fun _ => by have := H.1 hp; omega) hr⟩, Ch.rf h⟩
    · rw [zl_0, zI_le (by omega) (by omega) (by omega) (by omega)] at hc; omega
    · rw [zI_cn (by omega), s8.1, zI_eq (by omega) (by omega) (by omega) (by omega)] at hc2
      omega
/-! ===== frame by frame ===== -/
theorem s_fl_67 (hw : WN J F fi la c room) (hj : j < J) {s : Int × FSt} (hfk : fi j ≤ k) (hkl : (k : Int) ≤ la j) (P : fin J F fi la c room j k s) {x : Int} (hx : isAmt J fi la c j k s.1 s.2.1 x) (x0 : 0 ≤ x) (hok : Hok J F fi la c j (k + 1) (s.1 - x) (up s.2.1 k (s.2.1 k - x))) : ∀ (e : Nat) (y : Int) (h : jm_H), y = x + e → y ≤ s.1 → y ≤ s.2.1 k → MS h J F room fi la c → ML h F (up s.2.1 k (s.2.1 k - y)) → MU h s.2.2 → ∃ h', MS h' J F room fi la c ∧ ML h' F (up s.2.1 k (s.2.1 k - x)) ∧ MU h' (put1 s.2.2 j k x) ∧ Ch cFl h h' ∧ ∀ r, l_M_fills_42 (zI j) (zI (s.1 - x)) (zI k + 1) h' r → l_M_fills_67 (zI j) (zI s.1) (zI k) (zI (s.2.1 k)) (zI y) h r := by
  have hJ := hw.1
  have wj := hw.2.2.1 j hj
  have hkF : k < F := by omega
  have hsB := slB hw P.1
  have r1 : 0 ≤ s.1 ∧ s.1 ≤ 60 := by
    have h0 := P.1.2.2.1 j hj
    rw [up_eq] at h0
    have : 0 ≤ sm F (s.2.2 j) := sm_nn (fun k' hk' => P.1.1 j k' hj hk')
    omega
  have z : s.2.2 j k = 0 := P.2.2.1 j k hj hkF (Or.inr ⟨rfl, Nat.le_refl _⟩)
  have hs2 : ∀ y : Int, 0 ≤ y → y ≤ s.2.1 k → ∀ k', k' < F → 0 ≤ up s.2.1 k (s.2.1 k - y) k' ∧ up s.2.1 k (s.2.1 k - y) k' ≤ 100 := fun y y0 y1 k' hk' => by
    by_cases e : k' = k
    · rw [e, up_eq]; have := hsB k hkF; omega
    · rw [up_ne e]; exact hsB k' hk'
  have ek : s.2.1 k ≤ 100 := (hsB k hkF).2
  intro e
  induction e with
  | zero =>
    intro y h ey y1 y2 S L U
    have ey : y = x := by omega
    subst ey
    obtain ⟨h1, b, q1, q2, q3, q4⟩ := s_canBe hw (hs2 y x0 y2) (rest := s.1 - y) (by omega) hj hkl S L
    have hb : b = 1 := q3.mpr hok
    have e24 : (24 * zI (j : Int)) + zI (k : Int) = zI ((24 * j + k : Nat) : Int) := by rw [zl_24, zI_mul, zI_add]; congr 1
    have c2 : Ch cFl h1 (jm_sI h1 49 0 (24 * j + k) (zI y)) := Ch.sI (by unfold cFl; omega)
    have c1 : Ch cFl h h1 := q4.mono (fun K i j hK => by unfold c51 at hK; unfold cFl; omega)
    refine ⟨jm_sI h1 49 0 (24 * j + k) (zI y), (S.c51 q4).cFl c2, fun k' hk' => ?_, fun j' k' hj' hk' => ?_, c1.tr c2, fun r hr => wp_M_fills_67 ⟨zI b, h1, ?_, fun hc => ?_, fun _ => ⟨?_, ?_⟩⟩⟩
    · rw [sI_ne (by omega)]; exact L.c51 q4 k' hk'
    · by_cases e2 : j' = j ∧ k' = k
      · obtain ⟨rfl, rfl⟩ := e2
        rw [sI_eq, put1_eq, z, Int.zero_add]
      · rw [sI_ne (by omega), put1_ne e2]; exact U.c51 q4 j' k' hj' hk'
    · rw [zI_sub]; exact q1
    · rw [hb] at hc; exact absurd hc (by decide)
    · rw [e24]; exact zI_in (by omega) (by omega) (by omega)
    · rw [e24, zI_cn (by omega), zI_sub]; exact hr
  | succ e ih =>
    intro y h ey y1 y2 S L U
    obtain ⟨h1, b, q1, q2, q3, q4⟩ := s_canBe hw (hs2 y (by omega) y2) (rest := s.1 - y) (by omega) hj hkl S L
    have hb : b = 0 := by
      rcases q2 with q2 | q2
      · exact q2
      · exact absurd (q3.mp q2) (amt_mx hx hj hw (by omega) y1 y2)
    have c1 : Ch cFl h h1 := q4.mono (fun K i j hK => by unfold c51 at hK; unfold cFl; omega)
    have c2 : Ch cFl h1 (jm_sI h1 50 0 k (zI (s.2.1 k - (y - 1)))) := Ch.sI (by unfold cFl; omega)
    obtain ⟨h', r1, r2, r3, r4, r5⟩ := ih (y - 1) (jm_sI h1 50 0 k (zI (s.2.1 k - (y - 1)))) (by omega) (by omega) (by omega) ((S.c51 q4).cFl c2) (fun k' hk' => by
      by_cases e2 : k' = k
      · rw [e2, sI_eq, up_eq]
      · rw [sI_ne (by omega), up_ne e2, L.c51 q4 k' hk', up_ne e2]) (fun j' k' hj' hk' => by
      rw [sI_ne (by omega)]; exact U.c51 q4 j' k' hj' hk')
    refine ⟨h', r1, r2, r3, (c1.tr c2).tr r4, fun r hr => wp_M_fills_67 ⟨zI b, h1, ?_, fun _ => ⟨zI_in (by omega) (by omega) (by omega), ?_⟩, fun hc => ?_⟩⟩
    · rw [zI_sub]; exact q1
    · rw [zl_m1, zI_add, zI_cn (by omega), zI_sub]
      exact r5 r hr
    · rw [hb] at hc; exact absurd rfl hc
theorem s_fl_42 (hw : WN J F fi la c room) (hj : j < J) : ∀ (e k : Nat) (h : jm_H) (s : Int × FSt), (k : Int) + e = la j + 1 → fi j ≤ k → MS h J F room fi la c → ML h F s.2.1 → MU h s.2.2 → fin J F fi la c room j k s → ∃ h', MS h' J F room fi la c ∧ ML h' F (fiI J fi la c j e k s).2.1 ∧ MU h' (fiI J fi la c j e k s).2.2 ∧ fout J F fi la c room (j + 1) (fiI J fi la c j e k s).2 ∧ Ch cFl h h' ∧ ∀ r, l_M_fills_28 (zI j + 1) h' r → l_M_fills_42 (zI j) (zI s.1) (zI k) h r := by
  have wj := hw.2.2.1 j hj
  have hJ := hw.1
  have hi : jm_in (zI (j : Int)) 24 := zI_in (by omega) (by omega) (by omega)
  intro e
  induction e with
  | zero =>
    intro k h s ek hfk S L U P
    have s8 := S.2.2.2.2.2.2.2.1 j hj
    obtain ⟨z, o⟩ := fin_out hw hj P (by omega)
    refine ⟨h, S, L, U, o, Ch.rf h, fun r hr => wp_M_fills_42 ⟨hi, fun _ => hr, fun hc => ?_⟩⟩
    rw [zI_cn (by omega), s8.1, zI_lt (by omega) (by omega) (by omega) (by omega)] at hc; omega
  | succ e ih =>
    intro k h s ek hfk S L U P
    have s8 := S.2.2.2.2.2.2.2.1 j hj
    have hkF : k < F := by omega
    obtain ⟨x, x1, x2, x3, x4, x5, x6⟩ := fin_s hw hj P hfk (by omega)
    have hsB := slB hw P.1 k hkF
    have hik : jm_in (zI (k : Int)) 24 := zI_in (by omega) (by omega) (by omega)
    have eL : h.1 50 0 (zI (k : Int)).toNatClampNeg = zI (s.2.1 k) := by rw [zI_cn (by omega)]; exact L k hkF
    obtain ⟨y, ey⟩ : ∃ y : Int, y = if s.2.1 k ≤ s.1 then s.2.1 k else s.1 := ⟨_, rfl⟩
    have hy : x ≤ y ∧ y ≤ s.1 ∧ y ≤ s.2.1 k := by split at ey <;> omega
    have c0 : Ch cFl h (jm_sI h 50 0 k (zI (s.2.1 k - y))) := Ch.sI (by unfold cFl; omega)
    obtain ⟨h1, q1, q2, q3, q4, q5⟩ := s_fl_67 hw hj hfk (by omega) P x1 x2.1 x6.2.1 (y - x).toNat y (jm_sI h 50 0 k (zI (s.2.1 k - y))) (by omega) hy.2.1 hy.2.2 (S.cFl c0) (fun k' hk' => by
      by_cases e2 : k' = k
      · rw [e2, sI_eq, up_eq]
      · rw [sI_ne (by omega), up_ne e2]; exact L k' hk') (fun j' k' hj' hk' => by rw [sI_ne (by omega)]; exact U j' k' hj' hk')
    obtain ⟨h', r1, r2, r3, r4, r5, r6⟩ := ih (k + 1) h1 (s.1 - x, up s.2.1 k (s.2.1 k - x), put1 s.2.2 j k x) (by omega) (by omega) q1 q2 q3 x6
    rw [fiI, x4]
    refine ⟨h', r1, r2, r3, r4, (c0.tr q4).tr r5, fun r hr => wp_M_fills_42 ⟨hi, fun hc => ?_, fun _ => ⟨hik, fun hc => ⟨hik, ?_⟩, fun hc => ⟨hik, ?_⟩⟩⟩⟩
    · rw [zI_cn (by omega), s8.1, zI_lt (by omega) (by omega) (by omega) (by omega)] at hc; omega
    · rw [eL, zI_le (by omega) (by omega) (by omega) (by omega)] at hc
      rw [if_pos hc] at ey
      rw [eL, zI_cn (by omega), zI_sub]
      have := q5 r (by rw [zl_1, zI_add]; exact r6 r hr)
      rw [ey] at this
      exact this
    · rw [eL, zI_le (by omega) (by omega) (by omega) (by omega)] at hc
      rw [if_neg hc] at ey
      rw [eL, zI_cn (by omega), zI_sub]
      have := q5 r (by rw [zl_1, zI_add]; exact r6 r hr)
      rw [ey] at this
      exact this
theorem s_fl_28 (hw : WN J F fi la c room) : ∀ (e j : Nat) (h : jm_H) (s : FSt), j + e = J → MS h J F room fi la c → ML h F s.1 → MU h s.2 → fout J F fi la c room j s → ∃ h', l_M_fills_28 (zI j) h (none, h') ∧ MS h' J F room fi la c ∧ ML h' F (fiO J fi la c e j s).1 ∧ MU h' (fiO J fi la c e j s).2 ∧ fout J F fi la c room J (fiO J fi la c e j s) ∧ Ch cFl h h' := by
  have hJ := hw.1
  intro e
  induction e with
  | zero =>
    intro j h s ej S L U P
    have ej : j = J := by omega
    subst ej
    have s6 := S.2.2.2.2.2.1
    refine ⟨h, wp_M_fills_28 ⟨fun _ => rfl, fun hc => ?_⟩, S, L, U, P, Ch.rf h⟩
    rw [s6, zI_le (by omega) (by omega) (by omega) (by omega)] at hc; omega
  | succ e ih =>
    intro j h s ej S L U P
    have hj : j < J := by omega
    have s6 := S.2.2.2.2.2.1
    have s7 := S.2.2.2.2.2.2.1 j hj
    have s9 := S.2.2.2.2.2.2.2.2 j hj
    have wj := hw.2.2.1 j hj
    obtain ⟨a, ea⟩ : ∃ a : Nat, fi j = (a : Int) := ⟨(fi j).toNat, by omega⟩
    have ea2 : (fi j).toNat = a := by omega
    have hi : jm_in (zI (j : Int)) 24 := zI_in (by omega) (by omega) (by omega)
    obtain ⟨h1, q1, q2, q3, q4, q5, q6⟩ := s_fl_42 hw hj (la j + 1 - fi j).toNat a h (c j, s) (by omega) (by omega) S L U (fout_in hw hj P ea)
    obtain ⟨h', r1, r2, r3, r4, r5, r6⟩ := ih (j + 1) h1 (fiI J fi la c j (la j + 1 - fi j).toNat a (c j, s)).2 (by omega) q1 q2 q3 q4
    rw [fiO, ea2]
    refine ⟨h', wp_M_fills_28 ⟨fun hc => ?_, fun _ => ⟨hi, hi, ?_⟩⟩, r2, r3, r4, r5, q5.tr r6⟩
    · rw [s6, zI_le (by omega) (by omega) (by omega) (by omega)] at hc; omega
    · rw [zI_cn (by omega), s7.1, s9.1, ea]
      refine q6 _ ?_
      rw [zl_1, zI_add]; exact r1
theorem s_fl_14 (hw : WN J F fi la c room) (H : Hj J F fi la c 0 (fun _ => room)) : ∀ (e n : Nat) (h : jm_H), n + e = F → MS h J F room fi la c → MU h (fun _ _ => 0) → (∀ k, k < n → h.1 50 0 k = zI room) → ∃ h', l_M_fills_14 (zI n) h (none, h') ∧ MS h' J F room fi la c ∧ ML h' F (fillF J fi la c room).1 ∧ MU h' (fillF J fi la c room).2 ∧ fout J F fi la c room J (fillF J fi la c room) ∧ Ch cFl h h' := by
  have hJ := hw.1
  intro e
  induction e with
  | zero =>
    intro n h en S U Z
    have en : n = F := by omega
    subst en
    have s5 := S.2.2.2.2.1
    obtain ⟨h', r1, r2, r3, r4, r5, r6⟩ := s_fl_28 hw J 0 h (fun _ => room, fun _ _ => 0) (by omega) S Z U (fout_0 hw H)
    refine ⟨h', wp_M_fills_14 ⟨fun _ => r1, fun hc => ?_⟩, r2, r3, r4, r5, r6⟩
    rw [s5, zI_le (by omega) (by omega) (by omega) (by omega)] at hc; omega
  | succ e ih =>
    intro n h en S U Z
    have s5 := S.2.2.2.2.1
    have s4 := S.2.2.2.1
    have c1 : Ch cFl h (jm_sI h 50 0 n (zI room)) := Ch.sI (by unfold cFl; omega)
    obtain ⟨h', r1, r2, r3, r4, r5, r6⟩ := ih (n + 1) _ (by omega) (S.cFl c1) (fun j k hj hk => by rw [sI_ne (by omega)]; exact U j k hj hk) (fun k hk => by
      by_cases e2 : k = n
      · rw [e2, sI_eq]
      · rw [sI_ne (by omega)]; exact Z k (by omega))
    refine ⟨h', wp_M_fills_14 ⟨fun hc => ?_, fun _ => ⟨zI_in (by omega) (by omega) (by omega), ?_⟩⟩, r2, r3, r4, r5, c1.tr r6⟩
    · rw [s5, zI_le (by omega) (by omega) (by omega) (by omega)] at hc; omega
    · rw [zI_cn (by omega), s4, zl_1, zI_add]; exact r1
theorem s_fl_2 (hw : WN J F fi la c room) (H : Hj J F fi la c 0 (fun _ => room)) : ∀ (e n : Nat) (h : jm_H), n + e = 576 → MS h J F room fi la c → (∀ i, i < n → h.1 49 0 i = zI 0) → ∃ h', l_M_fills_2 (zI n) h (none, h') ∧ MS h' J F room fi la c ∧ ML h' F (fillF J fi la c room).1 ∧ MU h' (fillF J fi la c room).2 ∧ fout J F fi la c room J (fillF J fi la c room) ∧ Ch cFl h h' := by
  intro e
  induction e with
  | zero =>
    intro n h en S Z
    obtain ⟨h', r1, r2, r3, r4, r5, r6⟩ := s_fl_14 hw H F 0 h (by omega) S (fun j k hj hk => Z (24 * j + k) (by omega)) (fun k hk => by omega)
    refine ⟨h', wp_M_fills_2 ⟨fun _ => r1, fun hc => ?_⟩, r2, r3, r4, r5, r6⟩
    rw [zl_576, zI_le (by omega) (by omega) (by omega) (by omega)] at hc; omega
  | succ e ih =>
    intro n h en S Z
    have c1 : Ch cFl h (jm_sI h 49 0 n (zI 0)) := Ch.sI (by unfold cFl; omega)
    obtain ⟨h', r1, r2, r3, r4, r5, r6⟩ := ih (n + 1) _ (by omega) (S.cFl c1) (fun i hi => by
      by_cases e2 : i = n
      · rw [e2, sI_eq]
      · rw [sI_ne (by omega)]; exact Z i (by omega))
    refine ⟨h', wp_M_fills_2 ⟨fun hc => ?_, fun _ => ⟨zI_in (by omega) (by omega) (by omega), ?_⟩⟩, r2, r3, r4, r5, c1.tr r6⟩
    · rw [zl_576, zI_le (by omega) (by omega) (by omega) (by omega)] at hc; omega
    · rw [zI_cn (by omega), zl_1, zI_add]; exact r1
theorem s_fills {h : jm_H} (hw : WN J F fi la c room) (H : Hj J F fi la c 0 (fun _ => room)) (S : MS h J F room fi la c) : ∃ h', m_M_fills h h' ∧ MS h' J F room fi la c ∧ ML h' F (fillF J fi la c room).1 ∧ MU h' (fillF J fi la c room).2 ∧ fout J F fi la c room J (fillF J fi la c room) ∧ Ch cFl h h' := by
  obtain ⟨h', r1, r2⟩ := s_fl_2 hw H 576 0 h (by omega) S (fun i hi => by omega)
  exact ⟨h', wp_M_fills r1, r2⟩
end FILLR
