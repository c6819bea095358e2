/-! ===== those waiting ===== -/
def KW (h : jm_H) (c : CK) : Prop := h.1 0 0 0 = zI (k_now c) ∧ h.1 0 0 3 = zI (k_wn c) ∧ ∀ i, i < k_wn c → h.1 10 0 i = zI (k_ne c i) ∧ h.1 11 0 i = zI (k_du c i)
theorem KF.kw {h : jm_H} {c : CK} (k : KF h 0 c) : KW h c := ⟨k.1, k.2.2.2.1, k.2.2.2.2.2.2.2.2.2.2⟩
theorem KW.chg {h h' : jm_H} {c : CK} (k : KW h c) (e : ∀ K j, K = 0 ∨ K = 10 ∨ K = 11 → h'.1 K 0 j = h.1 K 0 j) : KW h' c := ⟨by rw [e _ _ (by omega)]; exact k.1, by rw [e _ _ (by omega)]; exact k.2.1, fun i hi => by rw [e 10 _ (by omega), e 11 _ (by omega)]; exact k.2.2 i hi⟩
def wOk (c : CK) : Prop := k_wn c ≤ 9 ∧ (∀ i, i < k_wn c → 1 ≤ k_ne c i ∧ k_ne c i ≤ 400 ∧ k_now c < k_du c i ∧ k_du c i ≤ k_now c + 400) ∧ (∀ i, i + 1 < k_wn c → k_du c i ≤ k_du c (i + 1))
def InT (D : Nat → MD) (c : CK) (less : Int) : Prop := ∀ i, i < k_wn c → ∃ n, n ≤ 1000 ∧ aTi D c n ≤ k_du c i ∧ sm (i + 1) (k_ne c) + less ≤ sm n (aSl D c)
noncomputable def lm (D : Nat → MD) (c : CK) (df : Int) : Nat → Int
  | 0 => 1000000
  | i + 1 => if k_du c i < df then lm D c df i else (if Ut D c (k_du c i - k_now c) - sm (i + 1) (k_ne c) < lm D c df i then Ut D c (k_du c i - k_now c) - sm (i + 1) (k_ne c) else lm D c df i)
theorem lm_s (D : Nat → MD) (c : CK) (df : Int) (i : Nat) : lm D c df (i + 1) = if k_du c i < df then lm D c df i else (if Ut D c (k_du c i - k_now c) - sm (i + 1) (k_ne c) < lm D c df i then Ut D c (k_du c i - k_now c) - sm (i + 1) (k_ne c) else lm D c df i) := rfl
section MARGIN
variable {nm : Nat} {D : Nat → MD} {c : CK}
theorem ne_b (w : wOk c) : ∀ n : Nat, n ≤ k_wn c → (n : Int) ≤ sm n (k_ne c) ∧ sm n (k_ne c) ≤ 400 * n := by
  intro n
  induction n with
  | zero => intro _; exact ⟨Int.le_refl _, Int.le_refl _⟩
  | succ n ih =>
    intro hn
    have h1 := ih (by omega)
    have h2 := w.2.1 n (by omega)
    rw [sm_s]; omega
theorem lm_b (S : swOk nm D c) (Z : tId nm D) (w : wOk c) (df : Int) : ∀ n : Nat, n ≤ k_wn c → -4000 ≤ lm D c df n ∧ lm D c df n ≤ 1000000 := by
  intro n
  induction n with
  | zero => intro _; show -4000 ≤ (1000000 : Int) ∧ (1000000 : Int) ≤ 1000000; omega
  | succ n ih =>
    intro hn
    have h1 := ih (by omega)
    have h2 := w.2.1 n (by omega)
    have h3 := ne_b w (n + 1) hn
    have h4 := Ut_b S Z (t := k_du c n - k_now c) (by omega) (by omega)
    have w1 := w.1
    rw [lm_s]
    by_cases a : k_du c n < df
    · rw [if_pos a]; exact h1
    · rw [if_neg a]
      by_cases b : Ut D c (k_du c n - k_now c) - sm (n + 1) (k_ne c) < lm D c df n
      · rw [if_pos b]; omega
      · rw [if_neg b]; exact h1
theorem lm_iff {df X : Int} : ∀ n : Nat, X ≤ lm D c df n ↔ X ≤ 1000000 ∧ ∀ i, i < n → df ≤ k_du c i → X + sm (i + 1) (k_ne c) ≤ Ut D c (k_du c i - k_now c) := by
  intro n
  induction n with
  | zero => exact ⟨fun h => ⟨h, fun i hi => by omega⟩, fun h => h.1⟩
  | succ n ih =>
    rw [lm_s]
    have step : ∀ Q : Prop, ((X ≤ lm D c df n ∧ Q) ↔ (X ≤ 1000000 ∧ ∀ i, i < n + 1 → df ≤ k_du c i → X + sm (i + 1) (k_ne c) ≤ Ut D c (k_du c i - k_now c))) ↔ ((X ≤ lm D c df n ∧ Q) ↔ (X ≤ lm D c df n ∧ (df ≤ k_du c n → X + sm (n + 1) (k_ne c) ≤ Ut D c (k_du c n - k_now c)))) := fun Q => by
      have : (X ≤ 1000000 ∧ ∀ i, i < n + 1 → df ≤ k_du c i → X + sm (i + 1) (k_ne c) ≤ Ut D c (k_du c i - k_now c)) ↔ (X ≤ lm D c df n ∧ (df ≤ k_du c n → X + sm (n + 1) (k_ne c) ≤ Ut D c (k_du c n - k_now c))) := by
        rw [ih]
        constructor
        · rintro ⟨a, b⟩
          exact ⟨⟨a, fun i hi => b i (by omega)⟩, b n (by omega)⟩
        · rintro ⟨⟨a, b⟩, d⟩
          refine ⟨a, fun i hi hd => ?_⟩
          by_cases e : i = n
          · subst e; exact d hd
          · exact b i (by omega) hd
      rw [this]
    by_cases a : k_du c n < df
    · rw [if_pos a]
      have := (step True).mpr ⟨fun x => ⟨x.1, fun y => absurd y (by omega)⟩, fun x => ⟨x.1, trivial⟩⟩
      rw [← this]
      exact ⟨fun x => ⟨x, trivial⟩, fun x => x.1⟩
    · rw [if_neg a]
      have := (step (X + sm (n + 1) (k_ne c) ≤ Ut D c (k_du c n - k_now c))).mpr ⟨fun x => ⟨x.1, fun _ => x.2⟩, fun x => ⟨x.1, x.2 (by omega)⟩⟩
      rw [← this]
      by_cases b : Ut D c (k_du c n - k_now c) - sm (n + 1) (k_ne c) < lm D c df n
      · rw [if_pos b]; omega
      · rw [if_neg b]; omega
theorem s_lm_6 {h : jm_H} (S : swOk nm D c) (Z : tId nm D) (w : wOk c) (k8 : k_wn c ≤ 8) (k : KW h c) (v : SV h D c) {df : Int} (d1 : -2147483648 ≤ df) (d2 : df ≤ 2147483647) : ∀ (e n : Nat), n + e = k_wn c → l_Supply_leastMargin_6 0 (zI df) (zI (lm D c df n)) (zI (sm n (k_ne c))) (zI n) h (some (jm_i (zI (lm D c df (k_wn c)))), h) := by
  have hnow := S.2.2.2.2.2.1
  intro e
  induction e with
  | zero =>
    intro n en
    have en' : n = k_wn c := by omega
    subst en'
    refine wp_Supply_leastMargin_6 ⟨fun _ => rfl, fun hc => ?_⟩
    rw [k.2.1, zI_le (by omega) (by omega) (by omega) (by omega)] at hc; omega
  | succ e ih =>
    intro n en
    have hw := w.2.1 n (by omega)
    have hk := k.2.2 n (by omega)
    have en' : (zI (n : Int)).toNatClampNeg = n := zI_cn (by omega)
    have h1 := lm_b S Z w df n (by omega)
    have h3 := ne_b w (n + 1) (by omega)
    have h4 := Ut_b S Z (t := k_du c n - k_now c) (by omega) (by omega)
    have r := ih (n + 1) (by omega)
    rw [lm_s, show ((n + 1 : Nat) : Int) = (n : Int) + 1 from rfl] at r
    have en2 : sm (n + 1) (k_ne c) = sm n (k_ne c) + k_ne c n := rfl
    refine wp_Supply_leastMargin_6 ⟨fun hc => ?_, fun _ => ⟨zI_in (by omega) (by omega) (by omega), zI_in (by omega) (by omega) (by omega), fun hc => ?_, fun hc => ⟨zI_in (by omega) (by omega) (by omega), zI (Ut D c (k_du c n - k_now c)), h, ?_, ?_⟩⟩⟩
    · rw [k.2.1, zI_le (by omega) (by omega) (by omega) (by omega)] at hc; omega
    · rw [en', hk.2, zI_lt (by omega) (by omega) (by omega) (by omega)] at hc
      rw [if_pos hc, en2] at r
      rw [en', hk.1, zl_1, zI_add, zI_add]; exact r
    · rw [en', hk.2, k.1, zI_sub]
      exact s_upTo S v (by omega) (by omega)
    · rw [en', hk.2, zI_lt (by omega) (by omega) (by omega) (by omega)] at hc
      rw [if_neg hc] at r
      rw [en', hk.1, zl_1, zI_add, zI_add, zI_sub, ← en2]
      by_cases b : Ut D c (k_du c n - k_now c) - sm (n + 1) (k_ne c) < lm D c df n
      · rw [if_pos b] at r
        rw [if_pos (by rw [zI_lt (by omega) (by omega) (by omega) (by omega)]; exact b)]; exact r
      · rw [if_neg b] at r
        rw [if_neg (by rw [zI_lt (by omega) (by omega) (by omega) (by omega)]; exact b)]; exact r
theorem s_leastMargin {h : jm_H} (S : swOk nm D c) (Z : tId nm D) (w : wOk c) (k8 : k_wn c ≤ 8) (k : KW h c) (v : SV h D c) {df : Int} (d1 : -2147483648 ≤ df) (d2 : df ≤ 2147483647) : m_Supply_leastMargin 0 (zI df) h (zI (lm D c df (k_wn c))) h := by
  have := s_lm_6 S Z w k8 k v d1 d2 (k_wn c) 0 (by omega)
  exact wp_Supply_leastMargin this
theorem s_margin {h : jm_H} (S : swOk nm D c) (Z : tId nm D) (w : wOk c) (k8 : k_wn c ≤ 8) (k : KW h c) (v : SV h D c) : m_Supply_margin 0 h (zI (lm D c 0 (k_wn c))) h := wp_Supply_margin ⟨_, h, s_leastMargin S Z w k8 k v (df := 0) (by omega) (by omega), rfl⟩
/-- in time, as the least margin tells -/
theorem lm_InT (S : swOk nm D c) (Z : tId nm D) (w : wOk c) {X : Int} (hX : X ≤ 1000000) : X ≤ lm D c 0 (k_wn c) ↔ InT D c X := by
  have hnow := S.2.2.2.2.2.1
  rw [lm_iff]
  constructor
  · rintro ⟨_, b⟩ i hi
    have hw := w.2.1 i hi
    have := b i hi (by omega)
    obtain ⟨n, n1, n2, n3⟩ := (Ut_iff S Z (t := k_du c i - k_now c) (by omega) (by omega)).mp this
    exact ⟨n, n1, by omega, by omega⟩
  · intro b
    refine ⟨hX, fun i hi _ => ?_⟩
    have hw := w.2.1 i hi
    obtain ⟨n, n1, n2, n3⟩ := b i hi
    exact (Ut_iff S Z (t := k_du c i - k_now c) (by omega) (by omega)).mpr ⟨n, n1, by omega, by omega⟩
/-- needs of those of no later due -/
def nd (c : CK) (due : Int) (n : Nat) : Int := sm n (fun i => if k_du c i ≤ due then k_ne c i else 0)
theorem nd_b (w : wOk c) (due : Int) : ∀ n : Nat, n ≤ k_wn c → 0 ≤ nd c due n ∧ nd c due n ≤ 400 * n := by
  intro n
  induction n with
  | zero => intro _; exact ⟨Int.le_refl _, Int.le_refl _⟩
  | succ n ih =>
    intro hn
    have h1 := ih (by omega)
    have h2 := w.2.1 n (by omega)
    have e : nd c due (n + 1) = nd c due n + (if k_du c n ≤ due then k_ne c n else 0) := rfl
    rw [e]
    split <;> omega
noncomputable def lfo (D : Nat → MD) (c : CK) (due : Int) : Int := if lm D c due (k_wn c) < Ut D c (due - k_now c) - nd c due (k_wn c) then lm D c due (k_wn c) else Ut D c (due - k_now c) - nd c due (k_wn c)
theorem lfo_iff {due X : Int} : X ≤ lfo D c due ↔ X ≤ Ut D c (due - k_now c) - nd c due (k_wn c) ∧ X ≤ lm D c due (k_wn c) := by
  unfold lfo
  split <;> omega
theorem lfo_b (S : swOk nm D c) (Z : tId nm D) (w : wOk c) {due : Int} (d1 : k_now c < due) (d2 : due ≤ k_now c + 400) : -4000 ≤ lfo D c due ∧ lfo D c due ≤ 10000 := by
  have h1 := lm_b S Z w due (k_wn c) (Nat.le_refl _)
  have h2 := nd_b w due (k_wn c) (Nat.le_refl _)
  have h4 := Ut_b S Z (t := due - k_now c) (by omega) (by omega)
  have w1 := w.1
  unfold lfo
  split <;> omega
theorem s_lff_4 {h : jm_H} (S : swOk nm D c) (Z : tId nm D) (w : wOk c) (k8 : k_wn c ≤ 8) (k : KW h c) (v : SV h D c) {due : Int} (d1 : k_now c < due) (d2 : due ≤ k_now c + 400) : ∀ (e n : Nat), n + e = k_wn c → l_Supply_leftFor_4 0 (zI due) (zI (nd c due n)) (zI n) h (some (jm_i (zI (lfo D c due))), h) := by
  have hnow := S.2.2.2.2.2.1
  intro e
  induction e with
  | zero =>
    intro n en
    have en' : n = k_wn c := by omega
    subst en'
    have h1 := lm_b S Z w due (k_wn c) (Nat.le_refl _)
    have h2 := nd_b w due (k_wn c) (Nat.le_refl _)
    have h4 := Ut_b S Z (t := due - k_now c) (by omega) (by omega)
    refine wp_Supply_leftFor_4 ⟨fun _ => ⟨zI (Ut D c (due - k_now c)), h, ?_, _, h, s_leastMargin S Z w k8 k v (by omega) (by omega), ?_⟩, fun hc => ?_⟩
    · rw [k.1, zI_sub]; exact s_upTo S v (by omega) (by omega)
    · unfold lfo
      rw [zI_sub]
      by_cases b : lm D c due (k_wn c) < Ut D c (due - k_now c) - nd c due (k_wn c)
      · rw [if_pos b, if_pos (by rw [zI_lt (by omega) (by omega) (by omega) (by omega)]; exact b)]
      · rw [if_neg b, if_neg (by rw [zI_lt (by omega) (by omega) (by omega) (by omega)]; exact b)]
    · rw [k.2.1, zI_le (by omega) (by omega) (by omega) (by omega)] at hc; omega
  | succ e ih =>
    intro n en
    have hw := w.2.1 n (by omega)
    have hk := k.2.2 n (by omega)
    have en' : (zI (n : Int)).toNatClampNeg = n := zI_cn (by omega)
    have r := ih (n + 1) (by omega)
    have e1 : nd c due (n + 1) = nd c due n + (if k_du c n ≤ due then k_ne c n else 0) := rfl
    rw [e1, show ((n + 1 : Nat) : Int) = (n : Int) + 1 from rfl] at r
    refine wp_Supply_leftFor_4 ⟨fun hc => ?_, fun _ => ⟨zI_in (by omega) (by omega) (by omega), fun hc => ?_, fun hc => ⟨zI_in (by omega) (by omega) (by omega), ?_⟩⟩⟩
    · rw [k.2.1, zI_le (by omega) (by omega) (by omega) (by omega)] at hc; omega
    · rw [en', hk.2, zI_lt (by omega) (by omega) (by omega) (by omega)] at hc
      rw [if_neg (by omega), Int.add_zero] at r
      rw [zl_1, zI_add]; exact r
    · rw [en', hk.2, zI_lt (by omega) (by omega) (by omega) (by omega)] at hc
      rw [if_pos (by omega)] at r
      rw [en', hk.1, zl_1, zI_add, zI_add]; exact r
theorem s_leftFor {h : jm_H} (S : swOk nm D c) (Z : tId nm D) (w : wOk c) (k8 : k_wn c ≤ 8) (k : KW h c) (v : SV h D c) {due : Int} (d1 : k_now c < due) (d2 : due ≤ k_now c + 400) : m_Supply_leftFor 0 (zI due) h (zI (lfo D c due)) h := wp_Supply_leftFor (s_lff_4 S Z w k8 k v d1 d2 (k_wn c) 0 (by omega))
/-! ===== one more ===== -/
def setW (c : CK) (n : Nat) (ne du : Nat → Int) : CK := (c.1, (n, ne, du), c.2.2.1, c.2.2.2)
def setS (c : CK) (to tm : Int) : CK := (c.1, c.2.1, c.2.2.1, (to, tm))
def isPl (c : CK) (due : Int) (p : Nat) : Prop := p ≤ k_wn c ∧ (∀ i, i < p → k_du c i ≤ due) ∧ ∀ i, p ≤ i → i < k_wn c → due < k_du c i
def ins (f : Nat → Int) (p : Nat) (x : Int) : Nat → Int := fun i => if i < p then f i else if i = p then x else f (i - 1)
theorem sm_ins1 {f : Nat → Int} {p : Nat} {x : Int} {n : Nat} (hn : n ≤ p) : sm n (ins f p x) = sm n f := sm_congr (fun i hi => if_pos (by omega))
theorem sm_ins2 {f : Nat → Int} {p : Nat} {x : Int} : ∀ (n : Nat), p ≤ n → sm (n + 1) (ins f p x) = sm n f + x := by
  intro n
  induction n with
  | zero =>
    intro hp
    rw [sm_s, sm_0, sm_0]
    unfold ins
    rw [if_neg (by omega), if_pos (by omega)]
  | succ n ih =>
    intro hp
    rw [sm_s]
    by_cases e : p = n + 1
    · rw [sm_ins1 (by omega)]
      unfold ins
      rw [if_neg (by omega), if_pos (by omega)]
    · rw [ih (by omega), sm_s]
      unfold ins
      rw [if_neg (by omega), if_neg (by omega), show n + 1 - 1 = n by omega]; omega
theorem nd_pl {due : Int} {p : Nat} (hp : isPl c due p) : nd c due (k_wn c) = sm p (k_ne c) := by
  unfold nd
  rw [sm_tail (n := p) (fun i h1 h2 => if_neg (by have := hp.2.2 i h1 h2; omega)) hp.1]
  exact sm_congr (fun i hi => if_pos (hp.2.1 i hi))
def putW (c : CK) (p : Nat) (X due : Int) : CK := setW c (k_wn c + 1) (ins (k_ne c) p X) (ins (k_du c) p due)
theorem take_iff (S : swOk nm D c) (Z : tId nm D) (w : wOk c) (I : InT D c 0) {due X : Int} {p : Nat} (hp : isPl c due p) (d1 : k_now c < due) (d2 : due ≤ k_now c + 400) : X ≤ lfo D c due ↔ InT D (putW c p X due) 0 := by
  have hnow := S.2.2.2.2.2.1
  have hU := fun {Y : Int} => Ut_iff S Z (t := due - k_now c) (X := Y) (by omega) (by omega)
  rw [lfo_iff, nd_pl hp, lm_iff]
  constructor
  · rintro ⟨a, _, b⟩ i hi
    have hi' : i < k_wn c + 1 := hi
    show ∃ n, n ≤ 1000 ∧ aTi D c n ≤ ins (k_du c) p due i ∧ sm (i + 1) (ins (k_ne c) p X) + 0 ≤ sm n (aSl D c)
    by_cases h1 : i < p
    · obtain ⟨n, n1, n2, n3⟩ := I i (by have := hp.1; omega)
      refine ⟨n, n1, ?_, ?_⟩
      · unfold ins; rw [if_pos h1]; exact n2
      · rw [sm_ins1 (by omega)]; exact n3
    · by_cases h2 : i = p
      · obtain ⟨n, n1, n2, n3⟩ := (hU (Y := sm p (k_ne c) + X)).mp (by omega)
        refine ⟨n, n1, ?_, ?_⟩
        · unfold ins; rw [if_neg h1, if_pos h2]; omega
        · rw [h2, sm_ins2 p (Nat.le_refl _)]; omega
      · have hd := hp.2.2 (i - 1) (by omega) (by omega)
        have hw := w.2.1 (i - 1) (by omega)
        have := b (i - 1) (by omega) (by omega)
        obtain ⟨n, n1, n2, n3⟩ := (Ut_iff S Z (t := k_du c (i - 1) - k_now c) (by omega) (by omega)).mp this
        rw [show i - 1 + 1 = i by omega] at n3
        refine ⟨n, n1, ?_, ?_⟩
        · unfold ins; rw [if_neg h1, if_neg h2]; omega
        · rw [sm_ins2 i (by omega)]; omega
  · intro b
    have hb : ∀ i, i < k_wn c + 1 → ∃ n, n ≤ 1000 ∧ aTi D c n ≤ ins (k_du c) p due i ∧ sm (i + 1) (ins (k_ne c) p X) + 0 ≤ sm n (aSl D c) := b
    have hx : sm p (k_ne c) + X ≤ Ut D c (due - k_now c) := by
      obtain ⟨n, n1, n2, n3⟩ := hb p (by have := hp.1; omega)
      rw [sm_ins2 p (Nat.le_refl _)] at n3
      unfold ins at n2
      rw [if_neg (by omega), if_pos rfl] at n2
      exact hU.mpr ⟨n, n1, by omega, by omega⟩
    have hub := Ut_b S Z (t := due - k_now c) (by omega) (by omega)
    have hpn := ne_b w p hp.1
    refine ⟨by omega, by omega, fun i hi hd => ?_⟩
    have hw := w.2.1 i hi
    by_cases h1 : i < p
    · have h2 := hp.2.1 i h1
      have h3 : sm (i + 1) (k_ne c) ≤ sm p (k_ne c) := sm_mono (fun k _ hk => by have := (w.2.1 k (by have := hp.1; omega)).1; omega) (by omega)
      rw [show k_du c i = due by omega]; omega
    · obtain ⟨n, n1, n2, n3⟩ := hb (i + 1) (by omega)
      rw [sm_ins2 (i + 1) (by omega)] at n3
      unfold ins at n2
      rw [if_neg (by omega), if_neg (by omega), show i + 1 - 1 = i by omega] at n2
      exact (Ut_iff S Z (t := k_du c i - k_now c) (by omega) (by omega)).mpr ⟨n, n1, by omega, by omega⟩
end MARGIN
