/-! ===== tokens, in both ===== -/
def txt (f : Nat → Int) (n : Nat) : Prop := n ≤ 700 ∧ ∀ i, i < n → 0 ≤ f i ∧ f i ≤ 255
def TX (h : jm_H) (f : Nat → Int) (n : Nat) : Prop := h.1 4 0 2 = zI n ∧ ∀ i, i < n → h.1 29 0 i &&& 255 = zI (f i)
def TY (g : jm_H) (f : Nat → Int) (n : Nat) : Prop := g.1 8 0 16 = zI n ∧ ∀ i, i < n → g.1 33 0 i = zI (f i)
def cTk : Nat → Nat → Nat → Prop := fun K _ j => K = 4 ∧ 3 ≤ j ∧ j ≤ 6
def cTr : Nat → Nat → Nat → Prop := fun K _ j => K = 8 ∧ 17 ≤ j ∧ j ≤ 20
theorem TX.ch {h h' : jm_H} {f : Nat → Int} {n : Nat} (X : TX h f n) (e2 : h'.1 4 0 2 = h.1 4 0 2) (e : ∀ j, h'.1 29 0 j = h.1 29 0 j) : TX h' f n := ⟨by rw [e2]; exact X.1, fun i hi => by rw [e]; exact X.2 i hi⟩
theorem TY.ch {h h' : jm_H} {f : Nat → Int} {n : Nat} (X : TY h f n) (e2 : h'.1 8 0 16 = h.1 8 0 16) (e : ∀ j, h'.1 33 0 j = h.1 33 0 j) : TY h' f n := ⟨by rw [e2]; exact X.1, fun i hi => by rw [e]; exact X.2 i hi⟩
theorem TX.tk {h h' : jm_H} {f : Nat → Int} {n : Nat} (X : TX h f n) (a : Ch cTk h h') : TX h' f n := X.ch (a.at (by unfold cTk; omega)) (fun j => a.at (by unfold cTk; omega))
theorem TY.tr {h h' : jm_H} {f : Nat → Int} {n : Nat} (X : TY h f n) (a : Ch cTr h h') : TY h' f n := X.ch (a.at (by unfold cTr; omega)) (fun j => a.at (by unfold cTr; omega))
theorem run_ex (Q : Nat → Prop) : ∀ (e p n : Nat), p + e = n → ∃ s, p ≤ s ∧ s ≤ n ∧ (∀ i, p ≤ i → i < s → Q i) ∧ (s < n → ¬ Q s) := by
  intro e
  induction e with
  | zero => intro p n en; exact ⟨p, Nat.le_refl _, by omega, fun i h1 h2 => by omega, fun hx => by omega⟩
  | succ e ih =>
    intro p n en
    by_cases hq : Q p
    · obtain ⟨s, s1, s2, s3, s4⟩ := ih (p + 1) n (by omega)
      refine ⟨s, by omega, s2, fun i h1 h2 => ?_, s4⟩
      by_cases ei : i = p
      · rw [ei]; exact hq
      · exact s3 i (by omega) h2
    · exact ⟨p, Nat.le_refl _, by omega, fun i h1 h2 => by omega, fun _ => hq⟩
def isL (c : Int) : Prop := 97 ≤ c ∧ c ≤ 122
def isD (c : Int) : Prop := 48 ≤ c ∧ c ≤ 57
/-- what digits tell -/
def dgv (f : Nat → Int) (s : Nat) : Nat → Int
  | 0 => 0
  | j + 1 => dgv f s j * 10 + (f (s + j) - 48)
section TOK
variable {h g : jm_H} {f : Nat → Int} {n : Nat}
theorem s_sign (t : txt f n) (X : TX h f n) {p : Nat} (hp : p < n) : m_Reader_signAt (zI p) h (zI (f p)) h := by
  have t1 := t.1
  refine wp_Reader_signAt ⟨fun hc => ?_, fun _ => ⟨fun hc => ?_, fun _ => ⟨zI_in (by omega) (by omega) (by omega), ?_⟩⟩⟩
  · rw [zl_0, zI_lt (by omega) (by omega) (by omega) (by omega)] at hc; omega
  · rw [X.1, zI_le (by omega) (by omega) (by omega) (by omega)] at hc; omega
  · rw [zI_cn (by omega), X.2 p hp]
theorem s_see (t : txt f n) (Y : TY g f n) {p : Nat} (hp : p < n) : m_M_see (zI p) g (zI (f p)) g := by
  have t1 := t.1
  refine wp_M_see ⟨fun hc => ?_, fun _ => ⟨zI_in (by omega) (by omega) (by omega), ?_⟩⟩
  · rw [Y.1, zI_le (by omega) (by omega) (by omega) (by omega)] at hc; omega
  · rw [zI_cn (by omega), Y.2 p hp]
theorem s_seeE (t : txt f n) (Y : TY g f n) : m_M_see (zI n) g (-1) g := by
  have t1 := t.1
  refine wp_M_see ⟨fun _ => rfl, fun hc => ?_⟩
  rw [Y.1, zI_le (by omega) (by omega) (by omega) (by omega)] at hc; omega
theorem s_let {c : Int} (c1 : 0 ≤ c) (c2 : c ≤ 255) : (isL c → m_Reader_isLetter (zI c) h 1 h) ∧ (¬ isL c → m_Reader_isLetter (zI c) h 0 h) := by
  unfold isL
  refine ⟨fun q => wp_Reader_isLetter ⟨fun hc => ?_, fun _ => ⟨fun hc => ?_, fun _ => rfl⟩⟩, fun q => wp_Reader_isLetter ⟨fun _ => rfl, fun hc => ⟨fun _ => rfl, fun hd => ?_⟩⟩⟩
  · rw [zl_97, zI_lt (by omega) (by omega) (by omega) (by omega)] at hc; omega
  · rw [zl_122, zI_lt (by omega) (by omega) (by omega) (by omega)] at hc; omega
  · rw [zl_97, zI_lt (by omega) (by omega) (by omega) (by omega)] at hc
    rw [zl_122, zI_lt (by omega) (by omega) (by omega) (by omega)] at hd; omega
theorem s_dig {c : Int} (c1 : 0 ≤ c) (c2 : c ≤ 255) : (isD c → m_Reader_isDigit (zI c) h 1 h) ∧ (¬ isD c → m_Reader_isDigit (zI c) h 0 h) := by
  unfold isD
  refine ⟨fun q => wp_Reader_isDigit ⟨fun hc => ?_, fun _ => ⟨fun hc => ?_, fun _ => rfl⟩⟩, fun q => wp_Reader_isDigit ⟨fun _ => rfl, fun hc => ⟨fun _ => rfl, fun hd => ?_⟩⟩⟩
  · rw [zl_48, zI_lt (by omega) (by omega) (by omega) (by omega)] at hc; omega
  · rw [zl_57, zI_lt (by omega) (by omega) (by omega) (by omega)] at hc; omega
  · rw [zl_48, zI_lt (by omega) (by omega) (by omega) (by omega)] at hc
    rw [zl_57, zI_lt (by omega) (by omega) (by omega) (by omega)] at hd; omega
theorem s_letM {c : Int} (c1 : -1 ≤ c) (c2 : c ≤ 255) : (isL c → m_M_in (zI c) 97 122 g 1 g) ∧ (¬ isL c → m_M_in (zI c) 97 122 g 0 g) := by
  have := s_in (h := g) (x := c) (a := 97) (b := 122) (by omega) (by omega) (by omega) (by omega) (by omega) (by omega)
  refine ⟨fun q => ?_, fun q => ?_⟩
  · rw [if_pos (show 97 ≤ c ∧ c ≤ 122 from q)] at this; exact this
  · rw [if_neg (show ¬ (97 ≤ c ∧ c ≤ 122) from q)] at this; exact this
theorem s_digM {c : Int} (c1 : -1 ≤ c) (c2 : c ≤ 255) : (isD c → m_M_in (zI c) 48 57 g 1 g) ∧ (¬ isD c → m_M_in (zI c) 48 57 g 0 g) := by
  have := s_in (h := g) (x := c) (a := 48) (b := 57) (by omega) (by omega) (by omega) (by omega) (by omega) (by omega)
  refine ⟨fun q => ?_, fun q => ?_⟩
  · rw [if_pos (show 48 ≤ c ∧ c ≤ 57 from q)] at this; exact this
  · rw [if_neg (show ¬ (48 ≤ c ∧ c ≤ 57) from q)] at this; exact this
/-! the class -/
theorem s_nw_0 (t : txt f n) {s e : Nat} (he : e ≤ n) (hse : s ≤ e) (hL : ∀ i, s ≤ i → i < e → isL (f i)) (hE : e < n → ¬ isL (f e)) : ∀ (d q : Nat) (h : jm_H), q + d = e → s ≤ q → TX h f n → h.1 4 0 3 = zI q → h.1 4 0 5 = zI s → ∃ h', l_Reader_nextWord_0 h (none, h') ∧ h'.1 4 0 4 = zI (if e - s ≤ 7 then 1 else 0) ∧ h'.1 4 0 3 = zI e ∧ Ch (fun K _ j => K = 4 ∧ (j = 3 ∨ j = 4)) h h' := by
  have t1 := t.1
  intro d
  induction d with
  | zero =>
    intro q h eq hq X a3 a5
    have eq' : q = e := by omega
    subst eq'
    have key : (7 < ((h.1 4 0 3) - (h.1 4 0 5)) → ((none, jm_sI h 4 0 4 (zI (if q - s ≤ 7 then 1 else 0))) : jm_Rs) = (none, (jm_sI h 4 0 4 0))) ∧ (¬ (7 < ((h.1 4 0 3) - (h.1 4 0 5))) → ((none, jm_sI h 4 0 4 (zI (if q - s ≤ 7 then 1 else 0))) : jm_Rs) = (none, (jm_sI h 4 0 4 1))) := by
      rw [a3, a5, zI_sub, zl_7]
      refine ⟨fun hc => ?_, fun hc => ?_⟩
      · rw [zI_lt (by omega) (by omega) (by omega) (by omega)] at hc
        rw [if_neg (by omega)]; rfl
      · rw [zI_lt (by omega) (by omega) (by omega) (by omega)] at hc
        rw [if_pos (by omega)]; rfl
    refine ⟨jm_sI h 4 0 4 (zI (if q - s ≤ 7 then 1 else 0)), ?_, sI_eq, by rw [sI_ne (by omega)]; exact a3, Ch.sI (by omega)⟩
    by_cases hn : q < n
    · have b := t.2 q hn
      refine wp_Reader_nextWord_0 ⟨fun hc => ?_, fun _ => ⟨_, h, by rw [a3]; exact s_sign t X hn, 0, h, (s_let b.1 b.2).2 (hE hn), fun _ => key, fun hc => absurd rfl hc⟩⟩
      rw [X.1, a3, zI_le (by omega) (by omega) (by omega) (by omega)] at hc; omega
    · refine wp_Reader_nextWord_0 ⟨fun _ => key, fun hc => ?_⟩
      rw [X.1, a3, zI_le (by omega) (by omega) (by omega) (by omega)] at hc; omega
  | succ d ih =>
    intro q h eq hq X a3 a5
    have b := t.2 q (by omega)
    have c1 : Ch (fun K _ j => K = 4 ∧ (j = 3 ∨ j = 4)) h (jm_sI h 4 0 3 (zI ((q + 1 : Nat) : Int))) := Ch.sI (by omega)
    obtain ⟨h', r1, r2, r3, r4⟩ := ih (q + 1) (jm_sI h 4 0 3 (zI ((q + 1 : Nat) : Int))) (by omega) (by omega) (X.ch (c1.at (by omega)) (fun j => c1.at (by omega))) sI_eq (by rw [c1.at (by omega)]; exact a5)
    refine ⟨h', wp_Reader_nextWord_0 ⟨fun hc => ?_, fun _ => ⟨_, h, by rw [a3]; exact s_sign t X (by omega), 1, h, (s_let b.1 b.2).1 (hL q hq (by omega)), fun hc => absurd hc (by decide), fun _ => by rw [a3, e_p1]; exact r1⟩⟩, r2, r3, c1.tr r4⟩
    rw [X.1, a3, zI_le (by omega) (by omega) (by omega) (by omega)] at hc; omega
theorem s_nn_3 (t : txt f n) {s e : Nat} (he : e ≤ n) (hse : s ≤ e) (hL : ∀ i, s ≤ i → i < e → isD (f i)) (hE : e < n → ¬ isD (f e)) : ∀ (d q : Nat) (h : jm_H), q + d = e → s ≤ q → TX h f n → h.1 4 0 3 = zI q → h.1 4 0 5 = zI s → h.1 4 0 6 = zI (dgv f s (q - s)) → ∃ h', l_Reader_nextWhole_3 h (none, h') ∧ h'.1 4 0 4 = zI (if e - s ≤ 3 then 2 else 0) ∧ h'.1 4 0 3 = zI e ∧ h'.1 4 0 6 = zI (dgv f s (e - s)) ∧ Ch (fun K _ j => K = 4 ∧ (j = 3 ∨ j = 4 ∨ j = 6)) h h' := by
  have t1 := t.1
  intro d
  induction d with
  | zero =>
    intro q h eq hq X a3 a5 a6
    have eq' : q = e := by omega
    subst eq'
    have key : (3 < ((h.1 4 0 3) - (h.1 4 0 5)) → ((none, jm_sI h 4 0 4 (zI (if q - s ≤ 3 then 2 else 0))) : jm_Rs) = (none, (jm_sI h 4 0 4 0))) ∧ (¬ (3 < ((h.1 4 0 3) - (h.1 4 0 5))) → ((none, jm_sI h 4 0 4 (zI (if q - s ≤ 3 then 2 else 0))) : jm_Rs) = (none, (jm_sI h 4 0 4 2))) := by
      rw [a3, a5, zI_sub, zl_3]
      refine ⟨fun hc => ?_, fun hc => ?_⟩
      · rw [zI_lt (by omega) (by omega) (by omega) (by omega)] at hc
        rw [if_neg (by omega)]; rfl
      · rw [zI_lt (by omega) (by omega) (by omega) (by omega)] at hc
        rw [if_pos (by omega)]; rfl
    refine ⟨jm_sI h 4 0 4 (zI (if q - s ≤ 3 then 2 else 0)), ?_, sI_eq, by rw [sI_ne (by omega)]; exact a3, by rw [sI_ne (by omega)]; exact a6, Ch.sI (by omega)⟩
    by_cases hn : q < n
    · have b := t.2 q hn
      refine wp_Reader_nextWhole_3 ⟨fun hc => ?_, fun _ => ⟨_, h, by rw [a3]; exact s_sign t X hn, 0, h, (s_dig b.1 b.2).2 (hE hn), fun _ => key, fun hc => absurd rfl hc⟩⟩
      rw [X.1, a3, zI_le (by omega) (by omega) (by omega) (by omega)] at hc; omega
    · refine wp_Reader_nextWhole_3 ⟨fun _ => key, fun hc => ?_⟩
      rw [X.1, a3, zI_le (by omega) (by omega) (by omega) (by omega)] at hc; omega
  | succ d ih =>
    intro q h eq hq X a3 a5 a6
    have b := t.2 q (by omega)
    have ed : dgv f s (q + 1 - s) = dgv f s (q - s) * 10 + (f q - 48) := by
      rw [show q + 1 - s = (q - s) + 1 by omega]
      show dgv f s (q - s) * 10 + (f (s + (q - s)) - 48) = _
      rw [show s + (q - s) = q by omega]
    obtain ⟨k, ek⟩ : ∃ k, k = jm_sI (jm_sI h 4 0 6 (zI (dgv f s (q + 1 - s)))) 4 0 3 (zI ((q + 1 : Nat) : Int)) := ⟨_, rfl⟩
    have c1 : Ch (fun K _ j => K = 4 ∧ (j = 3 ∨ j = 4 ∨ j = 6)) h k := by
      rw [ek]
      exact (Ch.sI (by omega)).tr (Ch.sI (by omega))
    obtain ⟨h', r1, r2, r3, r4, r5⟩ := ih (q + 1) k (by omega) (by omega) (X.ch (c1.at (by omega)) (fun j => c1.at (by omega))) (by rw [ek, sI_eq]) (by rw [c1.at (by omega)]; exact a5) (by rw [ek, sI_ne (by omega), sI_eq])
    refine ⟨h', wp_Reader_nextWhole_3 ⟨fun hc => ?_, fun _ => ⟨_, h, by rw [a3]; exact s_sign t X (by omega), 1, h, (s_dig b.1 b.2).1 (hL q hq (by omega)), fun hc => absurd hc (by decide), fun _ => ⟨zI (f q), h, by rw [a3]; exact s_sign t X (by omega), ?_⟩⟩⟩, r2, r3, r4, c1.tr r5⟩
    · rw [X.1, a3, zI_le (by omega) (by omega) (by omega) (by omega)] at hc; omega
    · rw [a3, a6, e_p1, zl_10, zl_48, zI_mul, zI_sub, zI_add, ← ed, ← ek]; exact r1
/-! the reference -/
theorem s_rw_34 (t : txt f n) {s e : Nat} (he : e ≤ n) (hse : s ≤ e) (hL : ∀ i, s ≤ i → i < e → isL (f i)) (hE : e < n → ¬ isL (f e)) : ∀ (d q : Nat) (g : jm_H), q + d = e → s ≤ q → TY g f n → g.1 8 0 18 = zI q → g.1 8 0 17 = zI s → ∃ g', l_M_reads_34 g (none, g') ∧ g'.1 8 0 19 = zI (if e - s ≤ 7 then 2 else 1) ∧ g'.1 8 0 18 = zI e ∧ Ch (fun K _ j => K = 8 ∧ (j = 18 ∨ j = 19)) g g' := by
  have t1 := t.1
  intro d
  induction d with
  | zero =>
    intro q g eq hq Y a18 a17
    have eq' : q = e := by omega
    subst eq'
    have key : (((g.1 8 0 18) - (g.1 8 0 17)) ≤ 7 → ((none, jm_sI g 8 0 19 (zI (if q - s ≤ 7 then 2 else 1))) : jm_Rs) = (none, (jm_sI g 8 0 19 2))) ∧ (¬ (((g.1 8 0 18) - (g.1 8 0 17)) ≤ 7) → ((none, jm_sI g 8 0 19 (zI (if q - s ≤ 7 then 2 else 1))) : jm_Rs) = (none, (jm_sI g 8 0 19 1))) := by
      rw [a18, a17, zI_sub, zl_7]
      refine ⟨fun hc => ?_, fun hc => ?_⟩
      · rw [zI_le (by omega) (by omega) (by omega) (by omega)] at hc
        rw [if_pos (by omega)]; rfl
      · rw [zI_le (by omega) (by omega) (by omega) (by omega)] at hc
        rw [if_neg (by omega)]; rfl
    refine ⟨jm_sI g 8 0 19 (zI (if q - s ≤ 7 then 2 else 1)), ?_, sI_eq, by rw [sI_ne (by omega)]; exact a18, Ch.sI (by omega)⟩
    by_cases hn : q < n
    · have b := t.2 q hn
      exact wp_M_reads_34 ⟨_, g, by rw [a18]; exact s_see t Y hn, 0, g, (s_letM (by omega) b.2).2 (hE hn), fun _ => key, fun hc => absurd rfl hc⟩
    · have hn' : q = n := by omega
      subst hn'
      exact wp_M_reads_34 ⟨_, g, by rw [a18]; exact s_seeE t Y, 0, g, (s_letM (c := -1) (by omega) (by omega)).2 (by unfold isL; omega), fun _ => key, fun hc => absurd rfl hc⟩
  | succ d ih =>
    intro q g eq hq Y a18 a17
    have b := t.2 q (by omega)
    have c1 : Ch (fun K _ j => K = 8 ∧ (j = 18 ∨ j = 19)) g (jm_sI g 8 0 18 (zI ((q + 1 : Nat) : Int))) := Ch.sI (by omega)
    obtain ⟨g', r1, r2, r3, r4⟩ := ih (q + 1) (jm_sI g 8 0 18 (zI ((q + 1 : Nat) : Int))) (by omega) (by omega) (Y.ch (c1.at (by omega)) (fun j => c1.at (by omega))) sI_eq (by rw [c1.at (by omega)]; exact a17)
    exact ⟨g', wp_M_reads_34 ⟨_, g, by rw [a18]; exact s_see t Y (by omega), 1, g, (s_letM (by omega) b.2).1 (hL q hq (by omega)), fun hc => absurd hc (by decide), fun _ => by rw [a18, e_p1]; exact r1⟩, r2, r3, c1.tr r4⟩
theorem s_rn_70 (t : txt f n) {s e : Nat} (he : e ≤ n) (hse : s ≤ e) (hL : ∀ i, s ≤ i → i < e → isD (f i)) (hE : e < n → ¬ isD (f e)) : ∀ (d q : Nat) (g : jm_H), q + d = e → s ≤ q → TY g f n → g.1 8 0 18 = zI q → g.1 8 0 17 = zI s → (q - s ≤ 3 → g.1 8 0 20 = zI (dgv f s (q - s))) → ∃ g', l_M_reads_70 g (none, g') ∧ g'.1 8 0 19 = zI (if e - s ≤ 3 then 3 else 1) ∧ g'.1 8 0 18 = zI e ∧ (e - s ≤ 3 → g'.1 8 0 20 = zI (dgv f s (e - s))) ∧ Ch (fun K _ j => K = 8 ∧ (j = 18 ∨ j = 19 ∨ j = 20)) g g' := by
  have t1 := t.1
  intro d
  induction d with
  | zero =>
    intro q g eq hq Y a18 a17 a20
    have eq' : q = e := by omega
    subst eq'
    have key : (((g.1 8 0 18) - (g.1 8 0 17)) ≤ 3 → ((none, jm_sI g 8 0 19 (zI (if q - s ≤ 3 then 3 else 1))) : jm_Rs) = (none, (jm_sI g 8 0 19 3))) ∧ (¬ (((g.1 8 0 18) - (g.1 8 0 17)) ≤ 3) → ((none, jm_sI g 8 0 19 (zI (if q - s ≤ 3 then 3 else 1))) : jm_Rs) = (none, (jm_sI g 8 0 19 1))) := by
      rw [a18, a17, zI_sub, zl_3]
      refine ⟨fun hc => ?_, fun hc => ?_⟩
      · rw [zI_le (by omega) (by omega) (by omega) (by omega)] at hc
        rw [if_pos (by omega)]
      · rw [zI_le (by omega) (by omega) (by omega) (by omega)] at hc
        rw [if_neg (by omega)]; rfl
    refine ⟨jm_sI g 8 0 19 (zI (if q - s ≤ 3 then 3 else 1)), ?_, sI_eq, by rw [sI_ne (by omega)]; exact a18, fun hx => by rw [sI_ne (by omega)]; exact a20 hx, Ch.sI (by omega)⟩
    by_cases hn : q < n
    · have b := t.2 q hn
      exact wp_M_reads_70 ⟨_, g, by rw [a18]; exact s_see t Y hn, 0, g, (s_digM (by omega) b.2).2 (hE hn), fun _ => key, fun hc => absurd rfl hc⟩
    · have hn' : q = n := by omega
      subst hn'
      exact wp_M_reads_70 ⟨_, g, by rw [a18]; exact s_seeE t Y, 0, g, (s_digM (c := -1) (by omega) (by omega)).2 (by unfold isD; omega), fun _ => key, fun hc => absurd rfl hc⟩
  | succ d ih =>
    intro q g eq hq Y a18 a17 a20
    have b := t.2 q (by omega)
    have ed : dgv f s (q + 1 - s) = dgv f s (q - s) * 10 + (f q - 48) := by
      rw [show q + 1 - s = (q - s) + 1 by omega]
      show dgv f s (q - s) * 10 + (f (s + (q - s)) - 48) = _
      rw [show s + (q - s) = q by omega]
    by_cases h3 : q - s < 3
    · obtain ⟨k, ek⟩ : ∃ k, k = jm_sI (jm_sI g 8 0 20 (zI (dgv f s (q + 1 - s)))) 8 0 18 (zI ((q + 1 : Nat) : Int)) := ⟨_, rfl⟩
      have c1 : Ch (fun K _ j => K = 8 ∧ (j = 18 ∨ j = 19 ∨ j = 20)) g k := by
        rw [ek]
        exact (Ch.sI (by omega)).tr (Ch.sI (by omega))
      obtain ⟨g', r1, r2, r3, r4, r5⟩ := ih (q + 1) k (by omega) (by omega) (Y.ch (c1.at (by omega)) (fun j => c1.at (by omega))) (by rw [ek, sI_eq]) (by rw [c1.at (by omega)]; exact a17) (fun _ => by rw [ek, sI_ne (by omega), sI_eq])
      refine ⟨g', wp_M_reads_70 ⟨_, g, by rw [a18]; exact s_see t Y (by omega), 1, g, (s_digM (by omega) b.2).1 (hL q hq (by omega)), fun hc => absurd hc (by decide), fun _ => ⟨fun hc => ?_, fun _ => ⟨zI (f q), g, by rw [a18]; exact s_see t Y (by omega), ?_⟩⟩⟩, r2, r3, r4, c1.tr r5⟩
      · rw [a18, a17, zI_sub, zl_3, zI_le (by omega) (by omega) (by omega) (by omega)] at hc; omega
      · rw [a18, a20 (by omega), e_p1, zl_10, zl_48, zI_mul, zI_add, zI_sub, show 10 * dgv f s (q - s) + f q - 48 = dgv f s (q + 1 - s) by rw [ed]; omega, ← ek]; exact r1
    · obtain ⟨k, ek⟩ : ∃ k, k = jm_sI (jm_sI g 8 0 20 (g.1 8 0 20)) 8 0 18 (zI ((q + 1 : Nat) : Int)) := ⟨_, rfl⟩
      have c1 : Ch (fun K _ j => K = 8 ∧ (j = 18 ∨ j = 19 ∨ j = 20)) g k := by
        rw [ek]
        exact (Ch.sI (by omega)).tr (Ch.sI (by omega))
      obtain ⟨g', r1, r2, r3, r4, r5⟩ := ih (q + 1) k (by omega) (by omega) (Y.ch (c1.at (by omega)) (fun j => c1.at (by omega))) (by rw [ek, sI_eq]) (by rw [c1.at (by omega)]; exact a17) (fun hx => by omega)
      refine ⟨g', wp_M_reads_70 ⟨_, g, by rw [a18]; exact s_see t Y (by omega), 1, g, (s_digM (by omega) b.2).1 (hL q hq (by omega)), fun hc => absurd hc (by decide), fun _ => ⟨fun _ => ?_, fun hc => ?_⟩⟩, r2, r3, r4, c1.tr r5⟩
      · rw [a18, e_p1, ← ek]; exact r1
      · rw [a18, a17, zI_sub, zl_3, zI_le (by omega) (by omega) (by omega) (by omega)] at hc; omega
/-! blanks -/
theorem s_nx_0 (t : txt f n) {s : Nat} (hs : s ≤ n) {r : jm_Rs} (R : ∀ k, TX k f n → k.1 4 0 3 = zI s → Ch (fun K _ j => K = 4 ∧ j = 3) h k → l_Reader_next_0 k r) : ∀ (d q : Nat) (k : jm_H), q + d = s → (∀ i, q ≤ i → i < s → f i = 32) → TX k f n → k.1 4 0 3 = zI q → Ch (fun K _ j => K = 4 ∧ j = 3) h k → l_Reader_next_0 k r := by
  have t1 := t.1
  intro d
  induction d with
  | zero =>
    intro q k eq hB X a3 ck
    have eq' : q = s := by omega
    subst eq'
    exact R k X a3 ck
  | succ d ih =>
    intro q k eq hB X a3 ck
    have c1 : Ch (fun K _ j => K = 4 ∧ j = 3) k (jm_sI k 4 0 3 (zI ((q + 1 : Nat) : Int))) := Ch.sI (by omega)
    have r1 := ih (q + 1) (jm_sI k 4 0 3 (zI ((q + 1 : Nat) : Int))) (by omega) (fun i h1 h2 => hB i (by omega) h2) (X.ch (c1.at (by omega)) (fun j => c1.at (by omega))) sI_eq (ck.tr c1)
    refine wp_Reader_next_0 ⟨fun hc => ?_, fun _ => ⟨zI (f q), k, by rw [a3]; exact s_sign t X (by omega), fun _ => by rw [a3, e_p1]; exact r1, fun hc => ?_⟩⟩
    · rw [X.1, a3, zI_le (by omega) (by omega) (by omega) (by omega)] at hc; omega
    · rw [hB q (Nat.le_refl _) (by omega)] at hc; exact absurd rfl hc
theorem s_rd_0 (t : txt f n) {s : Nat} (hs : s ≤ n) {r : jm_Rs} (R : ∀ k, TY k f n → k.1 8 0 18 = zI s → Ch (fun K _ j => K = 8 ∧ j = 18) g k → l_M_reads_0 k r) : ∀ (d q : Nat) (k : jm_H), q + d = s → (∀ i, q ≤ i → i < s → f i = 32) → TY k f n → k.1 8 0 18 = zI q → Ch (fun K _ j => K = 8 ∧ j = 18) g k → l_M_reads_0 k r := by
  have t1 := t.1
  intro d
  induction d with
  | zero =>
    intro q k eq hB X a3 ck
    have eq' : q = s := by omega
    subst eq'
    exact R k X a3 ck
  | succ d ih =>
    intro q k eq hB X a3 ck
    have c1 : Ch (fun K _ j => K = 8 ∧ j = 18) k (jm_sI k 8 0 18 (zI ((q + 1 : Nat) : Int))) := Ch.sI (by omega)
    have r1 := ih (q + 1) (jm_sI k 8 0 18 (zI ((q + 1 : Nat) : Int))) (by omega) (fun i h1 h2 => hB i (by omega) h2) (X.ch (c1.at (by omega)) (fun j => c1.at (by omega))) sI_eq (ck.tr c1)
    refine wp_M_reads_0 ⟨zI (f q), k, by rw [a3]; exact s_see t X (by omega), fun _ => by rw [a3, e_p1]; exact r1, fun hc => ?_⟩
    rw [hB q (Nat.le_refl _) (by omega)] at hc; exact absurd rfl hc
end TOK
