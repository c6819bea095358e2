/-! ===== spreading ===== -/
section SPR
variable {h : jm_H} {f J F : Nat} {room : Int} {fi la c : Nat → Int} {lf sl : Nat → Int} {u : Nat → Nat → Int}
theorem s_allCosts_4 (S : FS h f J F room fi la c) : ∀ (d n : Nat) (s : Int), n + d = J → l_Flow_allCosts_4 f (zI s) (zI n) h (some (jm_i (zI (s + (sm J c - sm n c)))), h) := by
  obtain ⟨s1, s2, s3, s4, s5, s6, s7, s8, s9⟩ := S
  intro d
  induction d with
  | zero =>
    intro n s e
    refine wp_Flow_allCosts_4 ⟨fun _ => ?_, fun hc => ?_⟩
    · rw [show n = J by omega, show s + (sm J c - sm J c) = s by omega]
    · rw [s6, zI_le (by omega) (by omega) (by omega) (by omega)] at hc
      omega
  | succ d ih =>
    intro n s e
    refine wp_Flow_allCosts_4 ⟨fun hc => ?_, fun _ => ⟨zI_in (by omega) (by omega) (by omega), ?_⟩⟩
    · rw [s6, zI_le (by omega) (by omega) (by omega) (by omega)] at hc
      omega
    · rw [zI_cn (by omega), (s9 n (by omega)).1, zI_add, zl_1, zI_add]
      have := ih (n + 1) (s + c n) (by omega)
      rw [sm_s] at this
      rw [show s + (sm J c - sm n c) = s + c n + (sm J c - (sm n c + c n)) by omega]
      exact this
theorem s_allCosts (S : FS h f J F room fi la c) : m_Flow_allCosts f h (zI (sm J c)) h := by
  refine wp_Flow_allCosts ?_
  have := s_allCosts_4 S J 0 0 (by omega)
  rw [sm_0, show (0 : Int) + (sm J c - 0) = sm J c by omega] at this
  exact this
theorem s_isEmpty (S : FS h f J F room fi la c) {j : Nat} (hj : j < J) : m_Flow_isEmpty f (zI j) h (zI (if fi j ≤ la j then 0 else 1)) h := by
  obtain ⟨s1, s2, s3, s4, s5, s6, s7, s8, s9⟩ := S
  have hi : jm_in (zI (j : Int)) 24 := zI_in (by omega) (by omega) (by omega)
  have a1 := s7 j hj
  have a2 := s8 j hj
  refine wp_Flow_isEmpty ⟨hi, hi, fun hc => ?_, fun hc => ?_⟩
  · rw [zI_cn (by omega), a1.1, a2.1, zI_le (by omega) (by omega) (by omega) (by omega)] at hc
    rw [if_pos hc]; rfl
  · rw [zI_cn (by omega), a1.1, a2.1, zI_le (by omega) (by omega) (by omega) (by omega)] at hc
    rw [if_neg hc]; rfl
theorem s_hasEmpty_2 (S : FS h f J F room fi la c) : ∀ (d n : Nat), n + d = J → (∀ j, j < n → fi j ≤ la j) → ∃ b : Int, (b = 0 ∨ b = 1) ∧ (b = 0 ↔ ∀ j, j < J → fi j ≤ la j) ∧ l_Flow_hasEmptyWindow_2 f (zI n) h (some (jm_i (zI b)), h) := by
  intro d
  induction d with
  | zero =>
    intro n e hn
    obtain ⟨s1, s2, s3, s4, s5, s6, s7, s8, s9⟩ := S
    refine ⟨0, Or.inl rfl, ⟨fun _ j hj => hn j (by omega), fun _ => rfl⟩, wp_Flow_hasEmptyWindow_2 ⟨fun _ => rfl, fun hc => ?_⟩⟩
    rw [s6, zI_le (by omega) (by omega) (by omega) (by omega)] at hc
    omega
  | succ d ih =>
    intro n e hn
    have hE := s_isEmpty S (j := n) (by omega)
    by_cases hx : fi n ≤ la n
    · obtain ⟨b, b1, b2, b3⟩ := ih (n + 1) (by omega) (fun j hj => by
        by_cases e2 : j = n
        · rw [e2]; exact hx
        · exact hn j (by omega))
      refine ⟨b, b1, b2, wp_Flow_hasEmptyWindow_2 ⟨fun hc => ?_, fun _ => ⟨_, h, hE, fun _ => ?_, fun hc => ?_⟩⟩⟩
      · obtain ⟨s1, s2, s3, s4, s5, s6, s7, s8, s9⟩ := S
        rw [s6, zI_le (by omega) (by omega) (by omega) (by omega)] at hc
        omega
      · rw [zl_1, zI_add]; exact b3
      · rw [if_pos hx] at hc
        exact absurd rfl hc
    · refine ⟨1, Or.inr rfl, ⟨fun hc => absurd hc (by decide), fun hc => absurd (hc n (by omega)) hx⟩, wp_Flow_hasEmptyWindow_2 ⟨fun hc => ?_, fun _ => ⟨_, h, hE, fun hc => ?_, fun hc => rfl⟩⟩⟩
      · obtain ⟨s1, s2, s3, s4, s5, s6, s7, s8, s9⟩ := S
        rw [s6, zI_le (by omega) (by omega) (by omega) (by omega)] at hc
        omega
      · rw [if_neg hx] at hc
        exact absurd hc (by decide)
theorem s_hasEmpty (S : FS h f J F room fi la c) : ∃ b : Int, (b = 0 ∨ b = 1) ∧ (b = 0 ↔ ∀ j, j < J → fi j ≤ la j) ∧ m_Flow_hasEmptyWindow f h (zI b) h := by
  obtain ⟨b, b1, b2, b3⟩ := s_hasEmpty_2 S J 0 (by omega) (fun j hj => by omega)
  exact ⟨b, b1, b2, wp_Flow_hasEmptyWindow b3⟩
/-- the whole of a row of units is set to 0 -/
theorem s_fill21 {q : Nat} : ∀ (d n : Nat) (h : jm_H), n + d = 24 → ∃ h', l_JArrays_fill_21_5 q 0 (zI n) (zI 24) h (none, h') ∧ Ch (fun K i _ => K = 21 ∧ i = q) h h' ∧ (∀ k, n ≤ k → k < 24 → h'.1 21 q k = zI 0) ∧ (∀ k, k < n → h'.1 21 q k = h.1 21 q k) := by
  intro d
  induction d with
  | zero =>
    intro n h e
    refine ⟨h, wp_JArrays_fill_21_5 ⟨fun _ => rfl, fun hc => ?_⟩, Ch.rf h, fun k a b => by omega, fun k _ => rfl⟩
    rw [zI_le (by omega) (by omega) (by omega) (by omega)] at hc
    omega
  | succ d ih =>
    intro n h e
    obtain ⟨h', a1, a2, a3, a4⟩ := ih (n + 1) (jm_sI h 21 q n 0) (by omega)
    refine ⟨h', wp_JArrays_fill_21_5 ⟨fun hc => ?_, fun _ => ⟨zI_in (by omega) (by omega) (by omega), ?_⟩⟩, (Ch.sI ⟨rfl, rfl⟩).tr a2, fun k k1 k2 => ?_, fun k hk => ?_⟩
    · rw [zI_le (by omega) (by omega) (by omega) (by omega)] at hc
      omega
    · rw [zI_cn (by omega), zl_1, zI_add]
      exact a1
    · by_cases e2 : k = n
      · rw [e2, a4 n (by omega), sI_eq]; rfl
      · exact a3 k (by omega) k2
    · rw [a4 k (by omega), sI_ne (by omega)]
theorem s_empty_16 : ∀ (d n : Nat) (h : jm_H), FS h f J F room fi la c → n + d = J → ∃ h', l_Flow_empty_16 f (zI n) h (none, h') ∧ Ch (cD f) h h' ∧ (∀ j, n ≤ j → j < J → h'.1 18 f j = zI (c j) ∧ ∀ k, k < 24 → h'.1 21 (24 * f + j) k = zI 0) ∧ (∀ j, j < n → h'.1 18 f j = h.1 18 f j ∧ ∀ k, h'.1 21 (24 * f + j) k = h.1 21 (24 * f + j) k) ∧ (∀ k, h'.1 19 f k = h.1 19 f k) := by
  intro d
  induction d with
  | zero =>
    intro n h S e
    obtain ⟨s1, s2, s3, s4, s5, s6, s7, s8, s9⟩ := S
    refine ⟨h, wp_Flow_empty_16 ⟨fun _ => rfl, fun hc => ?_⟩, Ch.rf h, fun j a b => by omega, fun j _ => ⟨rfl, fun _ => rfl⟩, fun _ => rfl⟩
    rw [s6, zI_le (by omega) (by omega) (by omega) (by omega)] at hc
    omega
  | succ d ih =>
    intro n h S e
    have hJ := S.1
    have h6 := S.2.2.2.2.2.1
    have h9 := (S.2.2.2.2.2.2.2.2 n (by omega)).1
    obtain ⟨h1, f1, f2, f3, f4⟩ := s_fill21 (q := 24 * f + n) 24 0 (jm_sI h 18 f n (h.1 15 f n)) (by omega)
    have c1 : Ch (cD f) h h1 := (Ch.sI (Or.inl ⟨rfl, rfl⟩)).tr (f2.mono (fun K i j q => Or.inr (Or.inr ⟨q.1, by omega, by omega⟩)))
    obtain ⟨h', a1, a2, a3, a4, a5⟩ := ih (n + 1) h1 (S.ch c1) (by omega)
    have hi : jm_in (zI (n : Int)) 24 := zI_in (by omega) (by omega) (by omega)
    refine ⟨h', wp_Flow_empty_16 ⟨fun hc => ?_, fun _ => ⟨hi, hi, hi, h1, ?_, ?_⟩⟩, c1.tr a2, fun j j1 j2 => ?_, fun j hj => ⟨?_, fun k => ?_⟩, fun k => ?_⟩
    · rw [h6, zI_le (by omega) (by omega) (by omega) (by omega)] at hc
      omega
    · rw [zI_cn (by omega)]
      exact wp_JArrays_fill_21 f1
    · rw [zl_1, zI_add]
      exact a1
    · by_cases e2 : j = n
      · subst e2
        refine ⟨?_, fun k hk => ?_⟩
        · rw [(a4 j (by omega)).1, f2.at (by omega), sI_eq, h9]
        · rw [(a4 j (by omega)).2 k]
          exact f3 k (by omega) hk
      · exact a3 j (by omega) j2
    · rw [(a4 j (by omega)).1, f2.at (by omega), sI_ne (by omega)]
    · rw [(a4 j (by omega)).2 k, f2.at (by omega), sI_ne (by omega)]
    · rw [a5 k, f2.at (by omega), sI_ne (by omega)]
theorem s_empty_2 : ∀ (d n : Nat) (h : jm_H), FS h f J F room fi la c → n + d = F → (∀ k, k < n → h.1 19 f k = zI room) → ∃ h', l_Flow_empty_2 f (zI n) h (none, h') ∧ Ch (cD f) h h' ∧ FD h' f J F c (fun _ => room) (fun _ _ => 0) := by
  intro d
  induction d with
  | zero =>
    intro n h S e hn
    obtain ⟨h', a1, a2, a3, a4, a5⟩ := s_empty_16 J 0 h S (by omega)
    obtain ⟨s1, s2, s3, s4, s5, s6, s7, s8, s9⟩ := S
    refine ⟨h', wp_Flow_empty_2 ⟨fun _ => a1, fun hc => ?_⟩, a2, fun j hj => (a3 j (by omega) hj).1, fun k hk => ?_, fun j k hj hk => (a3 j (by omega) hj).2 k hk⟩
    · rw [s5, zI_le (by omega) (by omega) (by omega) (by omega)] at hc
      omega
    · rw [a5 k]
      exact hn k (by omega)
  | succ d ih =>
    intro n h S e hn
    have hF := S.2.1
    have h4 := S.2.2.2.1
    have h5 := S.2.2.2.2.1
    have c1 : Ch (cD f) h (jm_sI h 19 f n (h.1 1 f 1)) := Ch.sI (Or.inr (Or.inl ⟨rfl, rfl⟩))
    obtain ⟨h', a1, a2, a3⟩ := ih (n + 1) (jm_sI h 19 f n (h.1 1 f 1)) (S.ch c1) (by omega) (fun k hk => by
      by_cases e2 : k = n
      · rw [e2, sI_eq, h4]
      · rw [sI_ne (by omega)]; exact hn k (by omega))
    refine ⟨h', wp_Flow_empty_2 ⟨fun hc => ?_, fun _ => ⟨zI_in (by omega) (by omega) (by omega), ?_⟩⟩, c1.tr a2, a3⟩
    · rw [h5, zI_le (by omega) (by omega) (by omega) (by omega)] at hc
      omega
    · rw [zI_cn (by omega), zl_1, zI_add]
      exact a1
theorem s_empty (S : FS h f J F room fi la c) : ∃ h', m_Flow_empty f h h' ∧ Ch (cD f) h h' ∧ FD h' f J F c (fun _ => room) (fun _ _ => 0) := by
  obtain ⟨h', a1, a2, a3⟩ := s_empty_2 F 0 h S (by omega) (fun k hk => by omega)
  exact ⟨h', wp_Flow_empty a1, a2, a3⟩
/-- the state of the units with one more put -/
theorem s_put (S : FS h f J F room fi la c) (D : FD h f J F lf sl u) {j k : Nat} (hj : j < J) (hk : k < F) (a : Int) : ∃ h', m_Flow_put f (zI j) (zI k) (zI a) h h' ∧ Ch (cD f) h h' ∧ FD h' f J F (up lf j (lf j - a)) (up sl k (sl k - a)) (put1 u j k a) := by
  have hJ := S.1
  have hF := S.2.1
  obtain ⟨d1, d2, d3⟩ := D
  have i1 : jm_in (zI (j : Int)) 24 := zI_in (by omega) (by omega) (by omega)
  have i2 : jm_in (zI (k : Int)) 24 := zI_in (by omega) (by omega) (by omega)
  refine ⟨_, wp_Flow_put ⟨i1, i2, i2, i1, i1, i2, i2, rfl⟩, ?_, ?_⟩
  · rw [zI_cn (by omega), zI_cn (by omega)]
    exact (Ch.sI (Or.inr (Or.inr ⟨rfl, by omega, by omega⟩))).tr ((Ch.sI (Or.inl ⟨rfl, rfl⟩)).tr (Ch.sI (Or.inr (Or.inl ⟨rfl, rfl⟩))))
  · rw [zI_cn (by omega), zI_cn (by omega)]
    refine ⟨fun j' hj' => ?_, fun k' hk' => ?_, fun j' k' hj' hk' => ?_⟩
    · rw [sI_ne (by omega)]
      by_cases e : j' = j
      · subst e
        rw [sI_eq, d1 j' hj', zI_sub, up_eq]
      · rw [sI_ne (by omega), sI_ne (by omega), d1 j' hj', up_ne e]
    · by_cases e : k' = k
      · subst e
        rw [sI_eq, d2 k' hk', zI_sub, up_eq]
      · rw [sI_ne (by omega), sI_ne (by omega), sI_ne (by omega), d2 k' hk', up_ne e]
    · rw [sI_ne (by omega), sI_ne (by omega)]
      by_cases e : j' = j ∧ k' = k
      · obtain ⟨rfl, rfl⟩ := e
        rw [sI_eq, d3 j' k' hj' hk', zI_add, put1_eq]
      · rw [sI_ne (by omega), d3 j' k' hj' hk', put1_ne e]
/-- a job that can have units in frame k -/
def elg (fi la lf : Nat → Int) (k j : Nat) : Prop := 0 < lf j ∧ fi j ≤ k ∧ (k : Int) ≤ la j
def lfB (J : Nat) (lf : Nat → Int) : Prop := ∀ j, j < J → 0 ≤ lf j ∧ lf j ≤ 60
theorem s_mostUrgent_4 (S : FS h f J F room fi la c) (D : FD h f J F lf sl u) (B : lfB J lf) {k : Nat} (hk : k < F) : ∀ (d n : Nat) (b : Int), n + d = J → ((b = -1 ∧ ∀ j, j < n → ¬ elg fi la lf k j) ∨ (0 ≤ b ∧ b < n ∧ elg fi la lf k b.toNat ∧ ∀ j, j < n → elg fi la lf k j → la b.toNat ≤ la j)) →
    ∃ b' : Int, ((b' = -1 ∧ ∀ j, j < J → ¬ elg fi la lf k j) ∨ (0 ≤ b' ∧ b' < J ∧ elg fi la lf k b'.toNat ∧ ∀ j, j < J → elg fi la lf k j → la b'.toNat ≤ la j)) ∧ l_Flow_mostUrgent_4 f (zI k) (zI b) (zI n) h (some (jm_i (zI b')), h) := by
  obtain ⟨s1, s2, s3, s4, s5, s6, s7, s8, s9⟩ := S
  intro d
  induction d with
  | zero =>
    intro n b e hb
    refine ⟨b, by rw [show J = n by omega]; exact hb, wp_Flow_mostUrgent_4 ⟨fun _ => rfl, fun hc => ?_⟩⟩
    rw [s6, zI_le (by omega) (by omega) (by omega) (by omega)] at hc
    omega
  | succ d ih =>
    intro n b e hb
    have hn : n < J := by omega
    have hi : jm_in (zI (n : Int)) 24 := zI_in (by omega) (by omega) (by omega)
    have b1 := B n hn
    have b2 := s7 n hn
    have b3 := s8 n hn
    -- skipped
    have skip : (¬ elg fi la lf k n ∨ (0 ≤ b ∧ la b.toNat ≤ la n)) → ∃ b' : Int, ((b' = -1 ∧ ∀ j, j < J → ¬ elg fi la lf k j) ∨ (0 ≤ b' ∧ b' < J ∧ elg fi la lf k b'.toNat ∧ ∀ j, j < J → elg fi la lf k j → la b'.toNat ≤ la j)) ∧ l_Flow_mostUrgent_4 f (zI k) (zI b) (zI (n + 1 : Nat)) h (some (jm_i (zI b')), h) := by
      intro hsk
      refine ih (n + 1) b (by omega) ?_
      rcases hb with ⟨q1, q2⟩ | ⟨q1, q2, q3, q4⟩
      · refine Or.inl ⟨q1, fun j hj => ?_⟩
        by_cases e2 : j = n
        · subst e2
          rcases hsk with x | x
          · exact x
          · omega
        · exact q2 j (by omega)
      · refine Or.inr ⟨q1, by omega, q3, fun j hj hel => ?_⟩
        by_cases e2 : j = n
        · subst e2
          rcases hsk with x | x
          · exact absurd hel x
          · exact x.2
        · exact q4 j (by omega) hel
    have take : elg fi la lf k n → (b < 0 ∨ la n < la b.toNat) → ∃ b' : Int, ((b' = -1 ∧ ∀ j, j < J → ¬ elg fi la lf k j) ∨ (0 ≤ b' ∧ b' < J ∧ elg fi la lf k b'.toNat ∧ ∀ j, j < J → elg fi la lf k j → la b'.toNat ≤ la j)) ∧ l_Flow_mostUrgent_4 f (zI k) (zI n) (zI (n + 1 : Nat)) h (some (jm_i (zI b')), h) := by
      intro hel hb2
      refine ih (n + 1) n (by omega) (Or.inr ⟨by omega, by omega, hel, fun j hj hej => ?_⟩)
      rw [Int.toNat_natCast]
      by_cases e2 : j = n
      · rw [e2]; exact Int.le_refl _
      · rcases hb with ⟨q1, q2⟩ | ⟨q1, q2, q3, q4⟩
        · exact absurd hej (q2 j (by omega))
        · have := q4 j (by omega) hej
          omega
    have hbb : -1 ≤ b ∧ b < 24 := by
      rcases hb with ⟨q1, q2⟩ | ⟨q1, q2, q3, q4⟩ <;> omega
    have e1 : h.1 18 f (zI (n : Int)).toNatClampNeg = zI (lf n) := by rw [zI_cn (by omega)]; exact D.1 n hn
    have e2 : h.1 16 f (zI (n : Int)).toNatClampNeg = zI (fi n) := by rw [zI_cn (by omega)]; exact b2.1
    have e3 : h.1 17 f (zI (n : Int)).toNatClampNeg = zI (la n) := by rw [zI_cn (by omega)]; exact b3.1
    have en : zI (n : Int) + 1 = zI ((n + 1 : Nat) : Int) := by rw [zl_1, zI_add]; rfl
    by_cases hel : elg fi la lf k n
    · by_cases hb2 : b < 0 ∨ la n < la b.toNat
      · obtain ⟨b', g1, g2⟩ := take hel hb2
        refine ⟨b', g1, wp_Flow_mostUrgent_4 ⟨fun hc => ?_, fun _ => ⟨hi, fun hc => ?_, fun _ => ⟨hi, fun hc => ?_, fun _ => ⟨hi, fun hc => ?_, fun _ => ⟨fun _ => ?_, fun hc => ⟨hi, ?_, fun hc2 => ?_, fun _ => ?_⟩⟩⟩⟩⟩⟩⟩
        · rw [s6, zI_le (by omega) (by omega) (by omega) (by omega)] at hc; omega
        · rw [e1, zl_0, zI_le (by omega) (by omega) (by omega) (by omega)] at hc; exact absurd hel.1 (by omega)
        · rw [e2, zI_lt (by omega) (by omega) (by omega) (by omega)] at hc; exact absurd hel.2.1 (by omega)
        · rw [e3, zI_lt (by omega) (by omega) (by omega) (by omega)] at hc; exact absurd hel.2.2 (by omega)
        · rw [en]; exact g2
        · rw [zl_0, zI_lt (by omega) (by omega) (by omega) (by omega)] at hc
          exact zI_in (by omega) (by omega) (by omega)
        · rw [zl_0, zI_lt (by omega) (by omega) (by omega) (by omega)] at hc
          rw [zI_nat (by omega) (by omega), (s8 b.toNat (by rcases hb with ⟨q1, q2⟩ | ⟨q1, q2, q3, q4⟩ <;> omega)).1, e3] at hc2
          have b4 := s8 b.toNat (by rcases hb with ⟨q1, q2⟩ | ⟨q1, q2, q3, q4⟩ <;> omega)
          rw [zI_le (by omega) (by omega) (by omega) (by omega)] at hc2
          omega
        · rw [en]; exact g2
      · obtain ⟨b', g1, g2⟩ := skip (Or.inr ⟨by omega, by omega⟩)
        have b4 := s8 b.toNat (by rcases hb with ⟨q1, q2⟩ | ⟨q1, q2, q3, q4⟩ <;> omega)
        refine ⟨b', g1, wp_Flow_mostUrgent_4 ⟨fun hc => ?_, fun _ => ⟨hi, fun hc => ?_, fun _ => ⟨hi, fun hc => ?_, fun _ => ⟨hi, fun hc => ?_, fun _ => ⟨fun hc => ?_, fun hc => ⟨hi, ?_, fun hc2 => ?_, fun hc2 => ?_⟩⟩⟩⟩⟩⟩⟩
        · rw [s6, zI_le (by omega) (by omega) (by omega) (by omega)] at hc; omega
        · rw [en]; exact g2
        · rw [en]; exact g2
        · rw [en]; exact g2
        · rw [zl_0, zI_lt (by omega) (by omega) (by omega) (by omega)] at hc; omega
        · exact zI_in (by omega) (by omega) (by omega)
        · rw [en]; exact g2
        · rw [zI_nat (by omega) (by omega), b4.1, e3, zI_le (by omega) (by omega) (by omega) (by omega)] at hc2; omega
    · obtain ⟨b', g1, g2⟩ := skip (Or.inl hel)
      refine ⟨b', g1, wp_Flow_mostUrgent_4 ⟨fun hc => ?_, fun _ => ⟨hi, fun _ => ?_, fun hc => ⟨hi, fun _ => ?_, fun hc2 => ⟨hi, fun _ => ?_, fun hc3 => ?_⟩⟩⟩⟩⟩
      · rw [s6, zI_le (by omega) (by omega) (by omega) (by omega)] at hc; omega
      · rw [en]; exact g2
      · rw [en]; exact g2
      · rw [en]; exact g2
      · rw [e1, zl_0, zI_le (by omega) (by omega) (by omega) (by omega)] at hc
        rw [e2, zI_lt (by omega) (by omega) (by omega) (by omega)] at hc2
        rw [e3, zI_lt (by omega) (by omega) (by omega) (by omega)] at hc3
        exact absurd ⟨by omega, by omega, by omega⟩ hel
theorem s_mostUrgent (S : FS h f J F room fi la c) (D : FD h f J F lf sl u) (B : lfB J lf) {k : Nat} (hk : k < F) : ∃ b' : Int, ((b' = -1 ∧ ∀ j, j < J → ¬ elg fi la lf k j) ∨ (0 ≤ b' ∧ b' < J ∧ elg fi la lf k b'.toNat ∧ ∀ j, j < J → elg fi la lf k j → la b'.toNat ≤ la j)) ∧ m_Flow_mostUrgent f (zI k) h (zI b') h := by
  obtain ⟨b', g1, g2⟩ := s_mostUrgent_4 S D B hk J 0 (-1) (by omega) (Or.inl ⟨rfl, fun j hj => by omega⟩)
  exact ⟨b', g1, wp_Flow_mostUrgent g2⟩
end SPR
