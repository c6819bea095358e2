/-! ===== the reference: are all in time ===== -/
def KV (h : jm_H) (c : CK) : Prop := h.1 56 0 3 = zI (k_wn c) ∧ ∀ i, i < k_wn c → h.1 56 0 (10 + i) = zI (k_ne c i) ∧ h.1 56 0 (19 + i) = zI (k_du c i)
theorem KM.kv {h : jm_H} {c : CK} (k : KM h 56 c) : KV h c := ⟨k.2.2.2.1, k.2.2.2.2.2.2.2.2.2.2⟩
theorem KV.chg {h h' : jm_H} {c : CK} (k : KV h c) (e : ∀ j, h'.1 56 0 j = h.1 56 0 j) : KV h' c := ⟨by rw [e]; exact k.1, fun i hi => by rw [e, e]; exact k.2 i hi⟩
theorem e_10 (n : Nat) : (10 : Int32) + zI (n : Int) = zI ((10 + n : Nat) : Int) := by
  rw [zl_10, zI_add]; congr 1
theorem e_19 (n : Nat) : (19 : Int32) + zI (n : Int) = zI ((19 + n : Nat) : Int) := by
  rw [zl_19, zI_add]; congr 1
theorem e_p1 (n : Nat) : zI (n : Int) + 1 = zI ((n + 1 : Nat) : Int) := by
  rw [zl_1, zI_add]; congr 1
theorem e_m1 (n : Nat) : zI ((n + 1 : Nat) : Int) - 1 = zI (n : Int) := by
  rw [zl_1, zI_sub]; congr 1; omega
theorem e_a1 (n : Nat) : zI ((n + 1 : Nat) : Int) + (-1) = zI (n : Int) := by
  rw [zl_m1, zI_add]; congr 1; omega
def Qt (D : Nat → MD) (c : CK) (less : Int) (i : Nat) : Prop := ∃ n, n ≤ 1000 ∧ aTi D c n ≤ k_du c i ∧ sm (i + 1) (k_ne c) + less ≤ sm n (aSl D c)
section INTIME
variable {nm : Nat} {D : Nat → MD} {c : CK} {less : Int}
theorem Qt_at (S : swOk nm D c) (Z : tId nm D) {n i : Nat} (hn : n ≤ 1000) (h1 : aTi D c n ≤ k_du c i) (h2 : k_du c i < aTi D c (n + 1)) : Qt D c less i ↔ sm (i + 1) (k_ne c) + less ≤ sm n (aSl D c) := by
  constructor
  · rintro ⟨k, k1, k2, k3⟩
    have : k ≤ n := by
      apply Decidable.byContradiction
      intro hx
      have := ti_mono S k (show n + 1 ≤ k by omega) (by omega)
      omega
    have := cs_mono S Z this (by omega)
    omega
  · intro hx
    exact ⟨n, hn, h1, hx⟩
theorem s_ait_17 (S : swOk nm D c) (Z : tId nm D) (w : wOk c) (l0 : 0 ≤ less) (l1 : less ≤ 100) {i : Nat} (hi : i < k_wn c) {x3 : Int32} : ∀ (e n : Nat) (h : jm_H), n + e = 101 → aTi D c n ≤ k_du c i → CM h D c n → CB h nm D c → KV h c → ∃ n' h', n' ≤ 100 ∧ aTi D c n' ≤ k_du c i ∧ k_du c i < aTi D c (n' + 1) ∧ CM h' D c n' ∧ Ch c44 h h' ∧ ∀ r, l_M_areInTime_17 (zI (sm n' (aSl D c) - less)) x3 (zI i) h' r → l_M_areInTime_17 (zI (sm n (aSl D c) - less)) x3 (zI i) h r := by
  have hw := w.2.1 i hi
  have w1 := w.1
  have hnow := S.2.2.2.2.2.1
  intro e
  induction e with
  | zero =>
    intro n h en hT C b k
    have := ti_b S n (by omega)
    omega
  | succ e ih =>
    intro n h en hT C b k
    have t1 := ti_b S (n + 1) (by omega)
    by_cases hc : k_du c i < aTi D c (n + 1)
    · exact ⟨n, h, by omega, hT, hc, C, Ch.rf h, fun r hr => hr⟩
    · obtain ⟨h1, g1, g2, g3⟩ := s_goesOn S b (show n ≤ 999 by omega) C
      obtain ⟨n', h', a1, a2, a3, a4, a5, a6⟩ := ih (n + 1) h1 (by omega) (by omega) g2 (b.ch S (fun K j hK => g3.at (by unfold c44; omega))) (k.chg (fun j => g3.at (by unfold c44; omega)))
      refine ⟨n', h', a1, a2, a3, a4, g3.tr a5, fun r hr => ?_⟩
      have r1 := a6 r hr
      rw [sm_s] at r1
      have e19 := e_19 i
      refine wp_M_areInTime_17 ⟨_, h, s_seenEnd S b (by omega) C, ?_, fun hx => ?_, fun _ => ⟨_, h, s_seenSlack S b (by omega) C, h1, g1, ?_⟩⟩
      · rw [e19]; exact zI_in (by omega) (by omega) (by omega)
      · rw [e19, zI_cn (by omega), (k.2 i hi).2, zI_lt (by omega) (by omega) (by omega) (by omega)] at hx; omega
      · rw [zI_add, show sm n (aSl D c) - less + aSl D c n = sm n (aSl D c) + aSl D c n - less by omega]; exact r1
theorem s_ait_9 (S : swOk nm D c) (Z : tId nm D) (w : wOk c) (l0 : 0 ≤ less) (l1 : less ≤ 100) : ∀ (e i n : Nat) (h : jm_H), i + e = k_wn c → n ≤ 100 → (i < k_wn c → aTi D c n ≤ k_du c i) → CM h D c n → CB h nm D c → KV h c → ∃ b h', (b = 0 ∨ b = 1) ∧ (b = 1 ↔ ∀ j, i ≤ j → j < k_wn c → Qt D c less j) ∧ l_M_areInTime_9 (zI (sm n (aSl D c) - less)) (zI (sm i (k_ne c))) 1 (zI i) h (some (jm_i (zI b)), h') ∧ Ch c44 h h' := by
  have w1 := w.1
  have hnow := S.2.2.2.2.2.1
  intro e
  induction e with
  | zero =>
    intro i n h ei hn hT C b k
    refine ⟨1, h, Or.inr rfl, ⟨fun _ j h1 h2 => by omega, fun _ => rfl⟩, wp_M_areInTime_9 ⟨fun _ => ⟨rfl, rfl⟩, fun hc => ?_⟩, Ch.rf h⟩
    rw [k.1, zI_le (by omega) (by omega) (by omega) (by omega)] at hc; omega
  | succ e ih =>
    intro i n h ei hn hT C b k
    have hi : i < k_wn c := by omega
    have hw := w.2.1 i hi
    obtain ⟨n', h1, a1, a2, a3, a4, a5, a6⟩ := s_ait_17 S Z w l0 l1 hi (x3 := zI (sm i (k_ne c))) (101 - n) n h (by omega) (hT hi) C b k
    have b1 := b.ch S (fun K j hK => a5.at (by unfold c44; omega))
    have k1 := k.chg (fun j => a5.at (by unfold c44; omega))
    have hQ := Qt_at (less := less) S Z (show n' ≤ 1000 by omega) a2 a3
    have cb := cs_b S Z n' (by omega)
    have nb := ne_b w (i + 1) (by omega)
    have en2 : sm (i + 1) (k_ne c) = sm i (k_ne c) + k_ne c i := rfl
    have t1 := ti_b S (n' + 1) (by omega)
    -- on with the next one
    obtain ⟨b2, h2, c1, c2, c3, c4⟩ := ih (i + 1) n' h1 (by omega) a1 (fun hx => by have := w.2.2 i hx; omega) a4 b1 k1
    -- head of the loop
    have head : ∀ r, l_M_areInTime_17 (zI (sm n' (aSl D c) - less)) (zI (sm i (k_ne c))) (zI i) h1 r → l_M_areInTime_9 (zI (sm n (aSl D c) - less)) (zI (sm i (k_ne c))) 1 (zI i) h r := fun r hr =>
      wp_M_areInTime_9 ⟨fun hc => by rw [k.1, zI_le (by omega) (by omega) (by omega) (by omega)] at hc; omega, fun _ => ⟨fun hc => absurd hc (by decide), fun _ => a6 r hr⟩⟩
    have e10 := e_10 i
    have e19 := e_19 i
    have i19 : jm_in ((19 : Int32) + zI (i : Int)) 28 := by rw [e19]; exact zI_in (by omega) (by omega) (by omega)
    have i10 : jm_in ((10 : Int32) + zI (i : Int)) 28 := by rw [e10]; exact zI_in (by omega) (by omega) (by omega)
    have sE := s_seenEnd S b1 (show n' ≤ 1000 by omega) a4
    have add1 : zI (sm i (k_ne c)) + (h1.1 56 0 ((10 : Int32) + zI (i : Int)).toNatClampNeg) = zI (sm (i + 1) (k_ne c)) := by
      rw [e10, zI_cn (by omega), (k1.2 i hi).1, zI_add, en2]
    have dS : h1.1 56 0 ((19 : Int32) + zI (i : Int)).toNatClampNeg = zI (k_du c i) := by
      rw [e19, zI_cn (by omega)]; exact (k1.2 i hi).2
    have low : (h1.1 56 0 ((19 : Int32) + zI (i : Int)).toNatClampNeg) < zI (aTi D c (n' + 1)) := by
      rw [dS, zI_lt (by omega) (by omega) (by omega) (by omega)]; exact a3
    -- a test that fails
    have bad : ∀ r, r = (some (jm_i (zI 0)), h1) → l_M_areInTime_9 (zI (sm n' (aSl D c) - less)) (zI (sm (i + 1) (k_ne c))) 0 (zI i + 1) h1 r := fun r hr => wp_M_areInTime_9 ⟨fun _ => ⟨rfl, hr⟩, fun _ => ⟨fun _ => ⟨rfl, hr⟩, fun hc => absurd rfl hc⟩⟩
    rw [← e_p1] at c3
    -- is it the last of its due
    by_cases hL : i + 1 = k_wn c ∨ k_du c i < k_du c (i + 1)
    · by_cases hq : sm (i + 1) (k_ne c) + less ≤ sm n' (aSl D c)
      · have tst : ¬ (zI (sm n' (aSl D c) - less) < zI (sm i (k_ne c)) + (h1.1 56 0 ((10 : Int32) + zI (i : Int)).toNatClampNeg)) := by rw [add1, zI_lt (by omega) (by omega) (by omega) (by omega)]; omega
        refine ⟨b2, h2, c1, ?_, head _ (wp_M_areInTime_17 ⟨_, h1, sE, i19, fun _ => ⟨i10, fun hx => ⟨fun hc => absurd hc tst, fun _ => by rw [add1]; exact c3⟩, fun hx => ?_⟩, fun hx => absurd low hx⟩), a5.tr c4⟩
        · rw [c2]
          constructor
          · intro g j h1 h2
            by_cases ej : j = i
            · subst ej; exact hQ.mpr hq
            · exact g j (by omega) h2
          · intro g j h1 h2
            exact g j (by omega) h2
        · have h9 : i + 1 < k_wn c := by
            rw [k1.1, zl_1, zI_sub, zI_eq (by omega) (by omega) (by omega) (by omega)] at hx; omega
          have e191 : ((19 : Int32) + zI (i : Int)) + 1 = zI ((19 + (i + 1) : Nat) : Int) := by rw [e19, e_p1]; rfl
          refine ⟨by rw [e191]; exact zI_in (by omega) (by omega) (by omega), i19, fun hc => by rw [add1]; exact c3, fun _ => ⟨fun hc => absurd hc tst, fun _ => by rw [add1]; exact c3⟩⟩
      · have tst : zI (sm n' (aSl D c) - less) < zI (sm i (k_ne c)) + (h1.1 56 0 ((10 : Int32) + zI (i : Int)).toNatClampNeg) := by rw [add1, zI_lt (by omega) (by omega) (by omega) (by omega)]; omega
        refine ⟨0, h1, Or.inl rfl, ⟨fun x => by omega, fun g => absurd (hQ.mp (g i (Nat.le_refl _) hi)) hq⟩, head _ (wp_M_areInTime_17 ⟨_, h1, sE, i19, fun _ => ⟨i10, fun hx => ⟨fun _ => by rw [add1]; exact bad _ rfl, fun hc => absurd tst hc⟩, fun hx => ?_⟩, fun hx => absurd low hx⟩), a5⟩
        have h9 : i + 1 < k_wn c := by
          rw [k1.1, zl_1, zI_sub, zI_eq (by omega) (by omega) (by omega) (by omega)] at hx; omega
        have hw2 := w.2.1 (i + 1) h9
        have e191 : ((19 : Int32) + zI (i : Int)) + 1 = zI ((19 + (i + 1) : Nat) : Int) := by rw [e19, e_p1]; rfl
        refine ⟨by rw [e191]; exact zI_in (by omega) (by omega) (by omega), i19, fun hc => ?_, fun _ => ⟨fun _ => by rw [add1]; exact bad _ rfl, fun hc => absurd tst hc⟩⟩
        rw [dS, e191, zI_cn (by omega), (k1.2 (i + 1) h9).2, zI_le (by omega) (by omega) (by omega) (by omega)] at hc
        omega
    · have h9 : i + 1 < k_wn c := by omega
      have hw2 := w.2.1 (i + 1) h9
      have hs := w.2.2 i h9
      have e191 : ((19 : Int32) + zI (i : Int)) + 1 = zI ((19 + (i + 1) : Nat) : Int) := by rw [e19, e_p1]; rfl
      refine ⟨b2, h2, c1, ?_, head _ (wp_M_areInTime_17 ⟨_, h1, sE, i19, fun _ => ⟨i10, fun hx => ?_, fun hx => ⟨by rw [e191]; exact zI_in (by omega) (by omega) (by omega), i19, fun _ => by rw [add1]; exact c3, fun hc => ?_⟩⟩, fun hx => absurd low hx⟩), a5.tr c4⟩
      · rw [c2]
        constructor
        · intro g j h1 h2
          by_cases ej : j = i
          · subst ej
            obtain ⟨q, q1, q2, q3⟩ := g (j + 1) (by omega) h9
            refine ⟨q, q1, by omega, ?_⟩
            rw [sm_s] at q3
            omega
          · exact g j (by omega) h2
        · intro g j h1 h2
          exact g j (by omega) h2
      · rw [k1.1, zl_1, zI_sub, zI_eq (by omega) (by omega) (by omega) (by omega)] at hx; omega
      · rw [dS, e191, zI_cn (by omega), (k1.2 (i + 1) h9).2, zI_le (by omega) (by omega) (by omega) (by omega)] at hc
        omega
theorem s_areInTime {h : jm_H} (S : swOk nm D c) (Z : tId nm D) (w : wOk c) (l0 : 0 ≤ less) (l1 : less ≤ 100) (C : CM h D c 0) (b : CB h nm D c) (k : KV h c) : ∃ v h', (v = 0 ∨ v = 1) ∧ (v = 1 ↔ InT D c less) ∧ m_M_areInTime (zI less) h (zI v) h' ∧ Ch c44 h h' := by
  have t0 := ti_b S 0 (by omega)
  obtain ⟨v, h', a1, a2, a3, a4⟩ := s_ait_9 (less := less) S Z w l0 l1 (k_wn c) 0 0 h (by omega) (by omega) (fun hx => by have := w.2.1 0 hx; omega) C b k
  refine ⟨v, h', a1, ?_, wp_M_areInTime ?_, a4⟩
  · rw [a2]
    exact ⟨fun g i hi => g i (by omega) hi, fun g j _ hj => g j hj⟩
  · rw [zI_neg]
    rw [sm_0, sm_0, Int.zero_sub] at a3
    exact a3
/-! ===== lists of those waiting, in the reference ===== -/
/-- cells of those waiting -/
def cW : Nat → Nat → Nat → Prop := fun K _ j => K = 56 ∧ (j = 3 ∨ 10 ≤ j)
def cWl : Nat → Nat → Nat → Prop := fun K _ j => K = 56 ∧ 10 ≤ j
theorem s_puts_5 (w9 : k_wn c ≤ 8) (wd : ∀ i, i < k_wn c → -2147483648 ≤ k_du c i ∧ k_du c i ≤ 2147483647) (so : ∀ i, i + 1 < k_wn c → k_du c i ≤ k_du c (i + 1)) {X due : Int} (d1 : -2147483648 ≤ due) (d2 : due ≤ 2147483647) : ∀ (n : Nat) (h : jm_H), n ≤ k_wn c → h.1 56 0 3 = zI (k_wn c) → (∀ i, i < n → h.1 56 0 (10 + i) = zI (k_ne c i) ∧ h.1 56 0 (19 + i) = zI (k_du c i)) → (∀ i, n < i → i ≤ k_wn c → h.1 56 0 (10 + i) = zI (k_ne c (i - 1)) ∧ h.1 56 0 (19 + i) = zI (k_du c (i - 1))) → (∀ i, n ≤ i → i < k_wn c → due < k_du c i) → ∃ p h', isPl c due p ∧ l_M_puts_5 (zI X) (zI due) (zI n) h (some (jm_i (zI p)), h') ∧ KV h' (putW c p X due) ∧ Ch cW h h' := by
  -- the end
  have fin : ∀ (n : Nat) (h : jm_H), n ≤ k_wn c → h.1 56 0 3 = zI (k_wn c) → (∀ i, i < n → h.1 56 0 (10 + i) = zI (k_ne c i) ∧ h.1 56 0 (19 + i) = zI (k_du c i)) → (∀ i, n < i → i ≤ k_wn c → h.1 56 0 (10 + i) = zI (k_ne c (i - 1)) ∧ h.1 56 0 (19 + i) = zI (k_du c (i - 1))) → ∃ h', (jm_in ((10 : Int32) + zI (n : Int)) 28 ∧ jm_in ((19 : Int32) + zI (n : Int)) 28 ∧ ((some (jm_i (zI (n : Int))), h') : jm_Rs) = (some (jm_i (zI (n : Int))), (jm_sI (jm_sI (jm_sI h 56 0 (((10 : Int32) + zI (n : Int)).toNatClampNeg) (zI X)) 56 0 (((19 : Int32) + zI (n : Int)).toNatClampNeg) (zI due)) 56 0 3 (((jm_sI (jm_sI h 56 0 (((10 : Int32) + zI (n : Int)).toNatClampNeg) (zI X)) 56 0 (((19 : Int32) + zI (n : Int)).toNatClampNeg) (zI due)).1 56 0 3) + 1)))) ∧ KV h' (putW c n X due) ∧ Ch cW h h' := by
    intro n h hn h3 Z1 Z2
    rw [e_10, e_19, zI_cn (by omega), zI_cn (by omega)]
    refine ⟨_, ⟨zI_in (by omega) (by omega) (by omega), zI_in (by omega) (by omega) (by omega), rfl⟩, ⟨?_, fun i hi => ?_⟩, ((Ch.sI (by unfold cW; omega)).tr (Ch.sI (by unfold cW; omega))).tr (Ch.sI (by unfold cW; omega))⟩
    · rw [sI_eq, sI_ne (by omega), sI_ne (by omega), h3, e_p1]; rfl
    · have hi' : i < k_wn c + 1 := hi
      show _ = zI (ins (k_ne c) n X i) ∧ _ = zI (ins (k_du c) n due i)
      unfold ins
      by_cases h1 : i < n
      · rw [if_pos h1, if_pos h1, sI_ne (by omega), sI_ne (by omega), sI_ne (by omega), sI_ne (by omega), sI_ne (by omega), sI_ne (by omega)]
        exact Z1 i h1
      · by_cases h2 : i = n
        · subst h2
          rw [if_neg h1, if_neg h1, if_pos rfl, if_pos rfl, sI_ne (by omega), sI_ne (by omega), sI_eq, sI_ne (by omega), sI_eq]
          exact ⟨rfl, rfl⟩
        · rw [if_neg h1, if_neg h1, if_neg h2, if_neg h2, sI_ne (by omega), sI_ne (by omega), sI_ne (by omega), sI_ne (by omega), sI_ne (by omega), sI_ne (by omega)]
          exact Z2 i (by omega) (by omega)
  intro n
  induction n with
  | zero =>
    intro h hn h3 Z1 Z2 Z3
    obtain ⟨h', a1, a2, a3⟩ := fin 0 h hn h3 Z1 Z2
    exact ⟨0, h', ⟨by omega, fun i hi => by omega, Z3⟩, wp_M_puts_5 ⟨fun _ => a1, fun hc => absurd (by decide) hc⟩, a2, a3⟩
  | succ n ih =>
    intro h hn h3 Z1 Z2 Z3
    have hd := wd n (by omega)
    have z1 := Z1 n (by omega)
    have e1 : ((19 : Int32) + zI ((n + 1 : Nat) : Int)) - 1 = zI ((19 + n : Nat) : Int) := by rw [e_19]; exact e_m1 (19 + n)
    have e2 : ((10 : Int32) + zI ((n + 1 : Nat) : Int)) - 1 = zI ((10 + n : Nat) : Int) := by rw [e_10]; exact e_m1 (10 + n)
    have pos : ¬ (zI ((n + 1 : Nat) : Int) ≤ 0) := by rw [zl_0, zI_le (by omega) (by omega) (by omega) (by omega)]; omega
    by_cases hc : k_du c n ≤ due
    · obtain ⟨h', a1, a2, a3⟩ := fin (n + 1) h hn h3 Z1 Z2
      refine ⟨n + 1, h', ⟨hn, fun i hi => ?_, Z3⟩, wp_M_puts_5 ⟨fun hx => absurd hx pos, fun _ => ⟨by rw [e1]; exact zI_in (by omega) (by omega) (by omega), fun _ => a1, fun hx => ?_⟩⟩, a2, a3⟩
      · have key : ∀ j : Nat, n - j < n + 1 → k_du c (n - j) ≤ k_du c n := by
          intro j
          induction j with
          | zero => intro _; exact Int.le_refl _
          | succ j ihj =>
            intro _
            have h1 := ihj (by omega)
            by_cases e : n ≤ j
            · rw [show n - (j + 1) = n - j by omega]; exact h1
            · have := so (n - (j + 1)) (by omega)
              rw [show n - (j + 1) + 1 = n - j by omega] at this
              omega
        have := key (n - i) (by omega)
        rw [show n - (n - i) = i by omega] at this
        omega
      · rw [e1, zI_cn (by omega), z1.2, zI_le (by omega) (by omega) (by omega) (by omega)] at hx; omega
    · obtain ⟨g, eg⟩ : ∃ g, g = jm_sI (jm_sI h 56 0 (10 + (n + 1)) (zI (k_ne c n))) 56 0 (19 + (n + 1)) (zI (k_du c n)) := ⟨_, rfl⟩
      have cg : Ch cW h g := by
        rw [eg]
        exact (Ch.sI (by unfold cW; omega)).tr (Ch.sI (by unfold cW; omega))
      obtain ⟨p, h', a1, a2, a3, a4⟩ := ih g (by omega) (by rw [eg, sI_ne (by omega), sI_ne (by omega)]; exact h3) (fun i hi => by
          rw [eg, sI_ne (by omega), sI_ne (by omega), sI_ne (by omega), sI_ne (by omega)]; exact Z1 i (by omega)) (fun i h1 h2 => by
          by_cases e : i = n + 1
          · subst e
            rw [eg, sI_ne (by omega), sI_eq, sI_eq, show n + 1 - 1 = n by omega]; exact ⟨rfl, rfl⟩
          · rw [eg, sI_ne (by omega), sI_ne (by omega), sI_ne (by omega), sI_ne (by omega)]; exact Z2 i (by omega) h2) (fun i h1 h2 => by
          by_cases e : i = n
          · subst e; omega
          · exact Z3 i (by omega) h2)
      refine ⟨p, h', a1, wp_M_puts_5 ⟨fun hx => absurd hx pos, fun _ => ⟨by rw [e1]; exact zI_in (by omega) (by omega) (by omega), fun hx => ?_, fun _ => ⟨by rw [e2]; exact zI_in (by omega) (by omega) (by omega), by rw [e_10]; exact zI_in (by omega) (by omega) (by omega), by rw [e1]; exact zI_in (by omega) (by omega) (by omega), by rw [e_19]; exact zI_in (by omega) (by omega) (by omega), ?_⟩⟩⟩, a3, cg.tr a4⟩
      · rw [e1, zI_cn (by omega), z1.2, zI_le (by omega) (by omega) (by omega) (by omega)] at hx; omega
      · rw [e1, e2, e_10, e_19, zI_cn (by omega), zI_cn (by omega), zI_cn (by omega), zI_cn (by omega), sI_ne (by omega), z1.1, z1.2, e_a1, ← eg]; exact a2
theorem s_puts {h : jm_H} (w9 : k_wn c ≤ 8) (wd : ∀ i, i < k_wn c → -2147483648 ≤ k_du c i ∧ k_du c i ≤ 2147483647) (so : ∀ i, i + 1 < k_wn c → k_du c i ≤ k_du c (i + 1)) {X due : Int} (d1 : -2147483648 ≤ due) (d2 : due ≤ 2147483647) (k : KV h c) : ∃ p h', isPl c due p ∧ m_M_puts (zI X) (zI due) h (zI p) h' ∧ KV h' (putW c p X due) ∧ Ch cW h h' := by
  obtain ⟨p, h', a1, a2, a3, a4⟩ := s_puts_5 (c := c) (X := X) w9 wd so d1 d2 (k_wn c) h (Nat.le_refl _) k.1 (fun i hi => k.2 i hi) (fun i h1 h2 => by omega) (fun i h1 h2 => by omega)
  exact ⟨p, h', a1, wp_M_puts (by rw [k.1]; exact a2), a3, a4⟩
theorem isPl.uq {due : Int} {p q : Nat} (a : isPl c due p) (b : isPl c due q) : p = q := by
  apply Decidable.byContradiction
  intro hne
  by_cases hl : p < q
  · have h1 := b.2.1 p hl
    have h2 := a.2.2 p (Nat.le_refl _) (by have := b.1; omega)
    omega
  · have h1 := a.2.1 q (by omega)
    have h2 := b.2.2 q (Nat.le_refl _) (by have := a.1; omega)
    omega
theorem s_tko_4 {f g : Nat → Int} {W p : Nat} (hW : W ≤ 9) : ∀ (e n : Nat) (h : jm_H), n + e = W → p + 1 ≤ n → h.1 56 0 3 = zI W → (∀ i, i + 1 < n → h.1 56 0 (10 + i) = zI (if i < p then f i else f (i + 1)) ∧ h.1 56 0 (19 + i) = zI (if i < p then g i else g (i + 1))) → (∀ i, n ≤ i → i < W → h.1 56 0 (10 + i) = zI (f i) ∧ h.1 56 0 (19 + i) = zI (g i)) → ∃ h', l_M_takesOut_4 (zI n) h (none, h') ∧ h'.1 56 0 3 = zI ((W : Int) - 1) ∧ (∀ i, i + 1 < W → h'.1 56 0 (10 + i) = zI (if i < p then f i else f (i + 1)) ∧ h'.1 56 0 (19 + i) = zI (if i < p then g i else g (i + 1))) ∧ Ch cW h h' := by
  intro e
  induction e with
  | zero =>
    intro n h en hp h3 Z1 Z2
    refine ⟨jm_sI h 56 0 3 (zI ((W : Int) - 1)), wp_M_takesOut_4 ⟨fun _ => ?_, fun hc => ?_⟩, sI_eq, fun i hi => ?_, Ch.sI (by unfold cW; omega)⟩
    · rw [h3, zl_1, zI_sub]
    · rw [h3, zI_le (by omega) (by omega) (by omega) (by omega)] at hc; omega
    · rw [sI_ne (by omega), sI_ne (by omega)]; exact Z1 i (by omega)
  | succ e ih =>
    intro n h en hp h3 Z1 Z2
    obtain ⟨n, rfl⟩ : ∃ k, n = k + 1 := ⟨n - 1, by omega⟩
    have z2 := Z2 (n + 1) (Nat.le_refl _) (by omega)
    have e1 : ((19 : Int32) + zI ((n + 1 : Nat) : Int)) - 1 = zI ((19 + n : Nat) : Int) := by rw [e_19]; exact e_m1 (19 + n)
    have e2 : ((10 : Int32) + zI ((n + 1 : Nat) : Int)) - 1 = zI ((10 + n : Nat) : Int) := by rw [e_10]; exact e_m1 (10 + n)
    obtain ⟨q, eq⟩ : ∃ q, q = jm_sI (jm_sI h 56 0 (10 + n) (zI (f (n + 1)))) 56 0 (19 + n) (zI (g (n + 1))) := ⟨_, rfl⟩
    have cq : Ch cW h q := by
      rw [eq]
      exact (Ch.sI (by unfold cW; omega)).tr (Ch.sI (by unfold cW; omega))
    obtain ⟨h', a1, a2, a3, a4⟩ := ih (n + 1 + 1) q (by omega) (by omega) (by rw [eq, sI_ne (by omega), sI_ne (by omega)]; exact h3) (fun i hi => by
        by_cases ei : i = n
        · subst ei
          rw [eq, if_neg (by omega), if_neg (by omega), sI_ne (by omega), sI_eq, sI_eq]; exact ⟨rfl, rfl⟩
        · rw [eq, sI_ne (by omega), sI_ne (by omega), sI_ne (by omega), sI_ne (by omega)]; exact Z1 i (by omega)) (fun i h1 h2 => by
        rw [eq, sI_ne (by omega), sI_ne (by omega), sI_ne (by omega), sI_ne (by omega)]; exact Z2 i (by omega) h2)
    refine ⟨h', wp_M_takesOut_4 ⟨fun hc => ?_, fun _ => ⟨by rw [e_10]; exact zI_in (by omega) (by omega) (by omega), by rw [e2]; exact zI_in (by omega) (by omega) (by omega), by rw [e_19]; exact zI_in (by omega) (by omega) (by omega), by rw [e1]; exact zI_in (by omega) (by omega) (by omega), ?_⟩⟩, a2, a3, cq.tr a4⟩
    · rw [h3, zI_le (by omega) (by omega) (by omega) (by omega)] at hc; omega
    · rw [e1, e2, e_10, e_19, zI_cn (by omega), zI_cn (by omega), zI_cn (by omega), zI_cn (by omega), sI_ne (by omega), z2.1, z2.2, e_p1, ← eq]; exact a1
theorem s_takesOut {f g : Nat → Int} {W p : Nat} {h : jm_H} (hW : W ≤ 9) (hp : p < W) (h3 : h.1 56 0 3 = zI W) (Z : ∀ i, i < W → h.1 56 0 (10 + i) = zI (f i) ∧ h.1 56 0 (19 + i) = zI (g i)) : ∃ h', m_M_takesOut (zI p) h h' ∧ h'.1 56 0 3 = zI ((W : Int) - 1) ∧ (∀ i, i + 1 < W → h'.1 56 0 (10 + i) = zI (if i < p then f i else f (i + 1)) ∧ h'.1 56 0 (19 + i) = zI (if i < p then g i else g (i + 1))) ∧ Ch cW h h' := by
  obtain ⟨h', a1, a2, a3, a4⟩ := s_tko_4 (f := f) (g := g) (p := p) hW (W - (p + 1)) (p + 1) h (by omega) (Nat.le_refl _) h3 (fun i hi => by
      rw [if_pos (by omega), if_pos (by omega)]; exact Z i (by omega)) (fun i h1 h2 => Z i h2)
  exact ⟨h', wp_M_takesOut (by rw [e_p1]; exact a1), a2, a3, a4⟩
theorem putW_w (w : wOk c) (w8 : k_wn c ≤ 8) {X due : Int} {p : Nat} (p1 : isPl c due p) (x1 : 1 ≤ X) (x2 : X ≤ 400) (d1 : k_now c < due) (d2 : due ≤ k_now c + 400) : wOk (putW c p X due) := by
  refine ⟨by show k_wn c + 1 ≤ 9; omega, fun i hi => ?_, fun i hi => ?_⟩
  · have hi' : i < k_wn c + 1 := hi
    show 1 ≤ ins (k_ne c) p X i ∧ ins (k_ne c) p X i ≤ 400 ∧ k_now c < ins (k_du c) p due i ∧ ins (k_du c) p due i ≤ k_now c + 400
    unfold ins
    by_cases e1 : i < p
    · rw [if_pos e1, if_pos e1]; exact w.2.1 i (by have := p1.1; omega)
    · by_cases e2 : i = p
      · rw [if_neg e1, if_neg e1, if_pos e2, if_pos e2]; omega
      · rw [if_neg e1, if_neg e1, if_neg e2, if_neg e2]; exact w.2.1 (i - 1) (by omega)
  · have hi' : i + 1 < k_wn c + 1 := hi
    show ins (k_du c) p due i ≤ ins (k_du c) p due (i + 1)
    unfold ins
    by_cases e1 : i + 1 < p
    · rw [if_pos (by omega), if_pos e1]; exact w.2.2 i (by have := p1.1; omega)
    · by_cases e2 : i + 1 = p
      · rw [if_pos (by omega), if_neg e1, if_pos e2]; exact p1.2.1 i (by omega)
      · rw [if_neg e1, if_neg e2]
        by_cases e3 : i = p
        · rw [if_neg (by omega), if_pos e3, show i + 1 - 1 = i by omega]
          have := p1.2.2 i (by omega) (by omega)
          omega
        · rw [if_neg (by omega), if_neg e3]
          have := w.2.2 (i - 1) (by omega)
          rw [show i - 1 + 1 = i by omega] at this
          rw [show i + 1 - 1 = i by omega]; exact this
theorem s_looksAhead {h : jm_H} (S : swOk nm D c) (k : KM h 56 c) : ∃ h', m_M_looksAhead h h' ∧ CM h' D c 0 ∧ Ch c44 h h' := by
  obtain ⟨h', l1, l2, l3⟩ := s_looks (c := c) (h := h) S k.1 k.2.1 k.2.2.1
  exact ⟨h', wp_M_looksAhead ⟨h', by rw [k.2.2.2.2.2.2.2.1, k.2.2.2.2.2.2.2.2.1]; exact l1, rfl⟩, l2, l3⟩
/-- one more can be taken -/
theorem s_canBeTaken {h : jm_H} (S : swOk nm D c) (Z : tId nm D) (w : wOk c) (w8 : k_wn c ≤ 8) (I : InT D c 0) (b : CB h nm D c) (k : KM h 56 c) {X due : Int} (x1 : 1 ≤ X) (x2 : X ≤ 400) (d1 : k_now c < due) (d2 : due ≤ k_now c + 400) : ∃ v h', (v = 0 ∨ v = 1) ∧ (v = 1 ↔ X ≤ lfo D c due) ∧ m_M_canBeTaken (zI X) (zI due) h (zI v) h' ∧ KM h' 56 c ∧ CB h' nm D c ∧ Ch (fun K i j => c44 K i j ∨ cW K i j) h h' := by
  have hnow := S.2.2.2.2.2.1
  obtain ⟨p, h1, p1, p2, p3, p4⟩ := s_puts (c := c) (X := X) (due := due) w8 (fun i hi => by have := w.2.1 i hi; omega) w.2.2 (by omega) (by omega) k.kv
  have S' : swOk nm D (putW c p X due) := S
  have w' : wOk (putW c p X due) := putW_w w w8 p1 x1 x2 d1 d2
  have b1 : CB h1 nm D c := b.ch S (fun K j hK => p4.at (by unfold cW; omega))
  have q0 : ∀ j, j < 10 → j ≠ 3 → h1.1 56 0 j = h.1 56 0 j := fun j h1 h2 => p4.at (by unfold cW; omega)
  obtain ⟨h2, l1, l2, l3⟩ := s_looks (c := c) (h := h1) S (by rw [q0 0 (by omega) (by omega)]; exact k.1) (by rw [q0 1 (by omega) (by omega)]; exact k.2.1) (by rw [q0 2 (by omega) (by omega)]; exact k.2.2.1)
  have lA : m_M_looksAhead h1 h2 := wp_M_looksAhead ⟨h2, by rw [q0 7 (by omega) (by omega), q0 8 (by omega) (by omega), k.2.2.2.2.2.2.2.1, k.2.2.2.2.2.2.2.2.1]; exact l1, rfl⟩
  have b2 : CB h2 nm D (putW c p X due) := b1.ch S (fun K j hK => l3.at (by unfold c44; omega))
  obtain ⟨v, h3, a1, a2, a3, a4⟩ := s_areInTime (c := putW c p X due) (less := 0) S' Z w' (by omega) (by omega) l2 b2 (p3.chg (fun j => l3.at (by unfold c44; omega)))
  have p3' := (p3.chg (fun j => l3.at (by unfold c44; omega))).chg (fun j => a4.at (by unfold c44; omega))
  obtain ⟨h4, t1, t2, t3, t4⟩ := s_takesOut (f := ins (k_ne c) p X) (g := ins (k_du c) p due) (W := k_wn c + 1) (p := p) (h := h3) (by omega) (by have := p1.1; omega) p3'.1 p3'.2
  have e0 : ∀ j, j < 10 → j ≠ 3 → h4.1 56 0 j = h.1 56 0 j := fun j x1 x2 => by
    rw [t4.at (by unfold cW; omega), a4.at (by unfold c44; omega), l3.at (by unfold c44; omega), q0 j x1 x2]
  obtain ⟨k0, k1, k2, k3, k4, k5, k6, k7, k8', k9, k10⟩ := k
  refine ⟨v, h4, a1, by rw [a2, take_iff S Z w I p1 d1 d2], wp_M_canBeTaken ⟨_, h1, p2, h2, lA, _, h3, a3, h4, t1, ?_, rfl⟩, ⟨?_, ?_, ?_, ?_, ?_, ?_, ?_, ?_, ?_, ?_, fun i hi => ?_⟩, ?_, ?_⟩
  · rcases a1 with e | e <;> rw [e] <;> rfl
  · rw [e0 _ (by omega) (by omega)]; exact k0
  · rw [e0 _ (by omega) (by omega)]; exact k1
  · rw [e0 _ (by omega) (by omega)]; exact k2
  · rw [t2]; congr 1; omega
  · rw [e0 _ (by omega) (by omega)]; exact k4
  · rw [e0 _ (by omega) (by omega)]; exact k5
  · rw [e0 _ (by omega) (by omega)]; exact k6
  · rw [e0 _ (by omega) (by omega)]; exact k7
  · rw [e0 _ (by omega) (by omega)]; exact k8'
  · rw [e0 _ (by omega) (by omega)]; exact k9
  · have := t3 i (by omega)
    rw [this.1, this.2]
    unfold ins
    by_cases e1 : i < p
    · rw [if_pos e1, if_pos e1, if_pos e1, if_pos e1]; exact ⟨rfl, rfl⟩
    · rw [if_neg e1, if_neg e1, if_neg (show ¬ i + 1 < p by omega), if_neg (show ¬ i + 1 = p by omega), if_neg (show ¬ i + 1 < p by omega), if_neg (show ¬ i + 1 = p by omega)]; exact ⟨rfl, rfl⟩
  · exact ((b1.ch S (fun K j hK => l3.at (by unfold c44; omega))).ch S (fun K j hK => a4.at (by unfold c44; omega))).ch S (fun K j hK => t4.at (by unfold cW; omega))
  · exact (((p4.mono (fun K i j x => Or.inr x)).tr (l3.mono (fun K i j x => Or.inl x))).tr (a4.mono (fun K i j x => Or.inl x))).tr (t4.mono (fun K i j x => Or.inr x))
end INTIME
