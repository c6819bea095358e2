/-! ===== frames ahead ===== -/
/-- the clock can go on -/
def swOk (nm : Nat) (D : Nat → MD) (c : CK) : Prop :=
  (∀ m, m < nm → WFm (D m)) ∧ nm ≤ 3 ∧ gdm (D (k_mo c)) ∧ k_mo c < nm ∧ k_fr c < mF (D (k_mo c)) ∧ (0 ≤ k_now c ∧ k_now c ≤ 1000000000) ∧ ((k_to c = -2 ∧ k_at c = -2) ∨ (0 ≤ k_to c ∧ k_to c < nm ∧ gdm (D (k_to c).toNat) ∧ k_now c ≤ k_at c ∧ k_at c ≤ k_now c + 600 ∧ (k_at c - k_now c) % md_fr (D (k_mo c)) = 0))
theorem mF_b {d : MD} (w : WFm d) : mF d ≤ 24 ∧ (gdm d → 1 ≤ mF d) := by
  have w1 := w.1
  have w3 := w.2.2.1
  have bd := md_bd w (g := md_fr d) (by omega) (by omega)
  refine ⟨bd.1, fun G => ?_⟩
  have h1 := bd.2.1
  have h2 := Int.ediv_mul_cancel (Int.dvd_of_emod_eq_zero G.1)
  have : md_rd d / md_fr d ≠ 0 := fun e => by rw [e] at h2; omega
  show 1 ≤ md_F d (md_fr d)
  omega
theorem mul_s (n : Nat) (L : Int) : ((n + 1 : Nat) : Int) * L = (n : Int) * L + L := by
  rw [show ((n + 1 : Nat) : Int) = (n : Int) + 1 from rfl, Int.add_mul, Int.one_mul]
theorem mul_m {a b : Nat} {L : Int} (h : a ≤ b) (hL : 0 ≤ L) : (a : Int) * L ≤ (b : Int) * L := Int.mul_le_mul_of_nonneg_right (by omega) hL
section AHEAD
variable {nm : Nat} {D : Nat → MD} {c : CK}
theorem sw_L (S : swOk nm D c) : 4 ≤ md_fr (D (k_mo c)) ∧ md_fr (D (k_mo c)) ≤ 60 := (S.1 _ S.2.2.2.1).1
theorem sw_n (S : swOk nm D c) : (k_to c < 0 ∧ sN D c = 1000000 ∧ k_to c = -2) ∨ (0 ≤ k_to c ∧ (k_to c).toNat < nm ∧ k_at c = k_now c + (sN D c : Int) * md_fr (D (k_mo c)) ∧ sN D c ≤ 150) := by
  have L := sw_L S
  rcases S.2.2.2.2.2.2 with ⟨a, b⟩ | ⟨a, b, d, e, f, g⟩
  · refine Or.inl ⟨by omega, ?_, a⟩
    unfold sN
    rw [if_neg (by omega)]
  · have h2 := Int.ediv_mul_cancel (Int.dvd_of_emod_eq_zero g)
    have h0 : 0 ≤ (k_at c - k_now c) / md_fr (D (k_mo c)) := Int.ediv_nonneg (by omega) (by omega)
    have h1 : (k_at c - k_now c) / md_fr (D (k_mo c)) ≤ 150 := by
      refine Int.le_of_lt_add_one (Int.ediv_lt_of_lt_mul (by omega) ?_)
      have : (150 + 1) * 4 ≤ (150 + 1) * md_fr (D (k_mo c)) := by omega
      omega
    have e1 : (sN D c : Int) = (k_at c - k_now c) / md_fr (D (k_mo c)) := by
      unfold sN
      rw [if_pos a]; omega
    refine Or.inr ⟨a, by omega, ?_, by omega⟩
    rw [e1]; omega
theorem sw_m (S : swOk nm D c) {n : Nat} (hn : n ≤ 1000) : aMo D c n < nm ∧ gdm (D (aMo D c n)) ∧ aFr D c n < mF (D (aMo D c n)) := by
  unfold aMo aFr
  rcases sw_n S with ⟨a, b, _⟩ | ⟨a, b, d, e⟩
  · rw [if_pos (by omega), if_pos (by omega)]
    have hF := (mF_b (S.1 _ S.2.2.2.1)).2 S.2.2.1
    exact ⟨S.2.2.2.1, S.2.2.1, Nat.mod_lt _ (by omega)⟩
  · by_cases hc : n < sN D c
    · rw [if_pos hc, if_pos hc]
      have hF := (mF_b (S.1 _ S.2.2.2.1)).2 S.2.2.1
      exact ⟨S.2.2.2.1, S.2.2.1, Nat.mod_lt _ (by omega)⟩
    · rw [if_neg hc, if_neg hc]
      rcases S.2.2.2.2.2.2 with ⟨x, _⟩ | ⟨_, _, G, _⟩
      · omega
      · have hF := (mF_b (S.1 _ b)).2 G
        exact ⟨b, G, Nat.mod_lt _ (by omega)⟩
theorem ti_s (S : swOk nm D c) {n : Nat} (hn : n ≤ 1000) : aTi D c (n + 1) = aTi D c n + md_fr (D (aMo D c n)) := by
  unfold aTi aMo
  have L := sw_L S
  rcases sw_n S with ⟨a, b, _⟩ | ⟨a, b, d, e⟩
  · rw [if_pos (by omega), if_pos (by omega), if_pos (by omega), mul_s]; omega
  · by_cases h1 : n + 1 < sN D c
    · rw [if_pos h1, if_pos (by omega), if_pos (by omega), mul_s]; omega
    · by_cases h2 : n < sN D c
      · rw [if_neg h1, if_pos h2, if_pos h2, show n + 1 - sN D c = 0 by omega, d, ← show n + 1 = sN D c by omega, mul_s]
        show _ + (0 : Int) * _ = _
        rw [Int.zero_mul]; omega
      · rw [if_neg h1, if_neg h2, if_neg h2, show n + 1 - sN D c = (n - sN D c) + 1 by omega, mul_s]; omega
theorem ti_at (S : swOk nm D c) (ht : 0 ≤ k_to c) {n : Nat} : aTi D c n = k_at c ↔ n = sN D c := by
  have L := sw_L S
  rcases sw_n S with ⟨a, b, _⟩ | ⟨a, b, d, e⟩
  · omega
  · have L2 := (S.1 _ b).1
    unfold aTi
    by_cases h1 : n < sN D c
    · rw [if_pos h1]
      have h3 := mul_m (show n + 1 ≤ sN D c by omega) (show 0 ≤ md_fr (D (k_mo c)) by omega)
      rw [mul_s] at h3
      omega
    · rw [if_neg h1]
      by_cases h2 : n = sN D c
      · rw [h2, Nat.sub_self]
        constructor
        · intro _; rfl
        · intro _
          show _ + (0 : Int) * _ = _
          rw [Int.zero_mul]; omega
      · have h3 := mul_m (show 1 ≤ n - sN D c by omega) (show 0 ≤ md_fr (D (k_to c).toNat) by omega)
        rw [show ((1 : Nat) : Int) * md_fr (D (k_to c).toNat) = md_fr (D (k_to c).toNat) from Int.one_mul _] at h3
        omega
theorem mod_s {a F : Nat} (hF : 1 ≤ F) : (a + 1) % F = if a % F + 1 = F then 0 else a % F + 1 := by
  have h1 := Nat.mod_lt a (show 0 < F by omega)
  rw [Nat.add_mod]
  by_cases hc : a % F + 1 = F
  · rw [if_pos hc]
    by_cases h2 : F = 1
    · rw [h2]; omega
    · rw [Nat.mod_eq_of_lt (show 1 < F by omega), hc, Nat.mod_self]
  · rw [if_neg hc]
    by_cases h2 : F = 1
    · omega
    · rw [Nat.mod_eq_of_lt (show 1 < F by omega), Nat.mod_eq_of_lt (by omega)]
theorem fr_s (S : swOk nm D c) {n : Nat} (hn : n ≤ 1000) (hne : n + 1 ≠ sN D c) : aMo D c (n + 1) = aMo D c n ∧ aFr D c (n + 1) = if aFr D c n + 1 = mF (D (aMo D c n)) then 0 else aFr D c n + 1 := by
  have hm := sw_m S hn
  have hF := (mF_b (S.1 _ hm.1)).2 hm.2.1
  revert hm hF
  unfold aMo aFr
  by_cases h1 : n + 1 < sN D c
  · rw [if_pos h1, if_pos (show n < sN D c by omega), if_pos h1, if_pos (show n < sN D c by omega)]
    intro hm hF
    refine ⟨rfl, ?_⟩
    rw [← Nat.add_assoc]; exact mod_s hF
  · rw [if_neg h1, if_neg (show ¬ n < sN D c by omega), if_neg h1, if_neg (show ¬ n < sN D c by omega)]
    intro hm hF
    refine ⟨rfl, ?_⟩
    rw [show n + 1 - sN D c = (n - sN D c) + 1 by omega]; exact mod_s hF
theorem fr_at (S : swOk nm D c) (ht : 0 ≤ k_to c) : aMo D c (sN D c) = (k_to c).toNat ∧ aFr D c (sN D c) = 0 := by
  unfold aMo aFr
  rw [if_neg (by omega), if_neg (by omega), Nat.sub_self]
  exact ⟨rfl, Nat.zero_mod _⟩
theorem ti_b (S : swOk nm D c) : ∀ n : Nat, n ≤ 1000 → k_now c + 4 * n ≤ aTi D c n ∧ aTi D c n ≤ k_now c + 60 * n := by
  intro n
  induction n with
  | zero =>
    intro _
    unfold aTi
    by_cases h1 : 0 < sN D c
    · rw [if_pos h1]
      show k_now c + _ ≤ k_now c + (0 : Int) * _ ∧ k_now c + (0 : Int) * _ ≤ _
      rw [Int.zero_mul]; omega
    · rcases sw_n S with ⟨a, b, _⟩ | ⟨a, b, d, e⟩
      · omega
      · rw [if_neg h1, show (0 : Nat) - sN D c = 0 by omega, d, show sN D c = 0 by omega]
        show _ ≤ k_now c + (0 : Int) * _ + (0 : Int) * _ ∧ k_now c + (0 : Int) * _ + (0 : Int) * _ ≤ _
        rw [Int.zero_mul, Int.zero_mul]; omega
  | succ n ih =>
    intro hn
    have := ih (by omega)
    have hm := sw_m S (show n ≤ 1000 by omega)
    have L := (S.1 _ hm.1).1
    rw [ti_s S (by omega)]; omega
/-! ===== the reference's cursor ===== -/
def CM (h : jm_H) (D : Nat → MD) (c : CK) (n : Nat) : Prop := h.1 8 0 44 = zI (aTi D c n) ∧ h.1 8 0 45 = zI (aMo D c n) ∧ h.1 8 0 46 = zI (aFr D c n) ∧ h.1 8 0 47 = zI (k_to c) ∧ h.1 8 0 48 = zI (k_at c)
/-- what the reference's cursor rests on -/
def CB (h : jm_H) (nm : Nat) (D : Nat → MD) (c : CK) : Prop := (∀ m, m < nm → vM h m (D m)) ∧ TL h (k_mo c) (D (k_mo c)) ∧ (0 ≤ k_to c → TL h (k_to c).toNat (D (k_to c).toNat))
def c44 : Nat → Nat → Nat → Prop := fun K _ j => K = 8 ∧ 44 ≤ j ∧ j ≤ 48
theorem CB.ch {h h' : jm_H} (S : swOk nm D c) (b : CB h nm D c) (e : ∀ K j, (34 ≤ K ∧ K ≤ 44) ∨ (52 ≤ K ∧ K ≤ 55) → h'.1 K 0 j = h.1 K 0 j) : CB h' nm D c := by
  refine ⟨fun m hm => (b.1 m hm).chg (fun K j hK => e K j (by omega)), b.2.1.chg ((mF_b (S.1 _ S.2.2.2.1)).1) (fun K j hK => e K j (by omega)), fun x => (b.2.2 x).chg ?_ (fun K j hK => e K j (by omega))⟩
  rcases sw_n S with ⟨a, _⟩ | ⟨_, a, _⟩
  · omega
  · exact (mF_b (S.1 _ a)).1
theorem CB.tl {h : jm_H} (S : swOk nm D c) (b : CB h nm D c) {n : Nat} (hn : n ≤ 1000) : TL h (aMo D c n) (D (aMo D c n)) := by
  unfold aMo
  by_cases hc : n < sN D c
  · rw [if_pos hc]; exact b.2.1
  · rw [if_neg hc]
    by_cases ht : 0 ≤ k_to c
    · exact b.2.2 ht
    · rcases sw_n S with ⟨x1, x2, x3⟩ | ⟨x1, x2, x3, x4⟩
      · omega
      · omega
theorem s_seenEnd {h : jm_H} (S : swOk nm D c) (b : CB h nm D c) {n : Nat} (hn : n ≤ 1000) (C : CM h D c n) : m_M_seenEnd h (zI (aTi D c (n + 1))) h := by
  have hm := sw_m S hn
  have n3 := S.2.1
  refine wp_M_seenEnd ⟨?_, ?_⟩
  · rw [C.2.1]; exact zI_in (by omega) (by omega) (by omega)
  · rw [C.2.1, zI_cn (by omega), (b.1 _ hm.1).1, C.1, zI_add, ti_s S hn]
theorem s_seenSlack {h : jm_H} (S : swOk nm D c) (b : CB h nm D c) {n : Nat} (hn : n ≤ 1000) (C : CM h D c n) : m_M_seenSlack h (zI (aSl D c n)) h := by
  have hm := sw_m S hn
  have n3 := S.2.1
  have hF := (mF_b (S.1 _ hm.1)).1
  have t := b.tl S hn
  have e24 : (24 * (h.1 8 0 45)) + (h.1 8 0 46) = zI ((24 * aMo D c n + aFr D c n : Nat) : Int) := by rw [C.2.1, C.2.2.1, zl_24, zI_mul, zI_add]; congr 1
  refine wp_M_seenSlack ⟨?_, ?_⟩
  · rw [e24]; exact zI_in (by omega) (by omega) (by omega)
  · rw [e24, zI_cn (by omega), t.2.2.2.2 _ hm.2.2]; rfl
theorem s_goesOn {h : jm_H} (S : swOk nm D c) (b : CB h nm D c) {n : Nat} (hn : n ≤ 999) (C : CM h D c n) : ∃ h', m_M_goesOn h h' ∧ CM h' D c (n + 1) ∧ Ch c44 h h' := by
  have hm := sw_m S (show n ≤ 1000 by omega)
  have n3 := S.2.1
  have hFb := (mF_b (S.1 _ hm.1)).1
  have hse := s_seenEnd S b (show n ≤ 1000 by omega) C
  obtain ⟨h1, eh1⟩ : ∃ h1, h1 = jm_sI (jm_sI h 8 0 44 (zI (aTi D c (n + 1)))) 8 0 46 ((h.1 8 0 46) + 1) := ⟨_, rfl⟩
  have c1 : Ch c44 h h1 := by
    rw [eh1]
    exact (Ch.sI (by unfold c44; omega)).tr (Ch.sI (by unfold c44; omega))
  have hfo : m_M_framesOf (h.1 8 0 45) h1 (zI (mF (D (aMo D c n)))) h1 := by
    rw [C.2.1]
    exact s_framesOf ((b.1 _ hm.1).chg (fun K j hK => c1.at (by unfold c44; omega))) (S.1 _ hm.1) (by omega)
  have e46 : (h.1 8 0 46) + 1 = zI ((aFr D c n + 1 : Nat) : Int) := by rw [C.2.2.1, zl_1, zI_add]; rfl
  -- the frame behind, ahead of a turn
  obtain ⟨f, ef⟩ : ∃ f : Nat, f = if aFr D c n + 1 = mF (D (aMo D c n)) then 0 else aFr D c n + 1 := ⟨_, rfl⟩
  have tb := ti_b S n (by omega)
  have tb1 := ti_b S (n + 1) (by omega)
  have hnow := S.2.2.2.2.2.1
  -- turns
  have turn : ∀ h2, h2.1 8 0 44 = zI (aTi D c (n + 1)) → h2.1 8 0 45 = zI (aMo D c n) → h2.1 8 0 46 = zI f → h2.1 8 0 47 = zI (k_to c) → h2.1 8 0 48 = zI (k_at c) → ∃ h3, m_M_turns h2 h3 ∧ CM h3 D c (n + 1) ∧ Ch c44 h2 h3 := by
    intro h2 a1 a2 a3 a4 a5
    rcases sw_n S with ⟨x1, x2, x3⟩ | ⟨x1, x2, x3, x4⟩
    · have hne : n + 1 ≠ sN D c := by omega
      have hf := fr_s S (show n ≤ 1000 by omega) hne
      refine ⟨h2, wp_M_turns ⟨fun _ => rfl, fun hc => ?_⟩, ⟨a1, by rw [hf.1]; exact a2, by rw [hf.2, ← ef]; exact a3, a4, a5⟩, Ch.rf h2⟩
      rw [a4, x3] at hc; exact absurd rfl hc
    · have hto : ¬ h2.1 8 0 47 = -2 := by rw [a4, zl_m2, zI_eq (by omega) (by omega) (by omega) (by omega)]; omega
      have hat : k_at c ≤ 1000000600 := by
        rcases S.2.2.2.2.2.2 with ⟨y, _⟩ | ⟨_, _, _, _, y, _⟩ <;> omega
      have hat0 : 0 ≤ k_at c := by
        rcases S.2.2.2.2.2.2 with ⟨y, _⟩ | ⟨_, _, _, y, _, _⟩ <;> omega
      by_cases hne : n + 1 = sN D c
      · have hf := fr_at S x1
        have ea := (ti_at S x1 (n := n + 1)).mpr hne
        refine ⟨jm_sI (jm_sI h2 8 0 45 (zI (k_to c))) 8 0 46 0, wp_M_turns ⟨fun hc => absurd hc hto, fun _ => ⟨fun _ => by rw [a4], fun hc => ?_⟩⟩, ⟨?_, ?_, ?_, ?_, ?_⟩, (Ch.sI (by unfold c44; omega)).tr (Ch.sI (by unfold c44; omega))⟩
        · rw [a1, a5, ea] at hc; exact absurd rfl hc
        · rw [sI_ne (by omega), sI_ne (by omega)]; exact a1
        · rw [sI_ne (by omega), sI_eq, hne, hf.1]; congr 1; omega
        · rw [sI_eq, hne, hf.2]; rfl
        · rw [sI_ne (by omega), sI_ne (by omega)]; exact a4
        · rw [sI_ne (by omega), sI_ne (by omega)]; exact a5
      · have hf := fr_s S (show n ≤ 1000 by omega) hne
        refine ⟨h2, wp_M_turns ⟨fun hc => absurd hc hto, fun _ => ⟨fun hc => ?_, fun _ => rfl⟩⟩, ⟨a1, by rw [hf.1]; exact a2, by rw [hf.2, ← ef]; exact a3, a4, a5⟩, Ch.rf h2⟩
        rw [a1, a5, zI_eq (by omega) (by omega) (by omega) (by omega)] at hc
        exact absurd ((ti_at S x1).mp hc) hne
  have k44 : h1.1 8 0 44 = zI (aTi D c (n + 1)) := by rw [eh1, sI_ne (by omega), sI_eq]
  have k45 : h1.1 8 0 45 = zI (aMo D c n) := by rw [eh1, sI_ne (by omega), sI_ne (by omega)]; exact C.2.1
  have k46 : h1.1 8 0 46 = zI ((aFr D c n + 1 : Nat) : Int) := by rw [eh1, sI_eq]; exact e46
  have k47 : h1.1 8 0 47 = zI (k_to c) := by rw [eh1, sI_ne (by omega), sI_ne (by omega)]; exact C.2.2.2.1
  have k48 : h1.1 8 0 48 = zI (k_at c) := by rw [eh1, sI_ne (by omega), sI_ne (by omega)]; exact C.2.2.2.2
  by_cases hc : aFr D c n + 1 = mF (D (aMo D c n))
  · rw [if_pos hc] at ef
    have c2 : Ch c44 h1 (jm_sI h1 8 0 46 0) := Ch.sI (by unfold c44; omega)
    obtain ⟨h3, t1, t2, t3⟩ := turn (jm_sI h1 8 0 46 0) (by rw [sI_ne (by omega)]; exact k44) (by rw [sI_ne (by omega)]; exact k45) (by rw [sI_eq, ef]; rfl) (by rw [sI_ne (by omega)]; exact k47) (by rw [sI_ne (by omega)]; exact k48)
    refine ⟨h3, wp_M_goesOn ⟨_, h, hse, _, h1, by rw [← eh1]; exact hfo, fun _ => ⟨h3, t1, rfl⟩, fun hc2 => ?_⟩, t2, (c1.tr c2).tr t3⟩
    rw [e46, hc] at hc2; exact absurd rfl hc2
  · rw [if_neg hc] at ef
    obtain ⟨h3, t1, t2, t3⟩ := turn h1 k44 k45 (by rw [k46, ef]) k47 k48
    refine ⟨h3, wp_M_goesOn ⟨_, h, hse, _, h1, by rw [← eh1]; exact hfo, fun hc2 => ?_, fun _ => ⟨h3, t1, rfl⟩⟩, t2, c1.tr t3⟩
    rw [e46, zI_eq (by omega) (by omega) (by omega) (by omega)] at hc2; omega
/-- from the clock on -/
theorem s_looks {h : jm_H} (S : swOk nm D c) (k0 : h.1 56 0 0 = zI (k_now c)) (k1 : h.1 56 0 1 = zI (k_mo c)) (k2 : h.1 56 0 2 = zI (k_fr c)) : ∃ h', m_M_looks (zI (k_to c)) (zI (k_at c)) h h' ∧ CM h' D c 0 ∧ Ch c44 h h' := by
  have n3 := S.2.1
  have hnow := S.2.2.2.2.2.1
  obtain ⟨h1, eh1⟩ : ∃ h1, h1 = jm_sI (jm_sI (jm_sI (jm_sI (jm_sI h 8 0 47 (zI (k_to c))) 8 0 48 (zI (k_at c))) 8 0 44 (h.1 56 0 0)) 8 0 45 (h.1 56 0 1)) 8 0 46 (h.1 56 0 2) := ⟨_, rfl⟩
  have c1 : Ch c44 h h1 := by
    rw [eh1]
    exact ((((Ch.sI (by unfold c44; omega)).tr (Ch.sI (by unfold c44; omega))).tr (Ch.sI (by unfold c44; omega))).tr (Ch.sI (by unfold c44; omega))).tr (Ch.sI (by unfold c44; omega))
  have a1 : h1.1 8 0 44 = zI (k_now c) := by rw [eh1, sI_ne (by omega), sI_ne (by omega), sI_eq]; exact k0
  have a2 : h1.1 8 0 45 = zI (k_mo c) := by rw [eh1, sI_ne (by omega), sI_eq]; exact k1
  have a3 : h1.1 8 0 46 = zI (k_fr c) := by rw [eh1, sI_eq]; exact k2
  have a4 : h1.1 8 0 47 = zI (k_to c) := by rw [eh1, sI_ne (by omega), sI_ne (by omega), sI_ne (by omega), sI_ne (by omega), sI_eq]
  have a5 : h1.1 8 0 48 = zI (k_at c) := by rw [eh1, sI_ne (by omega), sI_ne (by omega), sI_ne (by omega), sI_eq]
  have t0 := ti_b S 0 (by omega)
  have f0 : 0 < sN D c → aMo D c 0 = k_mo c ∧ aFr D c 0 = k_fr c := fun hp => by
    unfold aMo aFr
    rw [if_pos hp, if_pos hp]
    exact ⟨rfl, Nat.mod_eq_of_lt S.2.2.2.2.1⟩
  have e0 : aTi D c 0 = k_now c := by omega
  rcases sw_n S with ⟨x1, x2, x3⟩ | ⟨x1, x2, x3, x4⟩
  · have hf := f0 (by omega)
    refine ⟨h1, wp_M_looks ⟨h1, by rw [← eh1]; exact wp_M_turns ⟨fun _ => rfl, fun hc => absurd (by rw [a4, x3]; rfl) hc⟩, rfl⟩, ⟨by rw [e0]; exact a1, by rw [hf.1]; exact a2, by rw [hf.2]; exact a3, a4, a5⟩, c1⟩
  · have hto : ¬ h1.1 8 0 47 = -2 := by rw [a4, zl_m2, zI_eq (by omega) (by omega) (by omega) (by omega)]; omega
    have hat : 0 ≤ k_at c ∧ k_at c ≤ 1000000600 := by
      rcases S.2.2.2.2.2.2 with ⟨y, _⟩ | ⟨_, _, _, z, y, _⟩ <;> omega
    by_cases hz : sN D c = 0
    · have hf := fr_at S x1
      rw [hz] at hf
      have ea := (ti_at S x1 (n := 0)).mpr hz.symm
      have tn : m_M_turns h1 (jm_sI (jm_sI h1 8 0 45 (zI (k_to c))) 8 0 46 0) := wp_M_turns ⟨fun hc => absurd hc hto, fun _ => ⟨fun _ => by rw [a4], fun hc => absurd (by rw [a1, a5, ← ea, e0]) hc⟩⟩
      refine ⟨jm_sI (jm_sI h1 8 0 45 (zI (k_to c))) 8 0 46 0, wp_M_looks ⟨_, by rw [← eh1]; exact tn, rfl⟩, ⟨?_, ?_, ?_, ?_, ?_⟩, (c1.tr (Ch.sI (by unfold c44; omega))).tr (Ch.sI (by unfold c44; omega))⟩
      · rw [sI_ne (by omega), sI_ne (by omega), e0]; exact a1
      · rw [sI_ne (by omega), sI_eq, hf.1]; congr 1; omega
      · rw [sI_eq, hf.2]; rfl
      · rw [sI_ne (by omega), sI_ne (by omega)]; exact a4
      · rw [sI_ne (by omega), sI_ne (by omega)]; exact a5
    · have hf := f0 (by omega)
      have tn : m_M_turns h1 h1 := by
        refine wp_M_turns ⟨fun hc => absurd hc hto, fun _ => ⟨fun hc => ?_, fun _ => rfl⟩⟩
        rw [a1, a5, zI_eq (by omega) (by omega) (by omega) (by omega)] at hc
        exact absurd ((ti_at S x1 (n := 0)).mp (by rw [e0]; exact hc)).symm hz
      exact ⟨h1, wp_M_looks ⟨h1, by rw [← eh1]; exact tn, rfl⟩, ⟨by rw [e0]; exact a1, by rw [hf.1]; exact a2, by rw [hf.2]; exact a3, a4, a5⟩, c1⟩
end AHEAD
