/-! ===== the greatest over, run by run ===== -/
def asin (J : Nat) (fi la c : Nat → Int) (a b : Nat) : Int := sm J (fun j => if fi j ≤ la j ∧ (a : Int) ≤ fi j ∧ la j ≤ b then c j else 0)
def dp_ok (J F : Nat) (fi la c : Nat → Int) (room : Int) (w : Int) (M : Nat → Int) : Prop :=
  M 0 = 0 ∧ ∀ b, b < F → M b ≤ M (b + 1) ∧ (∀ a, a ≤ b → ¬ ((a : Int) ≤ w ∧ w ≤ b) → M a + asin J fi la c a b - room * ((b : Int) - a + 1) ≤ M (b + 1)) ∧ (M (b + 1) = M b ∨ ∃ a, a ≤ b ∧ ¬ ((a : Int) ≤ w ∧ w ≤ b) ∧ M (b + 1) = M a + asin J fi la c a b - room * ((b : Int) - a + 1))
section DP
variable {J F : Nat} {fi la c : Nat → Int} {room w : Int} {M : Nat → Int}
theorem run_of (S : Nat → Bool) : ∀ b : Nat, S b = true → ∃ a, a ≤ b ∧ (∀ k, a ≤ k → k ≤ b → S k = true) ∧ (a = 0 ∨ S (a - 1) = false) := by
  intro b
  induction b with
  | zero => intro h; exact ⟨0, Nat.le_refl _, fun k _ h2 => by rw [show k = 0 by omega]; exact h, Or.inl rfl⟩
  | succ b ih =>
    intro h
    by_cases hb : S b = true
    · obtain ⟨a, h1, h2, h3⟩ := ih hb
      exact ⟨a, by omega, fun k k1 k2 => by
        by_cases e : k = b + 1
        · rw [e]; exact h
        · exact h2 k k1 (by omega), h3⟩
    · exact ⟨b + 1, Nat.le_refl _, fun k k1 k2 => by rw [show k = b + 1 by omega]; exact h, Or.inr (by simpa using hb)⟩
theorem ovr_split (hfi : ∀ j, j < J → 0 ≤ fi j) (hc : ∀ j, j < J → 0 ≤ c j) {S S' : Nat → Bool} {a b : Nat} (hab : a ≤ b) (hb : b < F) (hrun : ∀ k, a ≤ k → k ≤ b → S k = true) (hs : ∀ k, b < k → S k = false) (h0 : a = 0 ∨ S (a - 1) = false) (hS' : ∀ k, S' k = (S k && decide (k < a))) :
    ovr J F fi la c room S ≤ ovr J F fi la c room S' + asin J fi la c a b - room * ((b : Int) - a + 1) := by
  unfold ovr asin
  have e1 : sm F (fun k => if S k = true then room else 0) = sm F (fun k => if S' k = true then room else 0) + room * ((b : Int) - a + 1) := by
    rw [← sm_run F a b room hab hb, ← sm_add]
    refine sm_congr (fun k hk => ?_)
    rw [hS' k]
    by_cases h1 : k < a
    · rw [if_neg (show ¬ (a ≤ k ∧ k ≤ b) by omega)]
      simp [h1]
    · by_cases h2 : k ≤ b
      · rw [if_pos (hrun k (by omega) h2), if_pos (show a ≤ k ∧ k ≤ b by omega)]
        simp [h1]
      · rw [hs k (by omega), if_neg (show ¬ (a ≤ k ∧ k ≤ b) by omega)]
        simp
  have e2 : sm J (fun j => if bw fi la S j = true then c j else 0) ≤ sm J (fun j => if bw fi la S' j = true then c j else 0) + sm J (fun j => if fi j ≤ la j ∧ (a : Int) ≤ fi j ∧ la j ≤ b then c j else 0) := by
    rw [← sm_add]
    refine sm_le (fun j hj => ?_)
    have cj := hc j hj
    by_cases hbw : bw fi la S j = true
    · rw [if_pos hbw]
      obtain ⟨n1, n2⟩ := bw_iff.mp hbw
      by_cases hx : fi j ≤ la j ∧ (a : Int) ≤ fi j ∧ la j ≤ b
      · rw [if_pos hx]
        split <;> omega
      · have hin : bw fi la S' j = true := by
          refine bw_iff.mpr ⟨n1, fun k k1 k2 => ?_⟩
          rw [hS' k, n2 k k1 k2]
          by_cases hk : k < a
          · simp [hk]
          · exfalso
            have hkb : k ≤ b := by
              by_cases hkb : k ≤ b
              · exact hkb
              · have := n2 k k1 k2
                rw [hs k (by omega)] at this
                cases this
            have hlb : la j ≤ b := by
              by_cases hlb : la j ≤ b
              · exact hlb
              · have := n2 (b + 1) (by omega) (by omega)
                rw [hs (b + 1) (by omega)] at this
                cases this
            have hfa : fi j < a := by omega
            have hf0 := hfi j hj
            rcases h0 with h0 | h0
            · omega
            · have := n2 (a - 1) (by omega) (by omega)
              rw [h0] at this
              cases this
        rw [if_pos hin]
        split <;> omega
    · rw [if_neg hbw]
      split <;> split <;> omega
  omega
theorem dp_up (hfi : ∀ j, j < J → 0 ≤ fi j) (hc : ∀ j, j < J → 0 ≤ c j) (hd : dp_ok J F fi la c room w M) : ∀ (b : Nat), b ≤ F → ∀ S : Nat → Bool, (∀ k, b ≤ k → S k = false) → (∀ k : Nat, (k : Int) = w → S k = false) → ovr J F fi la c room S ≤ M b := by
  intro b
  induction b using Nat.strongRecOn with
  | _ b ih =>
    intro hbF S hS hw
    match b, ih, hbF, hS with
    | 0, ih, hbF, hS =>
      rw [hd.1]
      unfold ovr
      rw [sm_zero (n := J) (fun j hj => ?_), sm_zero (n := F) (fun k hk => by rw [hS k (by omega)]; rfl)]
      · exact Int.le_refl _
      · by_cases hbw : bw fi la S j = true
        · obtain ⟨n1, n2⟩ := bw_iff.mp hbw
          have f0 := hfi j hj
          have := n2 (la j).toNat (by omega) (by omega)
          rw [hS _ (by omega)] at this
          cases this
        · rw [if_neg hbw]
    | b + 1, ih, hbF, hS =>
      have hb := hd.2 b (by omega)
      by_cases hsb : S b = true
      · obtain ⟨a, ha, hrun, h0⟩ := run_of S b hsb
        have hwab : ¬ ((a : Int) ≤ w ∧ w ≤ b) := by
          rintro ⟨w1, w2⟩
          have h1 := hrun w.toNat (by omega) (by omega)
          rw [hw w.toNat (by omega)] at h1
          cases h1
        have h1 := hb.2.1 a ha hwab
        have h2 := ih a (by omega) (by omega) (fun k => S k && decide (k < a)) (fun k hk => by simp; intro _; omega) (fun k hk => by simp [hw k hk])
        have h3 := ovr_split (F := F) (room := room) (fi := fi) (la := la) hfi hc (S := S) (S' := fun k => S k && decide (k < a)) ha (by omega) hrun (fun k hk => hS k (by omega)) h0 (fun _ => rfl)
        omega
      · have h1 := ih b (by omega) (by omega) S (fun k hk => by
          by_cases e : k = b
          · rw [e]; simpa using hsb
          · exact hS k (by omega)) hw
        omega
theorem ovr_join (hc : ∀ j, j < J → 0 ≤ c j) {S S' : Nat → Bool} {a b : Nat} (hab : a ≤ b) (hb : b < F) (hfi : ∀ j, j < J → 0 ≤ fi j) (hs : ∀ k, a ≤ k → S' k = false) (hS : ∀ k, S k = (S' k || decide (a ≤ k ∧ k ≤ b))) :
    ovr J F fi la c room S' + asin J fi la c a b - room * ((b : Int) - a + 1) ≤ ovr J F fi la c room S := by
  unfold ovr asin
  have e1 : sm F (fun k => if S k = true then room else 0) = sm F (fun k => if S' k = true then room else 0) + room * ((b : Int) - a + 1) := by
    rw [← sm_run F a b room hab hb, ← sm_add]
    refine sm_congr (fun k hk => ?_)
    rw [hS k]
    by_cases h1 : a ≤ k ∧ k ≤ b
    · rw [hs k h1.1, if_pos h1]
      simp [h1]
    · rw [if_neg h1]
      simp [h1]
  have e2 : sm J (fun j => if bw fi la S' j = true then c j else 0) + sm J (fun j => if fi j ≤ la j ∧ (a : Int) ≤ fi j ∧ la j ≤ b then c j else 0) ≤ sm J (fun j => if bw fi la S j = true then c j else 0) := by
    rw [← sm_add]
    refine sm_le (fun j hj => ?_)
    have cj := hc j hj
    have fj := hfi j hj
    by_cases hbw : bw fi la S' j = true
    · obtain ⟨n1, n2⟩ := bw_iff.mp hbw
      have hx : ¬ (fi j ≤ la j ∧ (a : Int) ≤ fi j ∧ la j ≤ b) := by
        rintro ⟨x1, x2, x3⟩
        have := n2 (fi j).toNat (by omega) (by omega)
        rw [hs _ (by omega)] at this
        cases this
      rw [if_pos hbw, if_neg hx, if_pos (bw_iff.mpr ⟨n1, fun k k1 k2 => by rw [hS k, n2 k k1 k2]; rfl⟩)]
      omega
    · rw [if_neg hbw]
      by_cases hx : fi j ≤ la j ∧ (a : Int) ≤ fi j ∧ la j ≤ b
      · rw [if_pos hx, if_pos (bw_iff.mpr ⟨hx.1, fun k k1 k2 => by
          rw [hS k]
          have : a ≤ k ∧ k ≤ b := ⟨by omega, by omega⟩
          simp [this]⟩)]
        omega
      · rw [if_neg hx]
        split <;> omega
  omega
theorem ovr_no (hc : ∀ j, j < J → 0 ≤ c j) {S : Nat → Bool} (hS : ∀ k, S k = false) : 0 ≤ ovr J F fi la c room S := by
  unfold ovr
  have e0 : sm F (fun k => if S k = true then room else 0) = 0 := sm_zero (fun k hk => if_neg (by rw [hS k]; decide))
  have := sm_nn (n := J) (f := fun j => if bw fi la S j = true then c j else 0) (fun j hj => by
    have := hc j hj
    try dsimp only
    split <;> omega)
  omega
theorem dp_at (hfi : ∀ j, j < J → 0 ≤ fi j) (hc : ∀ j, j < J → 0 ≤ c j) (hd : dp_ok J F fi la c room w M) : ∀ (b : Nat), b ≤ F → ∃ S : Nat → Bool, (∀ k, b ≤ k → S k = false) ∧ (∀ k : Nat, (k : Int) = w → S k = false) ∧ M b ≤ ovr J F fi la c room S := by
  intro b
  induction b using Nat.strongRecOn with
  | _ b ih =>
    intro hbF
    match b, ih, hbF with
    | 0, ih, hbF =>
      refine ⟨fun _ => false, fun _ _ => rfl, fun _ _ => rfl, ?_⟩
      rw [hd.1]
      exact ovr_no hc (fun _ => rfl)
    | b + 1, ih, hbF =>
      have hb := hd.2 b (by omega)
      rcases hb.2.2 with e | ⟨a, ha, hwab, e⟩
      · obtain ⟨S, s1, s2, s3⟩ := ih b (by omega) (by omega)
        exact ⟨S, fun k hk => s1 k (by omega), s2, by omega⟩
      · obtain ⟨S', s1, s2, s3⟩ := ih a (by omega) (by omega)
        have h3 := ovr_join (F := F) (room := room) (fi := fi) (la := la) hc (S := fun k => S' k || decide (a ≤ k ∧ k ≤ b)) (S' := S') ha (by omega) hfi s1 (fun _ => rfl)
        refine ⟨fun k => S' k || decide (a ≤ k ∧ k ≤ b), fun k hk => ?_, fun k hk => ?_, by omega⟩
        · simp only [s1 k (by omega), Bool.false_or, decide_eq_false_iff_not]; omega
        · simp only [s2 k hk, Bool.false_or, decide_eq_false_iff_not]; omega
/-- sets of frames beyond the last say nothing -/
theorem ovr_cut (hla : ∀ j, j < J → la j < F) (S : Nat → Bool) : ovr J F fi la c room (fun k => S k && decide (k < F)) = ovr J F fi la c room S := by
  unfold ovr
  have e1 : sm F (fun k => if (S k && decide (k < F)) = true then room else 0) = sm F (fun k => if S k = true then room else 0) := sm_congr (fun k hk => by simp [hk])
  have e2 : sm J (fun j => if bw fi la (fun k => S k && decide (k < F)) j = true then c j else 0) = sm J (fun j => if bw fi la S j = true then c j else 0) := by
    refine sm_congr (fun j hj => ?_)
    have : bw fi la (fun k => S k && decide (k < F)) j = true ↔ bw fi la S j = true := by
      rw [bw_iff, bw_iff]
      constructor
      · rintro ⟨h1, h2⟩
        exact ⟨h1, fun k k1 k2 => by have := h2 k k1 k2; simp at this; exact this.1⟩
      · rintro ⟨h1, h2⟩
        exact ⟨h1, fun k k1 k2 => by
          have := hla j hj
          simp [h2 k k1 k2]; omega⟩
    by_cases hb : bw fi la S j = true
    · rw [if_pos hb, if_pos (this.mpr hb)]
    · rw [if_neg hb, if_neg (fun x => hb (this.mp x))]
  rw [e1, e2]
theorem dp_le (hfi : ∀ j, j < J → 0 ≤ fi j) (hla : ∀ j, j < J → la j < F) (hc : ∀ j, j < J → 0 ≤ c j) (hd : dp_ok J F fi la c room w M) (S : Nat → Bool) (hw : ∀ k : Nat, (k : Int) = w → S k = false) : ovr J F fi la c room S ≤ M F := by
  rw [← ovr_cut hla S]
  exact dp_up hfi hc hd F (Nat.le_refl _) _ (fun k hk => by simp; intro _; omega) (fun k hk => by simp [hw k hk])
end DP
