/-! ===== windows are runs of frames ===== -/
/-- the window isn't empty and lies in S -/
noncomputable def bw (fi la : Nat → Int) (S : Nat → Bool) (j : Nat) : Bool := @decide (fi j ≤ la j ∧ ∀ k : Nat, fi j ≤ k → (k : Int) ≤ la j → S k = true) (Classical.propDecidable _)
theorem bw_iff {fi la : Nat → Int} {S : Nat → Bool} {j : Nat} : bw fi la S j = true ↔ (fi j ≤ la j ∧ ∀ k : Nat, fi j ≤ k → (k : Int) ≤ la j → S k = true) := by
  unfold bw
  exact @decide_eq_true_iff _ (Classical.propDecidable _)
noncomputable def ovr (J F : Nat) (fi la c : Nat → Int) (room : Int) (S : Nat → Bool) : Int := sm J (fun j => if bw fi la S j = true then c j else 0) - sm F (fun k => if S k = true then room else 0)
def lft (J : Nat) (fi la lf : Nat → Int) : Int := sm J (fun j => if fi j ≤ la j then lf j else 0)
/-- units of jobs in frames -/
def fl_ok (J F : Nat) (fi la c : Nat → Int) (room : Int) (lf sl : Nat → Int) (u : Nat → Nat → Int) : Prop :=
  (∀ j k, j < J → k < F → 0 ≤ u j k) ∧ (∀ j k, j < J → k < F → u j k ≠ 0 → fi j ≤ k ∧ (k : Int) ≤ la j) ∧ (∀ j, j < J → 0 ≤ lf j ∧ c j = lf j + sm F (u j)) ∧ (∀ k, k < F → 0 ≤ sl k ∧ room = sl k + sm J (fun j => u j k))
/-- whose window ends first goes first -/
def fl_edf (J F : Nat) (fi la c : Nat → Int) (sl : Nat → Int) (u : Nat → Nat → Int) : Prop :=
  ∀ j k, j < J → k < F → fi j ≤ k → (k : Int) ≤ la j → sm (k + 1) (u j) < c j → sl k = 0 ∧ ∀ i, i < J → u i k ≠ 0 → la i ≤ la j
noncomputable def dfc (J F : Nat) (fi la : Nat → Int) (lf sl : Nat → Int) (u : Nat → Nat → Int) (S : Nat → Bool) : Int :=
  sm J (fun j => if bw fi la S j = true then 0 else (if fi j ≤ la j then lf j else 0) + sm F (fun k => if S k = true then u j k else 0)) + sm F (fun k => if S k = true then sl k else 0)
section HALL
variable {J F : Nat} {fi la c : Nat → Int} {room : Int} {lf sl : Nat → Int} {u : Nat → Nat → Int}
theorem ovr_id (ok : fl_ok J F fi la c room lf sl u) (S : Nat → Bool) : lft J fi la lf = ovr J F fi la c room S + dfc J F fi la lf sl u S := by
  obtain ⟨h1, h2, h3, h4⟩ := ok
  have e1 : sm F (fun k => if S k = true then room else 0) = sm F (fun k => if S k = true then sl k else 0) + sm J (fun j => sm F (fun k => if S k = true then u j k else 0)) := by
    rw [sm_swap J F, ← sm_add]
    refine sm_congr (fun k hk => ?_)
    by_cases hs : S k = true
    · rw [if_pos hs, if_pos hs, (h4 k hk).2]
      congr 1
      exact sm_congr (fun j _ => by rw [if_pos hs])
    · rw [if_neg hs, if_neg hs, sm_zero (fun j _ => by rw [if_neg hs])]; rfl
  have e2 : lft J fi la lf = sm J (fun j => if bw fi la S j = true then c j else 0) - sm J (fun j => sm F (fun k => if S k = true then u j k else 0)) + sm J (fun j => if bw fi la S j = true then 0 else (if fi j ≤ la j then lf j else 0) + sm F (fun k => if S k = true then u j k else 0)) := by
    unfold lft
    rw [← sm_sub, ← sm_add]
    refine sm_congr (fun j hj => ?_)
    by_cases hb : bw fi la S j = true
    · rw [if_pos hb, if_pos hb]
      obtain ⟨b1, b2⟩ := bw_iff.mp hb
      rw [if_pos b1]
      have : sm F (fun k => if S k = true then u j k else 0) = sm F (u j) := by
        refine sm_congr (fun k hk => ?_)
        by_cases hs : S k = true
        · rw [if_pos hs]
        · rw [if_neg hs]
          by_cases h0 : u j k = 0
          · exact h0.symm
          · have := h2 j k hj hk h0
            exact absurd (b2 k this.1 this.2) hs
      have := (h3 j hj).2
      omega
    · rw [if_neg hb, if_neg hb]; omega
  unfold ovr dfc
  rw [e2, e1]; omega
theorem dfc_nn (ok : fl_ok J F fi la c room lf sl u) (S : Nat → Bool) : 0 ≤ dfc J F fi la lf sl u S := by
  obtain ⟨h1, h2, h3, h4⟩ := ok
  have a : 0 ≤ sm J (fun j => if bw fi la S j = true then 0 else (if fi j ≤ la j then lf j else 0) + sm F (fun k => if S k = true then u j k else 0)) := sm_nn (fun j hj => by
    have b := (h3 j hj).1
    have d : 0 ≤ sm F (fun k => if S k = true then u j k else 0) := sm_nn (fun k hk => by
      have := h1 j k hj hk
      split <;> omega)
    split
    · exact Int.le_refl _
    · split <;> omega)
  have b : 0 ≤ sm F (fun k => if S k = true then sl k else 0) := sm_nn (fun k hk => by
    have := (h4 k hk).1
    split <;> omega)
  unfold dfc
  omega
theorem ovr_le (ok : fl_ok J F fi la c room lf sl u) (S : Nat → Bool) : ovr J F fi la c room S ≤ lft J fi la lf := by
  have h1 := ovr_id ok S
  have h2 := dfc_nn ok S
  omega
/-- what a set of the greatest over is -/
def fl_tight (J F : Nat) (fi la : Nat → Int) (lf sl : Nat → Int) (u : Nat → Nat → Int) (S : Nat → Bool) : Prop :=
  (∀ j, j < J → 0 < lf j → ∀ k : Nat, fi j ≤ k → (k : Int) ≤ la j → S k = true) ∧ (∀ j k, j < J → k < F → S k = true → u j k ≠ 0 → ∀ k' : Nat, fi j ≤ k' → (k' : Int) ≤ la j → S k' = true) ∧ (∀ k, k < F → S k = true → sl k = 0)
theorem tight_iff (ok : fl_ok J F fi la c room lf sl u) (S : Nat → Bool) : ovr J F fi la c room S = lft J fi la lf ↔ fl_tight J F fi la lf sl u S := by
  have h0 := ovr_id ok S
  obtain ⟨h1, h2, h3, h4⟩ := ok
  have pa : ∀ j, j < J → 0 ≤ (if bw fi la S j = true then 0 else (if fi j ≤ la j then lf j else 0) + sm F (fun k => if S k = true then u j k else 0)) := fun j hj => by
    have b := (h3 j hj).1
    have d : 0 ≤ sm F (fun k => if S k = true then u j k else 0) := sm_nn (fun k hk => by
      have := h1 j k hj hk
      split <;> omega)
    split
    · exact Int.le_refl _
    · split <;> omega
  have pb : ∀ k, k < F → 0 ≤ (if S k = true then sl k else 0) := fun k hk => by
    have := (h4 k hk).1
    split <;> omega
  have na := sm_nn pa
  have nb := sm_nn pb
  constructor
  · intro e
    have z : dfc J F fi la lf sl u S = 0 := by omega
    unfold dfc at z
    have za := fun j (hj : j < J) => sm_z pa (by omega) hj
    have zb := fun k (hk : k < F) => sm_z pb (by omega) hk
    have wn : ∀ j, j < J → ∀ k : Nat, fi j ≤ k → (k : Int) ≤ la j → ¬ S k = true → lf j = 0 ∧ ∀ k', k' < F → S k' = true → u j k' = 0 := by
      intro j hj k k1 k2 hs
      have hb : ¬ bw fi la S j = true := fun hb => hs ((bw_iff.mp hb).2 k k1 k2)
      have := za j hj
      rw [if_neg hb, if_pos (show fi j ≤ la j by omega)] at this
      have b := (h3 j hj).1
      have pd : ∀ k, k < F → 0 ≤ (if S k = true then u j k else 0) := fun k hk => by
        have := h1 j k hj hk
        split <;> omega
      have d := sm_nn pd
      refine ⟨by omega, fun k' hk' hs' => ?_⟩
      have := sm_z pd (by omega) hk'
      rwa [if_pos hs'] at this
    refine ⟨fun j hj hl k k1 k2 => ?_, fun j k hj hk hs hu k' k1 k2 => ?_, fun k hk hs => ?_⟩
    · by_cases hs : S k = true
      · exact hs
      · have := (wn j hj k k1 k2 hs).1
        omega
    · by_cases hs' : S k' = true
      · exact hs'
      · exact absurd ((wn j hj k' k1 k2 hs').2 k hk hs) hu
    · have := zb k hk
      rwa [if_pos hs] at this
  · intro t
    obtain ⟨t1, t2, t3⟩ := t
    have z : dfc J F fi la lf sl u S = 0 := by
      unfold dfc
      rw [sm_zero (fun j hj => ?_), sm_zero (fun k hk => ?_)]
      · rfl
      · by_cases hs : S k = true
        · rw [if_pos hs, t3 k hk hs]
        · rw [if_neg hs]
      · by_cases hb : bw fi la S j = true
        · rw [if_pos hb]
        · rw [if_neg hb]
          have b := (h3 j hj).1
          have e1 : (if fi j ≤ la j then lf j else 0) = 0 := by
            by_cases hne : fi j ≤ la j
            · rw [if_pos hne]
              by_cases hl : 0 < lf j
              · exact absurd (bw_iff.mpr ⟨hne, t1 j hj hl⟩) hb
              · omega
            · rw [if_neg hne]
          rw [e1, sm_zero (fun k hk => ?_)]
          · rfl
          · by_cases hs : S k = true
            · rw [if_pos hs]
              by_cases hu : u j k = 0
              · exact hu
              · have := h2 j k hj hk hu
                exact absurd (bw_iff.mpr ⟨by omega, t2 j k hj hk hs hu⟩) hb
            · rw [if_neg hs]
    omega
/-- the run of frames from a to the end of j's window is full of what ends no later -/
def fl_seg (J : Nat) (la : Nat → Int) (sl : Nat → Int) (u : Nat → Nat → Int) (j a : Nat) : Prop := ∀ k : Nat, a ≤ k → (k : Int) ≤ la j → sl k = 0 ∧ ∀ i, i < J → u i k ≠ 0 → la i ≤ la j
noncomputable def fl_S0 (J : Nat) (fi la : Nat → Int) (lf sl : Nat → Int) (u : Nat → Nat → Int) (k : Nat) : Bool :=
  @decide (∃ j a : Nat, j < J ∧ 0 < lf j ∧ fl_seg J la sl u j a ∧ (a : Int) ≤ fi j ∧ a ≤ k ∧ (k : Int) ≤ la j) (Classical.propDecidable _)
theorem fl_S0_iff {k : Nat} : fl_S0 J fi la lf sl u k = true ↔ ∃ j a : Nat, j < J ∧ 0 < lf j ∧ fl_seg J la sl u j a ∧ (a : Int) ≤ fi j ∧ a ≤ k ∧ (k : Int) ≤ la j := by
  unfold fl_S0
  exact @decide_eq_true_iff _ (Classical.propDecidable _)
theorem edf_tight (ok : fl_ok J F fi la c room lf sl u) (ed : fl_edf J F fi la c sl u) (hfi : ∀ j, j < J → 0 ≤ fi j) (hla : ∀ j, j < J → la j < F) : fl_tight J F fi la lf sl u (fl_S0 J fi la lf sl u) := by
  obtain ⟨h1, h2, h3, h4⟩ := ok
  refine ⟨fun j hj hl k k1 k2 => ?_, fun j k hj hk hs hu k' k1 k2 => ?_, fun k hk hs => ?_⟩
  · refine fl_S0_iff.mpr ⟨j, (fi j).toNat, hj, hl, fun k' a1 a2 => ?_, by have := hfi j hj; omega, by have := hfi j hj; omega, k2⟩
    have hk' : k' < F := by have := hla j hj; omega
    refine ed j k' hj hk' (by have := hfi j hj; omega) a2 ?_
    have m1 : sm (k' + 1) (u j) ≤ sm F (u j) := sm_mono (fun i a b => h1 j i hj b) (by omega)
    have := (h3 j hj).2
    omega
  · obtain ⟨j0, a, hj0, hl, hseg, ha, b1, b2⟩ := fl_S0_iff.mp hs
    have hle := (hseg k b1 b2).2 j hj hu
    have hw := h2 j k hj hk hu
    by_cases hc : (a : Int) ≤ fi j
    · exact fl_S0_iff.mpr ⟨j0, a, hj0, hl, hseg, ha, by omega, by omega⟩
    · refine fl_S0_iff.mpr ⟨j0, (fi j).toNat, hj0, hl, fun k2' a1 a2 => ?_, by have := hfi j hj; omega, by have := hfi j hj; omega, by omega⟩
      by_cases hc2 : a ≤ k2'
      · exact hseg k2' hc2 a2
      · have f0 := hfi j hj
        have hk2 : k2' < F := by have := hla j0 hj0; omega
        have hlt : sm (k2' + 1) (u j) < c j := by
          have e1 : sm (k2' + 1) (u j) ≤ sm k (u j) := sm_mono (fun i a b => h1 j i hj (by omega)) (by omega)
          have e2 : sm (k + 1) (u j) ≤ sm F (u j) := sm_mono (fun i a b => h1 j i hj b) (by omega)
          rw [sm_s] at e2
          have e3 := h1 j k hj hk
          have := h3 j hj
          omega
        have := ed j k2' hj hk2 (by omega) (by omega) hlt
        exact ⟨this.1, fun i hi hne => by have := this.2 i hi hne; omega⟩
  · obtain ⟨j0, a, hj0, hl, hseg, ha, b1, b2⟩ := fl_S0_iff.mp hs
    exact (hseg k b1 b2).1
end HALL
