/-! ===== what changes between heaps ===== -/
def Ch (C : Nat → Nat → Nat → Prop) (h h' : jm_H) : Prop := (∀ K i j, ¬ C K i j → h'.1 K i j = h.1 K i j) ∧ h'.2 = h.2
theorem Ch.rf {C : Nat → Nat → Nat → Prop} (h : jm_H) : Ch C h h := ⟨fun _ _ _ _ => rfl, rfl⟩
theorem Ch.tr {C : Nat → Nat → Nat → Prop} {h1 h2 h3 : jm_H} (a : Ch C h1 h2) (b : Ch C h2 h3) : Ch C h1 h3 := ⟨fun K i j hn => (b.1 K i j hn).trans (a.1 K i j hn), b.2.trans a.2⟩
theorem Ch.mono {C C' : Nat → Nat → Nat → Prop} {h h' : jm_H} (hC : ∀ K i j, C K i j → C' K i j) (a : Ch C h h') : Ch C' h h' := ⟨fun K i j hn => a.1 K i j (fun x => hn (hC K i j x)), a.2⟩
theorem Ch.at {C : Nat → Nat → Nat → Prop} {h h' : jm_H} (a : Ch C h h') {K i j : Nat} (hn : ¬ C K i j) : h'.1 K i j = h.1 K i j := a.1 K i j hn
theorem sI_at (h : jm_H) (K i j : Nat) (x : Int32) (a b c : Nat) : (jm_sI h K i j x).1 a b c = if a = K ∧ c = j ∧ b = i then x else h.1 a b c := rfl
theorem sI_ne {h : jm_H} {K i j : Nat} {x : Int32} {a b c : Nat} (hn : ¬ (a = K ∧ c = j ∧ b = i)) : (jm_sI h K i j x).1 a b c = h.1 a b c := if_neg hn
theorem sI_eq {h : jm_H} {K i j : Nat} {x : Int32} : (jm_sI h K i j x).1 K i j = x := if_pos ⟨rfl, rfl, rfl⟩
theorem Ch.sI {C : Nat → Nat → Nat → Prop} {h : jm_H} {K i j : Nat} {x : Int32} (hc : C K i j) : Ch C h (jm_sI h K i j x) := ⟨fun a b c hn => sI_ne (fun e => hn (by rw [e.1, e.2.1, e.2.2]; exact hc)), rfl⟩
def up (f : Nat → Int) (i : Nat) (v : Int) : Nat → Int := fun k => if k = i then v else f k
theorem up_eq (f : Nat → Int) (i : Nat) (v : Int) : up f i v i = v := if_pos rfl
theorem up_ne {f : Nat → Int} {i : Nat} {v : Int} {k : Nat} (h : k ≠ i) : up f i v k = f k := if_neg h
def put1 (u : Nat → Nat → Int) (j k : Nat) (a : Int) : Nat → Nat → Int := fun j' k' => if j' = j ∧ k' = k then u j k + a else u j' k'
theorem put1_eq (u : Nat → Nat → Int) (j k : Nat) (a : Int) : put1 u j k a j k = u j k + a := if_pos ⟨rfl, rfl⟩
theorem put1_ne {u : Nat → Nat → Int} {j k : Nat} {a : Int} {j' k' : Nat} (h : ¬ (j' = j ∧ k' = k)) : put1 u j k a j' k' = u j' k' := if_neg h
/-! ===== a flow ===== -/
/-- jobs, frames, room, windows, costs -/
def FS (h : jm_H) (f J F : Nat) (room : Int) (fi la c : Nat → Int) : Prop :=
  J ≤ 24 ∧ F ≤ 24 ∧ (0 ≤ room ∧ room ≤ 100) ∧ h.1 1 f 1 = zI room ∧ h.1 1 f 2 = zI F ∧ h.1 1 f 3 = zI J ∧ (∀ j, j < J → h.1 16 f j = zI (fi j) ∧ 0 ≤ fi j ∧ fi j ≤ 100) ∧ (∀ j, j < J → h.1 17 f j = zI (la j) ∧ -1 ≤ la j ∧ la j < F) ∧ (∀ j, j < J → h.1 15 f j = zI (c j) ∧ 0 ≤ c j ∧ c j ≤ 60)
/-- what is left, slack, units -/
def FD (h : jm_H) (f J F : Nat) (lf sl : Nat → Int) (u : Nat → Nat → Int) : Prop :=
  (∀ j, j < J → h.1 18 f j = zI (lf j)) ∧ (∀ k, k < F → h.1 19 f k = zI (sl k)) ∧ (∀ j k, j < J → k < 24 → h.1 21 (24 * f + j) k = zI (u j k))
def cD (f : Nat) : Nat → Nat → Nat → Prop := fun K i _ => (K = 18 ∧ i = f) ∨ (K = 19 ∧ i = f) ∨ (K = 21 ∧ 24 * f ≤ i ∧ i < 24 * f + 24)
theorem FS.ch {h h' : jm_H} {f J F : Nat} {room : Int} {fi la c : Nat → Int} (s : FS h f J F room fi la c) (a : Ch (cD f) h h') : FS h' f J F room fi la c := by
  have e : ∀ K i j, K ≠ 18 → K ≠ 19 → K ≠ 21 → h'.1 K i j = h.1 K i j := fun K i j h1 h2 h3 => a.at (by unfold cD; omega)
  obtain ⟨s1, s2, s3, s4, s5, s6, s7, s8, s9⟩ := s
  refine ⟨s1, s2, s3, ?_, ?_, ?_, fun j hj => ?_, fun j hj => ?_, fun j hj => ?_⟩
  · rw [e _ _ _ (by decide) (by decide) (by decide)]; exact s4
  · rw [e _ _ _ (by decide) (by decide) (by decide)]; exact s5
  · rw [e _ _ _ (by decide) (by decide) (by decide)]; exact s6
  · rw [e _ _ _ (by decide) (by decide) (by decide)]; exact s7 j hj
  · rw [e _ _ _ (by decide) (by decide) (by decide)]; exact s8 j hj
  · rw [e _ _ _ (by decide) (by decide) (by decide)]; exact s9 j hj
