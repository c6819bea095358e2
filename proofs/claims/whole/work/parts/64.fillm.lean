/-! ===== filling: how much of a job a frame gets ===== -/
/-- no window is empty, jobs come by their first frames -/
def WN (J F : Nat) (fi la c : Nat → Int) (room : Int) : Prop :=
  (J ≤ 24 ∧ F ≤ 24) ∧ (0 ≤ room ∧ room ≤ 100) ∧ (∀ j, j < J → 0 ≤ fi j ∧ fi j ≤ la j ∧ la j < F ∧ 0 ≤ c j ∧ c j ≤ 60) ∧ ∀ i j, i < j → j < J → fi i ≤ fi j
def dgL (J : Nat) (fi la c : Nat → Int) (j a b : Nat) : Int := sm J (fun i => if j < i ∧ (a : Int) ≤ fi i ∧ la i = b then c i else 0)
/-- what later jobs ask of the frames from a to ahead of n alone -/
def ltN (J : Nat) (fi la c : Nat → Int) (j a n : Nat) : Int := sm J (fun i => if j < i ∧ (a : Int) ≤ fi i ∧ la i < (n : Int) then c i else 0)
def sg (sl : Nat → Int) (a n : Nat) : Int := sm n sl - sm a sl
def Hok (J F : Nat) (fi la c : Nat → Int) (j k : Nat) (rest : Int) (sl : Nat → Int) : Prop :=
  (0 < rest → (k : Int) ≤ la j) ∧ ∀ a n : Nat, a ≤ n → n ≤ F → ltN J fi la c j a n + (if (a ≤ k ∧ la j < (n : Int)) then rest else 0) ≤ sg sl a n
/-- all from job j on fit -/
def Hj (J F : Nat) (fi la c : Nat → Int) (j : Nat) (sl : Nat → Int) : Prop :=
  ∀ a n : Nat, a ≤ n → n ≤ F → sm J (fun i => if j ≤ i ∧ (a : Int) ≤ fi i ∧ la i < (n : Int) then c i else 0) ≤ sg sl a n
def inR (fi la : Nat → Int) (j k a n : Nat) : Prop := fi j ≤ a ∧ a ≤ k ∧ k < n ∧ (n : Int) ≤ la j
def isAmt (J : Nat) (fi la c : Nat → Int) (j k : Nat) (rest : Int) (sl : Nat → Int) (x : Int) : Prop :=
  (x ≤ rest ∧ x ≤ sl k ∧ ∀ a n, inR fi la j k a n → x ≤ sg sl a n - ltN J fi la c j a n) ∧ (x = rest ∨ x = sl k ∨ ∃ a n, inR fi la j k a n ∧ x = sg sl a n - ltN J fi la c j a n)
theorem least {B : Int → Prop} (h0 : ∀ x, B x → 0 ≤ x) (hx : ∃ x, B x) : ∃ n, B n ∧ ∀ m, B m → n ≤ m := by
  have key : ∀ (N : Nat) (x : Int), B x → x ≤ N → ∃ n, B n ∧ ∀ m, B m → n ≤ m := by
    intro N
    induction N with
    | zero =>
      intro x bx hx
      exact ⟨x, bx, fun m bm => by have := h0 m bm; omega⟩
    | succ N ih =>
      intro x bx hx
      by_cases hm : ∃ m, B m ∧ m < x
      · obtain ⟨m, bm, hm⟩ := hm
        exact ih m bm (by omega)
      · exact ⟨x, bx, fun m bm => Int.not_lt.mp (fun hlt => hm ⟨m, bm, hlt⟩)⟩
  obtain ⟨x, bx⟩ := hx
  exact key x.toNat x bx (by have := h0 x bx; omega)
section FILLM
variable {J F : Nat} {fi la c : Nat → Int} {room : Int} {j k : Nat} {rest : Int} {sl : Nat → Int}
theorem ltN_s (j a n : Nat) : ltN J fi la c j a (n + 1) = ltN J fi la c j a n + dgL J fi la c j a n := by
  unfold ltN dgL
  rw [← sm_add]
  refine sm_congr (fun i _ => ?_)
  (try dsimp only)
  by_cases h1 : j < i ∧ (a : Int) ≤ fi i
  · by_cases h2 : la i < (n : Int)
    · rw [if_pos ⟨h1.1, h1.2, by omega⟩, if_pos ⟨h1.1, h1.2, h2⟩, if_neg (by omega)]; omega
    · by_cases h3 : la i = n
      · rw [if_pos ⟨h1.1, h1.2, by omega⟩, if_neg (by omega), if_pos ⟨h1.1, h1.2, h3⟩]; omega
      · rw [if_neg (by omega), if_neg (by omega), if_neg (by omega)]; rfl
  · rw [if_neg (by omega), if_neg (by omega), if_neg (by omega)]; rfl
theorem ltN_nn (hw : WN J F fi la c room) (j a n : Nat) : 0 ≤ ltN J fi la c j a n := sm_nn (fun i hi => by
  have := hw.2.2.1 i hi
  (try dsimp only)
  split <;> omega)
theorem ltN_bd (hw : WN J F fi la c room) (j a n : Nat) : ltN J fi la c j a n ≤ 1440 := by
  have := sm_bd (n := J) (f := fun i => if j < i ∧ (a : Int) ≤ fi i ∧ la i < (n : Int) then c i else 0) (B := 60) (fun i hi => by
    have := hw.2.2.1 i hi
    (try dsimp only)
    split <;> omega)
  have h1 := hw.1
  unfold ltN
  omega
theorem dgL_bd (hw : WN J F fi la c room) (j a n : Nat) : 0 ≤ dgL J fi la c j a n ∧ dgL J fi la c j a n ≤ 1440 := by
  have := sm_bd (n := J) (f := fun i => if j < i ∧ (a : Int) ≤ fi i ∧ la i = n then c i else 0) (B := 60) (fun i hi => by
    have := hw.2.2.1 i hi
    (try dsimp only)
    split <;> omega)
  have h1 := hw.1
  unfold dgL
  omega
theorem ltN_0 (hw : WN J F fi la c room) (j : Nat) {a n : Nat} (han : n ≤ a) : ltN J fi la c j a n = 0 := sm_zero (fun i hi => by
  have := hw.2.2.1 i hi
  (try dsimp only)
  exact if_neg (by omega))
theorem ltN_a (hw : WN J F fi la c room) (j n : Nat) {a a' : Nat} (h : a ≤ a') : ltN J fi la c j a' n ≤ ltN J fi la c j a n := sm_le (fun i hi => by
  have := hw.2.2.1 i hi
  (try dsimp only)
  split <;> split <;> omega)
theorem ltN_e (j n : Nat) {a a' : Nat} (h : a ≤ a') (hs : ∀ i, j < i → i < J → (a' : Int) ≤ fi i) : ltN J fi la c j a n = ltN J fi la c j a' n := sm_congr (fun i hi => by
  (try dsimp only)
  by_cases h1 : j < i
  · have := hs i h1 hi
    by_cases h2 : la i < (n : Int)
    · rw [if_pos ⟨h1, by omega, h2⟩, if_pos ⟨h1, this, h2⟩]
    · rw [if_neg (by omega), if_neg (by omega)]
  · rw [if_neg (by omega), if_neg (by omega)])
theorem ltN_sup (hw : WN J F fi la c room) (j : Nat) {a a' n n' : Nat} (h1 : a ≤ a') (h2 : n ≤ n') : ltN J fi la c j a n + ltN J fi la c j a' n' ≤ ltN J fi la c j a n' + ltN J fi la c j a' n := by
  unfold ltN
  rw [← sm_add, ← sm_add]
  refine sm_le (fun i hi => ?_)
  have := hw.2.2.1 i hi
  (try dsimp only)
  split <;> split <;> split <;> split <;> omega
theorem sg_nn (hs : ∀ k, k < F → 0 ≤ sl k) {a n : Nat} (h1 : a ≤ n) (h2 : n ≤ F) : 0 ≤ sg sl a n := by
  have := sm_mono (f := sl) (n := a) (m := n) (fun i _ hi => hs i (by omega)) h1
  unfold sg; omega
theorem sg_s (sl : Nat → Int) (a n : Nat) : sg sl a (n + 1) = sg sl a n + sl n := by unfold sg; rw [sm_s]; omega
theorem sg_up (sl : Nat → Int) (k : Nat) (x : Int) (a n : Nat) (han : a ≤ n) : sg (up sl k (sl k - x)) a n = sg sl a n - (if a ≤ k ∧ k < n then x else 0) := by
  have key : ∀ m : Nat, sm m (up sl k (sl k - x)) = sm m sl - (if k < m then x else 0) := by
    intro m
    by_cases h : k < m
    · rw [if_pos h, sm_up (f := sl) h (fun i _ hne => up_ne hne), up_eq]; omega
    · rw [if_neg h, sm_congr (f := up sl k (sl k - x)) (g := sl) (fun i hi => up_ne (by omega))]; omega
  unfold sg
  rw [key, key]
  by_cases h1 : k < n
  · by_cases h2 : k < a
    · rw [if_pos h1, if_pos h2, if_neg (by omega)]; omega
    · rw [if_pos h1, if_neg h2, if_pos (by omega)]; omega
  · rw [if_neg h1, if_neg (by omega), if_neg (by omega)]; omega
theorem isAmt.uq {x y : Int} (h1 : isAmt J fi la c j k rest sl x) (h2 : isAmt J fi la c j k rest sl y) : x = y := by
  have le : ∀ x y : Int, isAmt J fi la c j k rest sl x → isAmt J fi la c j k rest sl y → x ≤ y := by
    intro x y ⟨⟨a1, a2, a3⟩, _⟩ ⟨_, b⟩
    rcases b with b | b | ⟨a, n, b1, b2⟩
    · omega
    · omega
    · rw [b2]; exact a3 a n b1
  have := le x y h1 h2
  have := le y x h2 h1
  omega
noncomputable def amt (J : Nat) (fi la c : Nat → Int) (j k : Nat) (rest : Int) (sl : Nat → Int) : Int := @dite _ (∃ x, isAmt J fi la c j k rest sl x) (Classical.propDecidable _) (fun h => Classical.choose h) (fun _ => 0)
theorem amt_eq {x : Int} (h : isAmt J fi la c j k rest sl x) : amt J fi la c j k rest sl = x := by
  unfold amt
  rw [dif_pos ⟨x, h⟩]
  exact isAmt.uq (Classical.choose_spec (⟨x, h⟩ : ∃ x, isAmt J fi la c j k rest sl x)) h
theorem amt_b (hw : WN J F fi la c room) (hj : j < J) (hk : k < F) (r0 : 0 ≤ rest) (hs : ∀ k, k < F → 0 ≤ sl k) (H : Hok J F fi la c j k rest sl) {a n : Nat} (hr : inR fi la j k a n) : 0 ≤ sg sl a n - ltN J fi la c j a n := by
  obtain ⟨h1, h2, h3, h4⟩ := hr
  have := (hw.2.2.1 j hj).2.2.1
  have := H.2 a n (by omega) (by omega)
  rw [if_neg (by omega)] at this
  omega
theorem amt_ex (hw : WN J F fi la c room) (hj : j < J) (hk : k < F) (r0 : 0 ≤ rest) (hs : ∀ k, k < F → 0 ≤ sl k) (H : Hok J F fi la c j k rest sl) : ∃ x, isAmt J fi la c j k rest sl x ∧ 0 ≤ x := by
  obtain ⟨x, b, hm⟩ := least (B := fun x => x = rest ∨ x = sl k ∨ ∃ a n, inR fi la j k a n ∧ x = sg sl a n - ltN J fi la c j a n) (fun x hx => by
    rcases hx with hx | hx | ⟨a, n, h1, h2⟩
    · omega
    · have := hs k hk; omega
    · have := amt_b hw hj hk r0 hs H h1; omega) ⟨rest, Or.inl rfl⟩
  refine ⟨x, ⟨⟨hm rest (Or.inl rfl), hm (sl k) (Or.inr (Or.inl rfl)), fun a n hr => hm _ (Or.inr (Or.inr ⟨a, n, hr, rfl⟩))⟩, b⟩, ?_⟩
  rcases b with hx | hx | ⟨a, n, h1, h2⟩
  · omega
  · have := hs k hk; omega
  · have := amt_b hw hj hk r0 hs H h1; omega
theorem amt_ok (hw : WN J F fi la c room) (hj : j < J) (hk : k < F) (hfk : fi j ≤ k) (r0 : 0 ≤ rest) (hs : ∀ k, k < F → 0 ≤ sl k) (H : Hok J F fi la c j k rest sl) {x : Int} (x0 : 0 ≤ x) (hx : isAmt J fi la c j k rest sl x) : Hok J F fi la c j (k + 1) (rest - x) (up sl k (sl k - x)) := by
  have wj := hw.2.2.1 j hj
  obtain ⟨⟨u1, u2, u3⟩, ue⟩ := hx
  refine ⟨fun hr => ?_, fun a n han hn => ?_⟩
  · have hkl := H.1 (by omega)
    by_cases e : (k : Int) = la j
    · have h1 := H.2 k (k + 1) (by omega) (by omega)
      rw [if_pos (by omega), sg_s, show sg sl k k = 0 from Int.sub_self _] at h1
      have h2 := ltN_nn hw j k (k + 1)
      rcases ue with ue | ue | ⟨a, n, ⟨b1, b2, b3, b4⟩, _⟩
      · omega
      · omega
      · omega
    · omega
  · rw [sg_up sl k x a n han]
    have h1 := H.2 a n han hn
    by_cases hin : a ≤ k ∧ k < n
    · rw [if_pos hin]
      by_cases hl : la j < (n : Int)
      · rw [if_pos ⟨by omega, hl⟩]
        rw [if_pos ⟨hin.1, hl⟩] at h1
        omega
      · rw [if_neg (by omega)]
        by_cases hfa : fi j ≤ a
        · have := u3 a n ⟨hfa, hin.1, hin.2, by omega⟩
          omega
        · obtain ⟨f, ef⟩ : ∃ f : Nat, fi j = (f : Int) := ⟨(fi j).toNat, by omega⟩
          have h2 := u3 f n ⟨by omega, by omega, hin.2, by omega⟩
          have h3 : ltN J fi la c j a n = ltN J fi la c j f n := ltN_e j n (by omega) (fun i h1 h2 => by have := hw.2.2.2 j i h1 h2; omega)
          have h4 : sg sl a n = sg sl a f + sg sl f n := by unfold sg; omega
          have h5 := sg_nn hs (a := a) (n := f) (by omega) (by omega)
          omega
    · rw [if_neg hin]
      by_cases hc : a ≤ k + 1 ∧ la j < (n : Int)
      · rw [if_pos hc]
        by_cases hak : a ≤ k
        · rw [if_pos ⟨hak, hc.2⟩] at h1
          omega
        · have ea : a = k + 1 := by omega
          subst ea
          rw [if_neg (by omega)] at h1
          rcases ue with ue | ue | ⟨a0, n1, ⟨b1, b2, b3, b4⟩, b5⟩
          · omega
          · have h2 := H.2 k n (by omega) hn
            rw [if_pos ⟨Nat.le_refl _, hc.2⟩] at h2
            have h3 := ltN_a hw j n (show k ≤ k + 1 by omega)
            have h4 : sg sl k n = sl k + sg sl (k + 1) n := by unfold sg; rw [sm_s]; omega
            omega
          · have h2 := H.2 a0 n (by omega) hn
            rw [if_pos ⟨b2, hc.2⟩] at h2
            have h3 := H.2 (k + 1) n1 (by omega) (by omega)
            rw [if_neg (by omega)] at h3
            have h4 := ltN_sup hw j (show a0 ≤ k + 1 by omega) (show n1 ≤ n by omega)
            have h5 : sg sl a0 n1 + sg sl (k + 1) n = sg sl a0 n + sg sl (k + 1) n1 := by unfold sg; omega
            omega
      · rw [if_neg hc]
        have : (if (a ≤ k ∧ la j < (n : Int)) then rest else 0) ≥ 0 := by split <;> omega
        omega
theorem amt_mx {x y : Int} (hx : isAmt J fi la c j k rest sl x) (hj : j < J) (hw : WN J F fi la c room) (hxy : x < y) (h1 : y ≤ rest) (h2 : y ≤ sl k) : ¬ Hok J F fi la c j (k + 1) (rest - y) (up sl k (sl k - y)) := by
  intro H
  rcases hx.2 with e | e | ⟨a, n, hr, e⟩
  · omega
  · omega
  · obtain ⟨b1, b2, b3, b4⟩ := hr
    have := (hw.2.2.1 j hj).2.2.1
    have h3 := H.2 a n (by omega) (by omega)
    rw [sg_up sl k y a n (by omega), if_neg (show ¬ (a ≤ k + 1 ∧ la j < (n : Int)) by omega), if_pos ⟨b2, b3⟩] at h3
    omega
theorem Hj_ok (hw : WN J F fi la c room) (hj : j < J) (H : Hj J F fi la c j sl) {f : Nat} (ef : fi j = (f : Int)) : Hok J F fi la c j f (c j) sl := by
  refine ⟨fun _ => by have := (hw.2.2.1 j hj).2.1; omega, fun a n han hn => ?_⟩
  have h1 := H a n han hn
  have e : sm J (fun i => if j ≤ i ∧ (a : Int) ≤ fi i ∧ la i < (n : Int) then c i else 0) = ltN J fi la c j a n + (if a ≤ f ∧ la j < (n : Int) then c j else 0) := by
    unfold ltN
    have := sm_up (n := J) (f := fun i => if j < i ∧ (a : Int) ≤ fi i ∧ la i < (n : Int) then c i else 0) (g := fun i => if j ≤ i ∧ (a : Int) ≤ fi i ∧ la i < (n : Int) then c i else 0) hj (fun i _ hne => by
      (try dsimp only)
      by_cases h : j < i
      · by_cases h2 : (a : Int) ≤ fi i ∧ la i < (n : Int)
        · rw [if_pos ⟨by omega, h2⟩, if_pos ⟨h, h2⟩]
        · rw [if_neg (by omega), if_neg (by omega)]
      · rw [if_neg (by omega), if_neg (by omega)])
    rw [this]
    (try dsimp only)
    rw [if_neg (show ¬ (j < j ∧ (a : Int) ≤ fi j ∧ la j < (n : Int)) by omega)]
    by_cases h : a ≤ f ∧ la j < (n : Int)
    · rw [if_pos ⟨Nat.le_refl _, by omega, h.2⟩, if_pos h]; omega
    · rw [if_neg (by omega), if_neg h]; omega
  omega
theorem Hok_j (H : Hok J F fi la c j k 0 sl) : Hj J F fi la c (j + 1) sl := by
  intro a n han hn
  have h1 := H.2 a n han hn
  have : (if (a ≤ k ∧ la j < (n : Int)) then (0 : Int) else 0) = 0 := by split <;> rfl
  rw [this] at h1
  have e : sm J (fun i => if j + 1 ≤ i ∧ (a : Int) ≤ fi i ∧ la i < (n : Int) then c i else 0) = ltN J fi la c j a n := sm_congr (fun i _ => rfl)
  omega
/-! ===== the whole filling ===== -/
abbrev FSt : Type := (Nat → Int) × (Nat → Nat → Int)
noncomputable def fiI (J : Nat) (fi la c : Nat → Int) (j : Nat) : Nat → Nat → Int × FSt → Int × FSt
  | 0, _, s => s
  | e + 1, k, s => fiI J fi la c j e (k + 1) (s.1 - amt J fi la c j k s.1 s.2.1, up s.2.1 k (s.2.1 k - amt J fi la c j k s.1 s.2.1), put1 s.2.2 j k (amt J fi la c j k s.1 s.2.1))
noncomputable def fiO (J : Nat) (fi la c : Nat → Int) : Nat → Nat → FSt → FSt
  | 0, _, s => s
  | e + 1, j, s => fiO J fi la c e (j + 1) (fiI J fi la c j (la j + 1 - fi j).toNat (fi j).toNat (c j, s)).2
noncomputable def fillF (J : Nat) (fi la c : Nat → Int) (room : Int) : FSt := fiO J fi la c J 0 (fun _ => room, fun _ _ => 0)
/-- what is left of jobs when the first j are filled -/
def lfJ (c : Nat → Int) (j : Nat) (i : Nat) : Int := if i < j then 0 else c i
/-- job j is being filled: frames up to k have got theirs -/
def fin (J F : Nat) (fi la c : Nat → Int) (room : Int) (j k : Nat) (s : Int × FSt) : Prop :=
  fl_ok J F fi la c room (up (lfJ c j) j s.1) s.2.1 s.2.2 ∧ Hok J F fi la c j k s.1 s.2.1 ∧ (∀ i k', i < J → k' < F → (j < i ∨ (i = j ∧ k ≤ k')) → s.2.2 i k' = 0) ∧ (∀ i k', (J ≤ i ∨ F ≤ k') → s.2.2 i k' = 0)
/-- the first j are filled -/
def fout (J F : Nat) (fi la c : Nat → Int) (room : Int) (j : Nat) (s : FSt) : Prop :=
  fl_ok J F fi la c room (lfJ c j) s.1 s.2 ∧ Hj J F fi la c j s.1 ∧ (∀ i k', i < J → k' < F → j ≤ i → s.2 i k' = 0) ∧ (∀ i k', (J ≤ i ∨ F ≤ k') → s.2 i k' = 0)
theorem fl_ok_lf {lf lf' : Nat → Int} {u : Nat → Nat → Int} (ok : fl_ok J F fi la c room lf sl u) (e : ∀ i, i < J → lf i = lf' i) : fl_ok J F fi la c room lf' sl u := ⟨ok.1, ok.2.1, fun i hi => by rw [← e i hi]; exact ok.2.2.1 i hi, ok.2.2.2⟩
theorem fout_in (hw : WN J F fi la c room) (hj : j < J) {s : FSt} (P : fout J F fi la c room j s) {f : Nat} (ef : fi j = (f : Int)) : fin J F fi la c room j f (c j, s) := by
  obtain ⟨p1, p2, p3, p4⟩ := P
  refine ⟨fl_ok_lf p1 (fun i hi => ?_), Hj_ok hw hj p2 ef, fun i k' hi hk' h => p3 i k' hi hk' (by omega), p4⟩
  by_cases e : i = j
  · rw [e, up_eq]
    unfold lfJ
    rw [if_neg (by omega)]
  · rw [up_ne e]
theorem fin_out (hw : WN J F fi la c room) (hj : j < J) {s : Int × FSt} (P : fin J F fi la c room j k s) (hk : la j < (k : Int)) : s.1 = 0 ∧ fout J F fi la c room (j + 1) s.2 := by
  obtain ⟨p1, p2, p3, p4⟩ := P
  have h0 := (p1.2.2.1 j hj).1
  rw [up_eq] at h0
  have e0 : s.1 = 0 := by
    by_cases hp : 0 < s.1
    · have := p2.1 hp; omega
    · omega
  rw [e0] at p1 p2
  refine ⟨e0, fl_ok_lf p1 (fun i hi => ?_), Hok_j p2, fun i k' hi hk' h => p3 i k' hi hk' (Or.inl (by omega)), p4⟩
  unfold lfJ
  by_cases e : i = j
  · rw [e, up_eq, if_pos (by omega)]
  · rw [up_ne e]
    by_cases h : i < j
    · rw [if_pos h, if_pos (by omega)]
    · rw [if_neg h, if_neg (by omega)]
/-- one frame more -/
theorem fin_s (hw : WN J F fi la c room) (hj : j < J) {s : Int × FSt} (P : fin J F fi la c room j k s) (hfk : fi j ≤ k) (hkl : (k : Int) ≤ la j) : ∃ x, isAmt J fi la c j k s.1 s.2.1 x ∧ (0 ≤ x ∧ x ≤ s.1 ∧ x ≤ s.2.1 k) ∧ (0 ≤ s.1 ∧ s.1 ≤ 60) ∧ amt J fi la c j k s.1 s.2.1 = x ∧ s.2.2 j k = 0 ∧ fin J F fi la c room j (k + 1) (s.1 - x, up s.2.1 k (s.2.1 k - x), put1 s.2.2 j k x) := by
  obtain ⟨p1, p2, p3, p4⟩ := P
  have wj := hw.2.2.1 j hj
  have hkF : k < F := by omega
  have hs : ∀ k, k < F → 0 ≤ s.2.1 k := fun k hk => (p1.2.2.2 k hk).1
  have h0 := p1.2.2.1 j hj
  rw [up_eq] at h0
  have hsum : 0 ≤ sm F (s.2.2 j) := sm_nn (fun k' hk' => p1.1 j k' hj hk')
  obtain ⟨x, hx, x0⟩ := amt_ex hw hj hkF h0.1 hs p2
  have z : s.2.2 j k = 0 := p3 j k hj hkF (Or.inr ⟨rfl, Nat.le_refl _⟩)
  refine ⟨x, hx, ⟨x0, hx.1.1, hx.1.2.1⟩, ⟨h0.1, by omega⟩, amt_eq hx, z, ?_, amt_ok hw hj hkF hfk h0.1 hs p2 x0 hx, fun i k' hi hk' h => ?_, fun i k' h => ?_⟩
  · have := put_ok p1 (b := j) (k := k) (a := x) hj hkF (by omega) (by rw [up_eq]; exact hx.1.1) hx.1.2.1 hfk hkl
    refine fl_ok_lf this (fun i hi => ?_)
    by_cases e : i = j
    · rw [e, up_eq, up_eq, up_eq]
    · rw [up_ne e, up_ne e, up_ne e]
  · (try dsimp only)
    rw [put1_ne (by omega)]
    exact p3 i k' hi hk' (by omega)
  · (try dsimp only)
    rw [put1_ne (by omega)]
    exact p4 i k' h
end FILLM
