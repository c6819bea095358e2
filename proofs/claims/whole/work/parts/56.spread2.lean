/-! ===== frame by frame ===== -/
def edfTo (J : Nat) (fi la c : Nat → Int) (sl : Nat → Int) (u : Nat → Nat → Int) (k : Nat) : Prop :=
  ∀ j k', j < J → k' < k → fi j ≤ k' → (k' : Int) ≤ la j → sm (k' + 1) (u j) < c j → sl k' = 0 ∧ ∀ i, i < J → u i k' ≠ 0 → la i ≤ la j
def sp_in (J F : Nat) (fi la c : Nat → Int) (room : Int) (lf sl : Nat → Int) (u : Nat → Nat → Int) (k : Nat) : Prop :=
  fl_ok J F fi la c room lf sl u ∧ (∀ j k', j < J → k < k' → k' < F → u j k' = 0) ∧ edfTo J fi la c sl u k ∧ (∀ j, j < J → elg fi la lf k j → ∀ i, i < J → u i k ≠ 0 → la i ≤ la j)
def ecnt (J : Nat) (fi la lf : Nat → Int) (k : Nat) : Int := sm J (fun j => if 0 < lf j ∧ fi j ≤ (k : Int) ∧ (k : Int) ≤ la j then 1 else 0)
section SPR2
variable {J F : Nat} {room : Int} {fi la c : Nat → Int} {lf sl : Nat → Int} {u : Nat → Nat → Int}
theorem put_ok (ok : fl_ok J F fi la c room lf sl u) {b k : Nat} {a : Int} (hb : b < J) (hk : k < F) (h0 : 0 ≤ u b k + a) (h1 : a ≤ lf b) (h2 : a ≤ sl k) (w1 : fi b ≤ k) (w2 : (k : Int) ≤ la b) : fl_ok J F fi la c room (up lf b (lf b - a)) (up sl k (sl k - a)) (put1 u b k a) := by
  obtain ⟨o1, o2, o3, o4⟩ := ok
  refine ⟨fun j k' hj hk' => ?_, fun j k' hj hk' hu => ?_, fun j hj => ?_, fun k' hk' => ?_⟩
  · by_cases e : j = b ∧ k' = k
    · obtain ⟨rfl, rfl⟩ := e
      rw [put1_eq]; exact h0
    · rw [put1_ne e]; exact o1 j k' hj hk'
  · by_cases e : j = b ∧ k' = k
    · obtain ⟨rfl, rfl⟩ := e
      exact ⟨w1, w2⟩
    · rw [put1_ne e] at hu; exact o2 j k' hj hk' hu
  · by_cases e : j = b
    · subst e
      have := o3 j hj
      rw [up_eq]
      have e2 : sm F (put1 u j k a j) = sm F (u j) + (put1 u j k a j k - u j k) := sm_up hk (fun k' _ hne => put1_ne (by omega))
      rw [put1_eq] at e2
      exact ⟨by omega, by omega⟩
    · rw [up_ne e]
      have e2 : sm F (put1 u b k a j) = sm F (u j) := sm_congr (fun k' _ => put1_ne (by omega))
      rw [e2]; exact o3 j hj
  · by_cases e : k' = k
    · subst e
      have := o4 k' hk'
      rw [up_eq]
      have e2 : sm J (fun j => put1 u b k' a j k') = sm J (fun j => u j k') + (put1 u b k' a b k' - u b k') := sm_up (f := fun j => u j k') (g := fun j => put1 u b k' a j k') hb (fun j _ hne => put1_ne (by omega))
      rw [put1_eq] at e2
      exact ⟨by omega, by omega⟩
    · rw [up_ne e]
      have e2 : sm J (fun j => put1 u b k a j k') = sm J (fun j => u j k') := sm_congr (fun j _ => put1_ne (by omega))
      rw [e2]; exact o4 k' hk'
theorem sp_step {k b : Nat} {a : Int} (P : sp_in J F fi la c room lf sl u k) (hb : b < J) (hk : k < F) (hel : elg fi la lf k b) (hmin : ∀ j, j < J → elg fi la lf k j → la b ≤ la j) (h0 : 0 ≤ a) (h1 : a ≤ lf b) (h2 : a ≤ sl k) : sp_in J F fi la c room (up lf b (lf b - a)) (up sl k (sl k - a)) (put1 u b k a) k := by
  obtain ⟨ok, p2, p3, p4⟩ := P
  have hle : ∀ j, up lf b (lf b - a) j ≤ lf j := fun j => by
    by_cases e : j = b
    · rw [e, up_eq]; omega
    · rw [up_ne e]; exact Int.le_refl _
  refine ⟨put_ok ok hb hk (by have := ok.1 b k hb hk; omega) h1 h2 hel.2.1 hel.2.2, fun j k' hj k1 k2 => ?_, fun j k' hj hk' w1 w2 hs => ?_, fun j hj he i hi hu => ?_⟩
  · rw [put1_ne (by omega)]; exact p2 j k' hj k1 k2
  · have e1 : sm (k' + 1) (put1 u b k a j) = sm (k' + 1) (u j) := sm_congr (fun i hi => put1_ne (by omega))
    rw [e1] at hs
    have := p3 j k' hj hk' w1 w2 hs
    rw [up_ne (by omega)]
    exact ⟨this.1, fun i hi hne => this.2 i hi (by rwa [put1_ne (by omega)] at hne)⟩
  · have he0 : elg fi la lf k j := ⟨Int.lt_of_lt_of_le he.1 (hle j), he.2.1, he.2.2⟩
    by_cases e : i = b
    · rw [e]; exact hmin j hj he0
    · rw [put1_ne (by omega)] at hu
      exact p4 j hj he0 i hi hu
theorem sp_end {k : Nat} (P : sp_in J F fi la c room lf sl u k) (hk : k < F) (hx : sl k = 0 ∨ ∀ j, j < J → ¬ elg fi la lf k j) : edfTo J fi la c sl u (k + 1) := by
  obtain ⟨ok, p2, p3, p4⟩ := P
  intro j k' hj hk' w1 w2 hs
  by_cases e : k' = k
  · subst e
    have o3 := ok.2.2.1 j hj
    have e1 : sm F (u j) = sm (k' + 1) (u j) := sm_tail (fun i a b => p2 j i hj (by omega) b) (by omega)
    have hel : elg fi la lf k' j := ⟨by omega, w1, w2⟩
    rcases hx with hx | hx
    · exact ⟨hx, p4 j hj hel⟩
    · exact absurd hel (hx j hj)
  · exact p3 j k' hj (by omega) w1 w2 hs
theorem ecnt_nn (k : Nat) : 0 ≤ ecnt J fi la lf k := sm_nn (fun j _ => by (try dsimp only); split <;> omega)
theorem ecnt_le (k : Nat) : ecnt J fi la lf k ≤ J := by
  have key : ∀ n : Nat, sm n (fun j => if 0 < lf j ∧ fi j ≤ (k : Int) ∧ (k : Int) ≤ la j then (1 : Int) else 0) ≤ n := by
    intro n
    induction n with
    | zero => exact Int.le_refl _
    | succ n ih =>
      rw [sm_s]
      split <;> omega
  exact key J
theorem ecnt_0 {k : Nat} (hz : ecnt J fi la lf k ≤ 0) {j : Nat} (hj : j < J) : ¬ elg fi la lf k j := by
  intro he
  have h0 := ecnt_nn (J := J) (fi := fi) (la := la) (lf := lf) k
  have := sm_z (n := J) (f := fun j => if 0 < lf j ∧ fi j ≤ (k : Int) ∧ (k : Int) ≤ la j then (1 : Int) else 0) (fun j _ => by (try dsimp only); split <;> omega) (by unfold ecnt at h0 hz; omega) hj
  try dsimp only at this
  rw [if_pos ⟨he.1, he.2.1, he.2.2⟩] at this
  omega
theorem ecnt_up {k b : Nat} (hb : b < J) (hel : elg fi la lf k b) : ecnt J fi la (up lf b 0) k = ecnt J fi la lf k - 1 := by
  unfold ecnt
  have := sm_up (n := J) (f := fun j => if 0 < lf j ∧ fi j ≤ (k : Int) ∧ (k : Int) ≤ la j then (1 : Int) else 0) (g := fun j => if 0 < up lf b 0 j ∧ fi j ≤ (k : Int) ∧ (k : Int) ≤ la j then (1 : Int) else 0) hb (fun j _ hne => by (try dsimp only); rw [up_ne hne])
  rw [this]
  try dsimp only
  rw [up_eq, if_neg (by omega), if_pos ⟨hel.1, hel.2.1, hel.2.2⟩]
  omega
theorem s_spreadIn_4 {f k : Nat} (hk : k < F) : ∀ (d n : Nat) (h : jm_H) (lf sl : Nat → Int) (u : Nat → Nat → Int) (s : Int), FS h f J F room fi la c → FD h f J F lf sl u → sp_in J F fi la c room lf sl u k → n + d = J → (sl k = 0 ∨ n + ecnt J fi la lf k ≤ J) →
    ∃ h' lf' sl' u', l_Flow_spreadIn_4 f (zI k) (zI s) (zI n) h (some (jm_i (zI (s + (sl k - sl' k)))), h') ∧ Ch (cD f) h h' ∧ FD h' f J F lf' sl' u' ∧ sp_in J F fi la c room lf' sl' u' k ∧ (sl' k = 0 ∨ ∀ j, j < J → ¬ elg fi la lf' k j) ∧ (∀ k', k' ≠ k → sl' k' = sl k') := by
  intro d
  induction d with
  | zero =>
    intro n h lf sl u s S D P e hx
    have hJ := S.1
    have h6 := S.2.2.2.2.2.1
    refine ⟨h, lf, sl, u, wp_Flow_spreadIn_4 ⟨fun _ => ?_, fun hc => ?_⟩, Ch.rf h, D, P, ?_, fun _ _ => rfl⟩
    · rw [show s + (sl k - sl k) = s by omega]
    · rw [h6, zI_le (by omega) (by omega) (by omega) (by omega)] at hc; omega
    · rcases hx with hx | hx
      · exact Or.inl hx
      · exact Or.inr (fun j hj => ecnt_0 (by omega) hj)
  | succ d ih =>
    intro n h lf sl u s S D P e hx
    have hJ := S.1
    have hF := S.2.1
    have hro := S.2.2.1
    have h6 := S.2.2.2.2.2.1
    have hi : jm_in (zI (k : Int)) 24 := zI_in (by omega) (by omega) (by omega)
    have okS := P.1.2.2.2 k hk
    have e1 : h.1 19 f (zI (k : Int)).toNatClampNeg = zI (sl k) := by rw [zI_cn (by omega)]; exact D.2.1 k hk
    have slB : 0 ≤ sl k ∧ sl k ≤ 100 := by
      have : 0 ≤ sm J (fun j => u j k) := sm_nn (fun j hj => P.1.1 j k hj hk)
      omega
    by_cases hs0 : sl k = 0
    · refine ⟨h, lf, sl, u, wp_Flow_spreadIn_4 ⟨fun hc => ?_, fun _ => ⟨hi, fun _ => ?_, fun hc => ?_⟩⟩, Ch.rf h, D, P, Or.inl hs0, fun _ _ => rfl⟩
      · rw [h6, zI_le (by omega) (by omega) (by omega) (by omega)] at hc; omega
      · rw [show s + (sl k - sl k) = s by omega]
      · rw [e1, zl_0, zI_le (by omega) (by omega) (by omega) (by omega)] at hc; omega
    · have B : lfB J lf := fun j hj => by
        have a := P.1.2.2.1 j hj
        have b := (S.2.2.2.2.2.2.2.2 j hj).2
        have : 0 ≤ sm F (u j) := sm_nn (fun k' hk' => P.1.1 j k' hj hk')
        omega
      obtain ⟨b, g1, g2⟩ := s_mostUrgent S D B hk
      rcases g1 with ⟨q1, q2⟩ | ⟨q1, q2, q3, q4⟩
      · refine ⟨h, lf, sl, u, wp_Flow_spreadIn_4 ⟨fun hc => ?_, fun _ => ⟨hi, fun hc => ?_, fun hc => ⟨_, h, g2, fun hc2 => ?_, fun _ => ?_⟩⟩⟩, Ch.rf h, D, P, Or.inr q2, fun _ _ => rfl⟩
        · rw [h6, zI_le (by omega) (by omega) (by omega) (by omega)] at hc; omega
        · rw [show s + (sl k - sl k) = s by omega]
        · rw [zl_0, zI_le (by omega) (by omega) (by omega) (by omega)] at hc2; omega
        · rw [show s + (sl k - sl k) = s by omega]
      · obtain ⟨b, rfl⟩ : ∃ b' : Nat, b = (b' : Int) := ⟨b.toNat, by omega⟩
        rw [Int.toNat_natCast] at q3 q4
        have hbJ : b < J := by omega
        have lB := B b hbJ
        -- the amount
        obtain ⟨a, ha⟩ : ∃ a : Int, a = if sl k < lf b then sl k else lf b := ⟨_, rfl⟩
        have a1 : 0 < a ∧ a ≤ lf b ∧ a ≤ sl k := by
          have := q3.1
          split at ha <;> omega
        obtain ⟨h2, p1, p2, p3⟩ := s_put S D hbJ hk a
        have P2 := sp_step P hbJ hk q3 q4 (by omega) a1.2.1 a1.2.2
        have hx2 : up sl k (sl k - a) k = 0 ∨ ((n + 1 : Nat) : Int) + ecnt J fi la (up lf b (lf b - a)) k ≤ J := by
          rw [up_eq]
          by_cases hz : sl k - a = 0
          · exact Or.inl hz
          · right
            have : lf b - a = 0 := by split at ha <;> omega
            rw [this, ecnt_up hbJ q3]
            omega
        obtain ⟨h', lf', sl', u', r1, r2, r3, r4, r5, r6⟩ := ih (n + 1) h2 _ _ _ (s + a) (S.ch p2) p3 P2 (by omega) hx2
        have e2 : h.1 18 f (zI (b : Int)).toNatClampNeg = zI (lf b) := by rw [zI_cn (by omega)]; exact D.1 b hbJ
        have eam : (if (h.1 19 f (zI (k : Int)).toNatClampNeg) < (h.1 18 f (zI (b : Int)).toNatClampNeg) then (h.1 19 f (zI (k : Int)).toNatClampNeg) else (h.1 18 f (zI (b : Int)).toNatClampNeg)) = zI a := by
          rw [e1, e2, ha]
          by_cases hlt : sl k < lf b
          · rw [if_pos ((zI_lt (by omega) (by omega) (by omega) (by omega)).mpr hlt), if_pos hlt]
          · rw [if_neg (fun x => hlt ((zI_lt (by omega) (by omega) (by omega) (by omega)).mp x)), if_neg hlt]
        refine ⟨h', lf', sl', u', wp_Flow_spreadIn_4 ⟨fun hc => ?_, fun _ => ⟨hi, fun hc => ?_, fun hc => ⟨_, h, g2, fun _ => ⟨zI_in (by omega) (by omega) (by omega), hi, h2, ?_, ?_⟩, fun hc2 => ?_⟩⟩⟩, p2.tr r2, r3, r4, r5, fun k' hne => ?_⟩
        · rw [h6, zI_le (by omega) (by omega) (by omega) (by omega)] at hc; omega
        · rw [e1, zl_0, zI_le (by omega) (by omega) (by omega) (by omega)] at hc; omega
        · rw [eam]; exact p1
        · rw [eam, zI_add, zl_1, zI_add]
          rw [up_eq] at r1
          rw [show s + (sl k - sl' k) = s + a + (sl k - a - sl' k) by omega]
          exact r1
        · rw [zl_0, zI_le (by omega) (by omega) (by omega) (by omega)] at hc2; omega
        · rw [r6 k' hne, up_ne hne]
theorem s_spread_6 {f : Nat} : ∀ (d k : Nat) (h : jm_H) (lf sl : Nat → Int) (u : Nat → Nat → Int) (s : Int), FS h f J F room fi la c → FD h f J F lf sl u → fl_ok J F fi la c room lf sl u → (∀ j k', j < J → k ≤ k' → k' < F → u j k' = 0) → edfTo J fi la c sl u k → k + d = F → s = sm k (fun k' => room - sl k') →
    ∃ h' lf' sl' u', l_Flow_spread_6 f (zI s) (zI k) h (some (jm_i (zI (sm F (fun k' => room - sl' k')))), h') ∧ Ch (cD f) h h' ∧ FD h' f J F lf' sl' u' ∧ fl_ok J F fi la c room lf' sl' u' ∧ edfTo J fi la c sl' u' F := by
  intro d
  induction d with
  | zero =>
    intro k h lf sl u s S D ok hz he e hs
    have hF := S.2.1
    have h5 := S.2.2.2.2.1
    refine ⟨h, lf, sl, u, wp_Flow_spread_6 ⟨fun _ => ?_, fun hc => ?_⟩, Ch.rf h, D, ok, by rwa [show F = k by omega]⟩
    · rw [hs, show F = k by omega]
    · rw [h5, zI_le (by omega) (by omega) (by omega) (by omega)] at hc; omega
  | succ d ih =>
    intro k h lf sl u s S D ok hz he e hs
    have hF := S.2.1
    have h5 := S.2.2.2.2.1
    have hk : k < F := by omega
    have P : sp_in J F fi la c room lf sl u k := ⟨ok, fun j k' hj a b => hz j k' hj (by omega) b, he, fun j hj _ i hi hu => absurd (hz i k hi (by omega) hk) hu⟩
    obtain ⟨h1, lf1, sl1, u1, r1, r2, r3, r4, r5, r6⟩ := s_spreadIn_4 (f := f) hk J 0 h lf sl u 0 S D P (by omega) (Or.inr (by have := ecnt_le (J := J) (fi := fi) (la := la) (lf := lf) k; omega))
    have he1 := sp_end r4 hk r5
    have hroom : room = sl k := by
      have := (ok.2.2.2 k hk).2
      rw [sm_zero (fun j hj => hz j k hj (by omega) hk)] at this
      omega
    obtain ⟨h', lf', sl', u', q1, q2, q3, q4, q5⟩ := ih (k + 1) h1 lf1 sl1 u1 (s + (0 + (sl k - sl1 k))) (S.ch r2) r3 r4.1 (fun j k' hj a b => r4.2.1 j k' hj (by omega) b) he1 (by omega) (by
      rw [sm_s, hs, sm_congr (f := fun k' => room - sl k') (g := fun k' => room - sl1 k') (fun i hi => by (try dsimp only); rw [r6 i (by omega)])]
      omega)
    refine ⟨h', lf', sl', u', wp_Flow_spread_6 ⟨fun hc => ?_, fun _ => ⟨_, h1, wp_Flow_spreadIn r1, ?_⟩⟩, r2.tr q2, q3, q4, q5⟩
    · rw [h5, zI_le (by omega) (by omega) (by omega) (by omega)] at hc; omega
    · rw [zI_add, zl_1, zI_add]
      exact q1
/-- what spread answers and leaves -/
theorem s_spread {f : Nat} {h : jm_H} (S : FS h f J F room fi la c) : ∃ h' lf sl u, m_Flow_spread f h (zI (sm J c - sm J lf)) h' ∧ Ch (cD f) h h' ∧ FD h' f J F lf sl u ∧ fl_ok J F fi la c room lf sl u ∧ fl_edf J F fi la c sl u := by
  obtain ⟨h1, e1, e2, e3⟩ := s_empty S
  have ok0 : fl_ok J F fi la c room c (fun _ => room) (fun _ _ => 0) := ⟨fun _ _ _ _ => Int.le_refl _, fun _ _ _ _ hn => absurd rfl hn, fun j hj => ⟨(S.2.2.2.2.2.2.2.2 j hj).2.1, by rw [sm_zero (fun _ _ => rfl)]; omega⟩, fun k hk => ⟨S.2.2.1.1, by rw [sm_zero (fun _ _ => rfl)]; exact (Int.add_zero _).symm⟩⟩
  obtain ⟨h', lf, sl, u, q1, q2, q3, q4, q5⟩ := s_spread_6 F 0 h1 c (fun _ => room) (fun _ _ => 0) 0 (S.ch e2) e3 ok0 (fun _ _ _ _ _ => rfl) (fun j k' _ hk' => by omega) (by omega) rfl
  have et : sm F (fun k' => room - sl k') = sm J c - sm J lf := by
    have a1 : sm F (fun k' => room - sl k') = sm F (fun k' => sm J (fun j => u j k')) := sm_congr (fun k hk => by have := (q4.2.2.2 k hk).2; (try dsimp only); omega)
    have a2 : sm J (fun j => sm F (fun k => u j k)) = sm J c - sm J lf := by
      rw [← sm_sub]
      exact sm_congr (fun j hj => by have := (q4.2.2.1 j hj).2; show sm F (u j) = c j - lf j; omega)
    rw [a1, ← sm_swap J F, a2]
  refine ⟨h', lf, sl, u, ?_, e2.tr q2, q3, q4, fun j k hj hk w1 w2 hs => q5 j k hj hk w1 w2 hs⟩
  rw [← et]
  exact wp_Flow_spread ⟨h1, e1, q1⟩
end SPR2
