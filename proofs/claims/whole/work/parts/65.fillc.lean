/-! ===== the class fills ===== -/
section FILLC
variable {h : jm_H} {f J F : Nat} {room : Int} {fi la c : Nat → Int} {lf sl : Nat → Int} {u : Nat → Nat → Int}
theorem s_cl_6 (S : FS h f J F room fi la c) {j a b : Nat} (ha : a ≤ 30) (hb : b ≤ 30) : ∀ (e n : Nat) (s : Int), n + e = J → j < n → l_Table_costsOfLater_6 f (zI a) (zI b) (zI s) (zI n) h (some (jm_i (zI (s + (dgL J fi la c j a b - sm n (fun i => if j < i ∧ (a : Int) ≤ fi i ∧ la i = b then c i else 0))))), h) := by
  obtain ⟨s1, s2, s3, s4, s5, s6, s7, s8, s9⟩ := S
  intro e
  induction e with
  | zero =>
    intro n s en hjn
    refine wp_Table_costsOfLater_6 ⟨fun _ => ?_, fun hc => ?_⟩
    · unfold dgL
      rw [show n = J by omega, Int.sub_self, Int.add_zero]
    · rw [s6, zI_le (by omega) (by omega) (by omega) (by omega)] at hc; omega
  | succ e ih =>
    intro n s en hjn
    have hn : n < J := by omega
    have hi : jm_in (zI (n : Int)) 24 := zI_in (by omega) (by omega) (by omega)
    have b1 := s7 n hn
    have b2 := s8 n hn
    have b3 := s9 n hn
    have e1 : h.1 16 f (zI (n : Int)).toNatClampNeg = zI (fi n) := by rw [zI_cn (by omega)]; exact b1.1
    have e2 : h.1 17 f (zI (n : Int)).toNatClampNeg = zI (la n) := by rw [zI_cn (by omega)]; exact b2.1
    have e3 : h.1 15 f (zI (n : Int)).toNatClampNeg = zI (c n) := by rw [zI_cn (by omega)]; exact b3.1
    have g := ih (n + 1) (s + (if j < n ∧ (a : Int) ≤ fi n ∧ la n = b then c n else 0)) (by omega) (by omega)
    rw [sm_s, show ∀ x y z : Int, s + x + (y - (z + x)) = s + (y - z) from fun x y z => by omega] at g
    refine wp_Table_costsOfLater_6 ⟨fun hc => ?_, fun _ => ⟨hi, fun hc => ?_, fun hc => ⟨hi, fun hc2 => ⟨hi, ?_⟩, fun hc2 => ?_⟩⟩⟩
    · rw [s6, zI_le (by omega) (by omega) (by omega) (by omega)] at hc; omega
    · rw [e1, zI_lt (by omega) (by omega) (by omega) (by omega)] at hc
      rw [if_neg (by omega), Int.add_zero] at g
      rw [zl_1, zI_add]; exact g
    · rw [e1, zI_lt (by omega) (by omega) (by omega) (by omega)] at hc
      rw [e2, zI_eq (by omega) (by omega) (by omega) (by omega)] at hc2
      rw [if_pos (by omega)] at g
      rw [e3, zI_add, zl_1, zI_add]; exact g
    · rw [e2, zI_eq (by omega) (by omega) (by omega) (by omega)] at hc2
      rw [if_neg (by omega), Int.add_zero] at g
      rw [zl_1, zI_add]; exact g
theorem s_costsOfLater (S : FS h f J F room fi la c) {j a b : Nat} (hj : j < J) (ha : a ≤ 30) (hb : b ≤ 30) : m_Table_costsOfLater f (zI j) (zI a) (zI b) h (zI (dgL J fi la c j a b)) h := by
  have := s_cl_6 S (j := j) ha hb (J - (j + 1)) (j + 1) 0 (by omega) (by omega)
  rw [sm_zero (fun i hi => if_neg (by omega)), Int.sub_zero, Int.zero_add] at this
  refine wp_Table_costsOfLater ?_
  rw [zl_1, zI_add]
  exact this
theorem sg_bd {sl : Nat → Int} (hs : ∀ k, k < F → 0 ≤ sl k ∧ sl k ≤ 100) (hF : F ≤ 24) {a n : Nat} (h1 : a ≤ n) (h2 : n ≤ F) : 0 ≤ sg sl a n ∧ sg sl a n ≤ 2400 := by
  have h3 := sg_nn (fun k hk => (hs k hk).1) h1 h2
  have h4 := sm_bd (n := n) (f := sl) (B := 100) (fun i hi => hs i (by omega))
  have h5 := sm_bd (n := a) (f := sl) (B := 100) (fun i hi => hs i (by omega))
  unfold sg at h3 ⊢
  omega
theorem s_ll_6 (hw : WN J F fi la c room) (S : FS h f J F room fi la c) (D : FD h f J F lf sl u) (hs : ∀ k, k < F → 0 ≤ sl k ∧ sl k ≤ 100) {j a k : Nat} (hj : j < J) (hak : a ≤ k) (hk : k ≤ 100) : ∀ (e n : Nat) (v : Int), (n : Int) + e = la j → a ≤ n → -100000 ≤ v → v ≤ 1000000 → (∀ n', k < n' → n' ≤ n → v ≤ sg sl a n' - ltN J fi la c j a n') → (v = 1000000 ∨ ∃ n', k < n' ∧ n' ≤ n ∧ v = sg sl a n' - ltN J fi la c j a n') →
    ∃ v', l_Table_leastLeft_6 f (zI j) (zI a) (zI k) (zI v) (zI (sg sl a n - ltN J fi la c j a n)) (zI n) h (some (jm_i (zI v')), h) ∧ (-100000 ≤ v' ∧ v' ≤ 1000000) ∧ (∀ n' : Nat, k < n' → (n' : Int) ≤ la j → v' ≤ sg sl a n' - ltN J fi la c j a n') ∧ (v' = 1000000 ∨ ∃ n' : Nat, k < n' ∧ (n' : Int) ≤ la j ∧ v' = sg sl a n' - ltN J fi la c j a n') := by
  have s1 := S.1
  have s2 := S.2.1
  have s8 := S.2.2.2.2.2.2.2.1 j hj
  have hi : jm_in (zI (j : Int)) 24 := zI_in (by omega) (by omega) (by omega)
  have ela : h.1 17 f (zI (j : Int)).toNatClampNeg = zI (la j) := by rw [zI_cn (by omega)]; exact s8.1
  intro e
  induction e with
  | zero =>
    intro n v en han v0 v1 hv hve
    refine ⟨v, wp_Table_leastLeft_6 ⟨hi, fun _ => rfl, fun hc => ?_⟩, ⟨v0, v1⟩, fun n' a1 a2 => hv n' a1 (by omega), ?_⟩
    · rw [ela, zI_le (by omega) (by omega) (by omega) (by omega)] at hc; omega
    · rcases hve with x | ⟨n', a1, a2, a3⟩
      · exact Or.inl x
      · exact Or.inr ⟨n', a1, by omega, a3⟩
  | succ e ih =>
    intro n v en han v0 v1 hv hve
    have hnF : n < F := by omega
    have gb := sg_bd hs s2 (a := a) (n := n + 1) (by omega) (by omega)
    have lb := ltN_bd hw j a (n + 1)
    have lb0 := ltN_nn hw j a (n + 1)
    have gb' := sg_bd hs s2 (a := a) (n := n) (by omega) (by omega)
    have lb' := ltN_bd hw j a n
    have lb0' := ltN_nn hw j a n
    have hsum : sg sl a (n + 1) - ltN J fi la c j a (n + 1) = sg sl a n - ltN J fi la c j a n + (sl n - dgL J fi la c j a n) := by rw [sg_s, ltN_s]; omega
    have ev : zI (sg sl a n - ltN J fi la c j a n) + (h.1 19 f (zI (n : Int)).toNatClampNeg - zI (dgL J fi la c j a n)) = zI (sg sl a (n + 1) - ltN J fi la c j a (n + 1)) := by
      rw [zI_cn (by omega), D.2.1 n hnF, zI_sub, zI_add, hsum]
    have hcl := s_costsOfLater S hj (a := a) (b := n) (by omega) (by omega)
    by_cases hnk : n < k
    · obtain ⟨v', r1, r2, r3, r4⟩ := ih (n + 1) v (by omega) (by omega) v0 v1 (fun n' a1 a2 => hv n' a1 (by omega)) (by
        rcases hve with x | ⟨n', a1, a2, a3⟩
        · exact Or.inl x
        · exact Or.inr ⟨n', a1, by omega, a3⟩)
      refine ⟨v', wp_Table_leastLeft_6 ⟨hi, fun hc => ?_, fun _ => ⟨zI_in (by omega) (by omega) (by omega), _, h, hcl, fun _ => ?_, fun hc => ?_⟩⟩, r2, r3, r4⟩
      · rw [ela, zI_le (by omega) (by omega) (by omega) (by omega)] at hc; omega
      · rw [ev, zl_1, zI_add]; exact r1
      · rw [zI_lt (by omega) (by omega) (by omega) (by omega)] at hc; omega
    · obtain ⟨x, ex⟩ : ∃ x, x = sg sl a (n + 1) - ltN J fi la c j a (n + 1) := ⟨_, rfl⟩
      obtain ⟨v', r1, r2, r3, r4⟩ := ih (n + 1) (if x < v then x else v) (by omega) (by omega) (by split <;> omega) (by split <;> omega) (fun n' a1 a2 => by
        by_cases e2 : n' = n + 1
        · rw [e2, ← ex]; split <;> omega
        · have := hv n' a1 (by omega); split <;> omega) (by
        by_cases hx : x < v
        · rw [if_pos hx]; exact Or.inr ⟨n + 1, by omega, Nat.le_refl _, ex⟩
        · rw [if_neg hx]
          rcases hve with x | ⟨n', a1, a2, a3⟩
          · exact Or.inl x
          · exact Or.inr ⟨n', a1, by omega, a3⟩)
      refine ⟨v', wp_Table_leastLeft_6 ⟨hi, fun hc => ?_, fun _ => ⟨zI_in (by omega) (by omega) (by omega), _, h, hcl, fun hc => ?_, fun _ => ?_⟩⟩, r2, r3, r4⟩
      · rw [ela, zI_le (by omega) (by omega) (by omega) (by omega)] at hc; omega
      · rw [zI_lt (by omega) (by omega) (by omega) (by omega)] at hc; omega
      · rw [ev, ← ex, zl_1, zI_add]
        rw [← ex] at r1
        have : (if zI x < zI v then zI x else zI v) = zI (if x < v then x else v) := by
          by_cases hx : x < v
          · rw [if_pos hx, if_pos ((zI_lt (by omega) (by omega) (by omega) (by omega)).mpr hx)]
          · rw [if_neg hx, if_neg (fun y => hx ((zI_lt (by omega) (by omega) (by omega) (by omega)).mp y))]
        rw [this]; exact r1
theorem s_leastLeft (hw : WN J F fi la c room) (S : FS h f J F room fi la c) (D : FD h f J F lf sl u) (hs : ∀ k, k < F → 0 ≤ sl k ∧ sl k ≤ 100) {j a k : Nat} (hj : j < J) (hak : a ≤ k) (hkl : (k : Int) ≤ la j) : ∃ v', m_Table_leastLeft f (zI j) (zI a) (zI k) h (zI v') h ∧ (-100000 ≤ v' ∧ v' ≤ 1000000) ∧ (∀ n' : Nat, k < n' → (n' : Int) ≤ la j → v' ≤ sg sl a n' - ltN J fi la c j a n') ∧ (v' = 1000000 ∨ ∃ n' : Nat, k < n' ∧ (n' : Int) ≤ la j ∧ v' = sg sl a n' - ltN J fi la c j a n') := by
  obtain ⟨v', r1, r2, r3, r4⟩ := s_ll_6 hw S D hs hj hak (by have := hw.2.2.1 j hj; have := hw.1; omega) (la j - a).toNat a 1000000 (by omega) (Nat.le_refl _) (by omega) (by omega) (fun n' a1 a2 => by omega) (Or.inl rfl)
  refine ⟨v', wp_Table_leastLeft ?_, r2, r3, r4⟩
  rw [ltN_0 hw j (Nat.le_refl _), show sg sl a a = 0 from Int.sub_self _] at r1
  exact r1
theorem s_mi_18 (hw : WN J F fi la c room) (S : FS h f J F room fi la c) (D : FD h f J F lf sl u) (hs : ∀ k, k < F → 0 ≤ sl k ∧ sl k ≤ 100) {j k : Nat} {rest : Int} (hj : j < J) (hkl : (k : Int) ≤ la j) (r0 : 0 ≤ rest ∧ rest ≤ 60) (hb : ∀ a n, inR fi la j k a n → 0 ≤ sg sl a n - ltN J fi la c j a n) : ∀ (e a : Nat) (x : Int), a + e = k + 1 → fi j ≤ a → 0 ≤ x → x ≤ rest → x ≤ sl k → (∀ a' n, inR fi la j k a' n → a' < a → x ≤ sg sl a' n - ltN J fi la c j a' n) → (x = rest ∨ x = sl k ∨ ∃ a' n, inR fi la j k a' n ∧ x = sg sl a' n - ltN J fi la c j a' n) →
    ∃ y, l_Table_mostIn_18 f (zI j) (zI k) (zI x) (zI a) h (some (jm_i (zI y)), h) ∧ isAmt J fi la c j k rest sl y := by
  have s1 := S.1
  have s2 := S.2.1
  have wj := hw.2.2.1 j hj
  have e0 : ∀ x : Int, 0 ≤ x → x ≤ 60 → (if (0 : Int32) < zI x then zI x else 0) = zI x := by
    intro x x0 x1
    by_cases hx : 0 < x
    · rw [if_pos (by rw [zl_0, zI_lt (by omega) (by omega) (by omega) (by omega)]; exact hx)]
    · rw [show x = 0 by omega]; rfl
  intro e
  induction e with
  | zero =>
    intro a x ea hfa x0 x1 x2 hx hxe
    refine ⟨x, wp_Table_mostIn_18 ⟨fun _ => ?_, fun hc => ?_⟩, ⟨x1, x2, fun a' n hr => hx a' n hr (by have := hr.2.1; omega)⟩, hxe⟩
    · rw [e0 x x0 (by omega)]
    · rw [zI_lt (by omega) (by omega) (by omega) (by omega)] at hc; omega
  | succ e ih =>
    intro a x ea hfa x0 x1 x2 hx hxe
    by_cases hz : x ≤ 0
    · have ez : x = 0 := by omega
      refine ⟨x, wp_Table_mostIn_18 ⟨fun _ => ?_, fun _ => ⟨fun _ => ?_, fun hc => ?_⟩⟩, ⟨x1, x2, fun a' n hr => by have := hb a' n hr; omega⟩, hxe⟩
      · rw [e0 x x0 (by omega)]
      · rw [e0 x x0 (by omega)]
      · rw [zl_0, zI_le (by omega) (by omega) (by omega) (by omega)] at hc; omega
    · obtain ⟨v, q1, q2, q3, q4⟩ := s_leastLeft hw S D hs hj (a := a) (k := k) (by omega) hkl
      obtain ⟨y, r1, r2⟩ := ih (a + 1) (if v < x then v else x) (by omega) (by omega) (by
          split
          · rcases q4 with q4 | ⟨n', a1, a2, a3⟩
            · omega
            · have := hb a n' ⟨hfa, by omega, a1, a2⟩; omega
          · exact x0) (by split <;> omega) (by split <;> omega) (fun a' n hr hlt => by
          by_cases e2 : a' = a
          · subst e2
            have := q3 n hr.2.2.1 hr.2.2.2
            split <;> omega
          · have := hx a' n hr (by omega)
            split <;> omega) (by
          by_cases hv : v < x
          · rw [if_pos hv]
            rcases q4 with q4 | ⟨n', a1, a2, a3⟩
            · omega
            · exact Or.inr (Or.inr ⟨a, n', ⟨hfa, by omega, a1, a2⟩, a3⟩)
          · rw [if_neg hv]; exact hxe)
      refine ⟨y, wp_Table_mostIn_18 ⟨fun hc => ?_, fun _ => ⟨fun hc => ?_, fun _ => ⟨zI v, h, q1, ?_⟩⟩⟩, r2⟩
      · rw [zI_lt (by omega) (by omega) (by omega) (by omega)] at hc; omega
      · rw [zl_0, zI_le (by omega) (by omega) (by omega) (by omega)] at hc; omega
      · have : (if zI v < zI x then zI v else zI x) = zI (if v < x then v else x) := by
          by_cases hv : v < x
          · rw [if_pos hv, if_pos ((zI_lt (by omega) (by omega) (by omega) (by omega)).mpr hv)]
          · rw [if_neg hv, if_neg (fun y => hv ((zI_lt (by omega) (by omega) (by omega) (by omega)).mp y))]
        rw [this, zl_1, zI_add]; exact r1
theorem s_mostIn (hw : WN J F fi la c room) (S : FS h f J F room fi la c) (D : FD h f J F lf sl u) (hs : ∀ k, k < F → 0 ≤ sl k ∧ sl k ≤ 100) {j k : Nat} (hj : j < J) (hfk : fi j ≤ k) (hkl : (k : Int) ≤ la j) (r0 : 0 ≤ lf j ∧ lf j ≤ 60) (hb : ∀ a n, inR fi la j k a n → 0 ≤ sg sl a n - ltN J fi la c j a n) : ∃ y, m_Table_mostIn f (zI j) (zI k) h (zI y) h ∧ isAmt J fi la c j k (lf j) sl y := by
  have s1 := S.1
  have s2 := S.2.1
  have wj := hw.2.2.1 j hj
  have hskk := hs k (by omega)
  have s7 := S.2.2.2.2.2.2.1 j hj
  obtain ⟨a, ea⟩ : ∃ a : Nat, fi j = (a : Int) := ⟨(fi j).toNat, by omega⟩
  obtain ⟨y, r1, r2⟩ := s_mi_18 hw S D hs hj hkl r0 hb (k + 1 - a) a (if sl k < lf j then sl k else lf j) (by omega) (by omega) (by split <;> omega) (by split <;> omega) (by split <;> omega) (fun a' n hr hlt => by have := hr.1; omega) (by
    by_cases hv : sl k < lf j
    · rw [if_pos hv]; exact Or.inr (Or.inl rfl)
    · rw [if_neg hv]; exact Or.inl rfl)
  have hi : jm_in (zI (j : Int)) 24 := zI_in (by omega) (by omega) (by omega)
  refine ⟨y, wp_Table_mostIn ⟨hi, zI_in (by omega) (by omega) (by omega), hi, ?_⟩, r2⟩
  rw [zI_cn (by omega), zI_cn (by omega), D.2.1 k (by omega), D.1 j hj, s7.1, ea]
  have : (if zI (sl k) < zI (lf j) then zI (sl k) else zI (lf j)) = zI (if sl k < lf j then sl k else lf j) := by
    by_cases hv : sl k < lf j
    · rw [if_pos hv, if_pos ((zI_lt (by omega) (by omega) (by omega) (by omega)).mpr hv)]
    · rw [if_neg hv, if_neg (fun y => hv ((zI_lt (by omega) (by omega) (by omega) (by omega)).mp y))]
  rw [this]; exact r1
theorem slB {s : FSt} {lf : Nat → Int} (hw : WN J F fi la c room) (ok : fl_ok J F fi la c room lf s.1 s.2) : ∀ k, k < F → 0 ≤ s.1 k ∧ s.1 k ≤ 100 := fun k hk => by
  have a := ok.2.2.2 k hk
  have : 0 ≤ sm J (fun j => s.2 j k) := sm_nn (fun j hj => ok.1 j k hj hk)
  have := hw.2.1
  omega
theorem s_fill_16 (hw : WN J F fi la c room) {j : Nat} (hj : j < J) : ∀ (e k : Nat) (h : jm_H) (s : Int × FSt), (k : Int) + e = la j + 1 → fi j ≤ k → FS h f J F room fi la c → FD h f J F (up (lfJ c j) j s.1) s.2.1 s.2.2 → fin J F fi la c room j k s → ∃ h', FD h' f J F (lfJ c (j + 1)) (fiI J fi la c j e k s).2.1 (fiI J fi la c j e k s).2.2 ∧ fout J F fi la c room (j + 1) (fiI J fi la c j e k s).2 ∧ Ch (cD f) h h' ∧ ∀ r, l_Table_fill_5 f (zI j + 1) h' r → l_Table_fill_16 f (zI j) (zI k) h r := by
  have wj := hw.2.2.1 j hj
  have hJ := hw.1
  have hi : jm_in (zI (j : Int)) 24 := zI_in (by omega) (by omega) (by omega)
  intro e
  induction e with
  | zero =>
    intro k h s ek hfk S D P
    have s8 := S.2.2.2.2.2.2.2.1 j hj
    obtain ⟨z, o⟩ := fin_out hw hj P (by omega)
    refine ⟨h, ⟨fun i hi => ?_, D.2.1, D.2.2⟩, o, Ch.rf h, fun r hr => wp_Table_fill_16 ⟨hi, fun _ => hr, fun hc => ?_⟩⟩
    · rw [D.1 i hi]
      unfold lfJ
      by_cases e : i = j
      · rw [e, up_eq, z, if_pos (by omega)]
      · rw [up_ne e]
        by_cases hij : i < j
        · rw [if_pos hij, if_pos (by omega)]
        · rw [if_neg hij, if_neg (by omega)]
    · rw [zI_cn (by omega), s8.1, zI_lt (by omega) (by omega) (by omega) (by omega)] at hc; omega
  | succ e ih =>
    intro k h s ek hfk S D P
    have s8 := S.2.2.2.2.2.2.2.1 j hj
    obtain ⟨x, x1, x2, x3, x4, x5, x6⟩ := fin_s hw hj P hfk (by omega)
    have hkF : k < F := by omega
    have hsB := slB hw P.1
    have hb : ∀ a n, inR fi la j k a n → 0 ≤ sg s.2.1 a n - ltN J fi la c j a n := fun a n hr => amt_b hw hj hkF x3.1 (fun k hk => (hsB k hk).1) P.2.1 hr
    have r0 : 0 ≤ (up (lfJ c j) j s.1) j ∧ (up (lfJ c j) j s.1) j ≤ 60 := by rw [up_eq]; exact x3
    obtain ⟨y, y1, y2⟩ := s_mostIn hw S D hsB hj hfk (by omega) r0 hb
    rw [up_eq] at y2
    have exy : y = x := isAmt.uq y2 x1
    subst exy
    obtain ⟨h2, p1, p2, p3⟩ := s_put S D hj hkF y
    have D2 : FD h2 f J F (up (lfJ c j) j (s.1 - y)) (up s.2.1 k (s.2.1 k - y)) (put1 s.2.2 j k y) := ⟨fun i hi => by
      rw [p3.1 i hi]
      by_cases e : i = j
      · rw [e, up_eq, up_eq, up_eq]
      · rw [up_ne e, up_ne e, up_ne e], p3.2.1, p3.2.2⟩
    obtain ⟨h', q1, q2, q3, q4⟩ := ih (k + 1) h2 (s.1 - y, up s.2.1 k (s.2.1 k - y), put1 s.2.2 j k y) (by omega) (by omega) (S.ch p2) D2 x6
    rw [fiI, x4]
    refine ⟨h', q1, q2, p2.tr q3, fun r hr => wp_Table_fill_16 ⟨hi, fun hc => ?_, fun _ => ⟨zI y, h, y1, h2, p1, ?_⟩⟩⟩
    · rw [zI_cn (by omega), s8.1, zI_lt (by omega) (by omega) (by omega) (by omega)] at hc; omega
    · rw [zl_1, zI_add]
      exact q4 r hr
theorem s_fill_5 (hw : WN J F fi la c room) : ∀ (e j : Nat) (h : jm_H) (s : FSt), j + e = J → FS h f J F room fi la c → FD h f J F (lfJ c j) s.1 s.2 → fout J F fi la c room j s → ∃ h', l_Table_fill_5 f (zI j) h (none, h') ∧ FD h' f J F (fun _ => 0) (fiO J fi la c e j s).1 (fiO J fi la c e j s).2 ∧ fout J F fi la c room J (fiO J fi la c e j s) ∧ Ch (cD f) h h' := by
  have hJ := hw.1
  intro e
  induction e with
  | zero =>
    intro j h s ej S D P
    have ej : j = J := by omega
    subst ej
    have s6 := S.2.2.2.2.2.1
    refine ⟨h, wp_Table_fill_5 ⟨fun _ => rfl, fun hc => ?_⟩, ⟨fun i hi => ?_, D.2.1, D.2.2⟩, P, Ch.rf h⟩
    · rw [s6, zI_le (by omega) (by omega) (by omega) (by omega)] at hc; omega
    · rw [D.1 i hi]
      unfold lfJ
      rw [if_pos hi]
  | succ e ih =>
    intro j h s ej S D P
    have hj : j < J := by omega
    have s6 := S.2.2.2.2.2.1
    have s7 := S.2.2.2.2.2.2.1 j hj
    have wj := hw.2.2.1 j hj
    obtain ⟨a, ea⟩ : ∃ a : Nat, fi j = (a : Int) := ⟨(fi j).toNat, by omega⟩
    have ea2 : (fi j).toNat = a := by omega
    have D2 : FD h f J F (up (lfJ c j) j (c j)) s.1 s.2 := ⟨fun i hi => by
      rw [D.1 i hi]
      by_cases e : i = j
      · rw [e, up_eq]
        unfold lfJ
        rw [if_neg (by omega)]
      · rw [up_ne e], D.2.1, D.2.2⟩
    obtain ⟨h1, q1, q2, q3, q4⟩ := s_fill_16 (f := f) hw hj (la j + 1 - fi j).toNat a h (c j, s) (by omega) (by omega) S D2 (fout_in hw hj P ea)
    obtain ⟨h', r1, r2, r3, r4⟩ := ih (j + 1) h1 (fiI J fi la c j (la j + 1 - fi j).toNat a (c j, s)).2 (by omega) (S.ch q3) q1 q2
    rw [fiO, ea2]
    refine ⟨h', wp_Table_fill_5 ⟨fun hc => ?_, fun _ => ⟨zI_in (by omega) (by omega) (by omega), ?_⟩⟩, r2, r3, q3.tr r4⟩
    · rw [s6, zI_le (by omega) (by omega) (by omega) (by omega)] at hc; omega
    · rw [zI_cn (by omega), s7.1, ea]
      refine q4 _ ?_
      rw [zl_1, zI_add]; exact r1
theorem fout_0 (hw : WN J F fi la c room) (H : Hj J F fi la c 0 (fun _ => room)) : fout J F fi la c room 0 (fun _ => room, fun _ _ => 0) := by
  refine ⟨⟨fun _ _ _ _ => Int.le_refl _, fun _ _ _ _ hn => absurd rfl hn, fun j hj => ?_, fun k hk => ⟨hw.2.1.1, ?_⟩⟩, H, fun _ _ _ _ _ => rfl, fun _ _ _ => rfl⟩
  · have := hw.2.2.1 j hj
    unfold lfJ
    rw [if_neg (by omega), sm_zero (fun _ _ => rfl)]
    omega
  · rw [sm_zero (fun _ _ => rfl)]; exact (Int.add_zero _).symm
theorem s_fill (hw : WN J F fi la c room) (H : Hj J F fi la c 0 (fun _ => room)) (S : FS h f J F room fi la c) : ∃ h', m_Table_fill f h h' ∧ FD h' f J F (fun _ => 0) (fillF J fi la c room).1 (fillF J fi la c room).2 ∧ fout J F fi la c room J (fillF J fi la c room) ∧ Ch (cD f) h h' := by
  obtain ⟨h1, e1, e2, e3⟩ := s_empty S
  obtain ⟨h', r1, r2, r3, r4⟩ := s_fill_5 (f := f) hw J 0 h1 (fun _ => room, fun _ _ => 0) (by omega) (S.ch e2) ⟨fun j hj => by rw [e3.1 j hj]; rfl, e3.2.1, e3.2.2⟩ (fout_0 hw H)
  exact ⟨h', wp_Table_fill ⟨h1, e1, r1⟩, r2, r3, e2.tr r4⟩
end FILLC
