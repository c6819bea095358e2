/-! ===== the greatest that fits ===== -/
theorem ovr_mono {J F : Nat} {fi la c c' : Nat → Int} {room room' : Int} (hc : ∀ j, j < J → c j ≤ c' j) (hr : room' ≤ room) (S : Nat → Bool) : ovr J F fi la c room S ≤ ovr J F fi la c' room' S := by
  unfold ovr
  have h1 : sm J (fun j => if bw fi la S j = true then c j else 0) ≤ sm J (fun j => if bw fi la S j = true then c' j else 0) := sm_le (fun j hj => by
    have := hc j hj
    (try dsimp only)
    split <;> omega)
  have h2 : sm F (fun k => if S k = true then room' else 0) ≤ sm F (fun k => if S k = true then room else 0) := sm_le (fun j hj => by
    (try dsimp only)
    split <;> omega)
  omega
theorem nowh_mono {J : Nat} {fi la c c' : Nat → Int} (hc : ∀ j, j < J → c j ≤ c' j) : nowh J fi la c ≤ nowh J fi la c' := sm_le (fun j hj => by
    have := hc j hj
    (try dsimp only)
    split <;> omega)
theorem ft_mono {J F : Nat} {fi la c c' : Nat → Int} {room room' : Int} (h0 : ∀ j, j < J → 0 ≤ c j) (hc : ∀ j, j < J → c j ≤ c' j) (hr : room' ≤ room) (h : isOv J F fi la c' room' 0) : isOv J F fi la c room 0 := by
  refine ⟨fun S => ?_, fun _ => false, ?_⟩
  · have := ovr_mono (F := F) (fi := fi) (la := la) hc hr S
    have := nowh_mono (fi := fi) (la := la) hc
    have := h.1 S
    omega
  · have := ovr_no (F := F) (fi := fi) (la := la) (room := room) h0 (S := fun _ => false) (fun _ => rfl)
    have h2 : 0 ≤ nowh J fi la c := sm_nn (fun j hj => by
      have := h0 j hj
      (try dsimp only)
      split <;> omega)
    omega
theorem isOv_cg {J F : Nat} {fi la c c' : Nat → Int} {room v : Int} (hc : ∀ j, j < J → c j = c' j) (h : isOv J F fi la c room v) : isOv J F fi la c' room v := by
  have e1 : ∀ S, ovr J F fi la c' room S = ovr J F fi la c room S := fun S => by
    unfold ovr
    rw [sm_congr (f := fun j => if bw fi la S j = true then c' j else 0) (g := fun j => if bw fi la S j = true then c j else 0) (fun j hj => by (try dsimp only); rw [hc j hj])]
  have e2 : nowh J fi la c' = nowh J fi la c := sm_congr (fun j hj => by (try dsimp only); rw [hc j hj])
  refine ⟨fun S => ?_, ?_⟩
  · rw [e1, e2]; exact h.1 S
  · obtain ⟨S, hS⟩ := h.2
    exact ⟨S, by rw [e1, e2]; exact hS⟩
/-- the greatest from 0 to N that has P; -2 if 0 hasn't -/
def isMx (P : Int → Prop) (N v : Int) : Prop := (v = -2 ∧ ¬ P 0) ∨ (0 ≤ v ∧ v ≤ N ∧ P v ∧ ∀ x, v < x → x ≤ N → ¬ P x)
def anti (P : Int → Prop) (N : Int) : Prop := ∀ x y, 0 ≤ x → x ≤ y → y ≤ N → P y → P x
theorem isMx.uq {P : Int → Prop} {N v v' : Int} (a : anti P N) (h : isMx P N v) (h' : isMx P N v') : v = v' := by
  rcases h with ⟨e, n⟩ | ⟨a1, a2, a3, a4⟩
  · rcases h' with ⟨e', n'⟩ | ⟨b1, b2, b3, b4⟩
    · omega
    · exact absurd (a 0 v' (by omega) b1 b2 b3) n
  · rcases h' with ⟨e', n'⟩ | ⟨b1, b2, b3, b4⟩
    · exact absurd (a 0 v (by omega) a1 a2 a3) n'
    · by_cases h1 : v < v'
      · exact absurd b3 (a4 v' h1 b2)
      · by_cases h2 : v' < v
        · exact absurd a3 (b4 v h2 a2)
        · omega
def bt2 : Nat → Int
  | 0 => 0
  | 1 => 1
  | k + 2 => 2 * bt2 (k + 1)
def ub2 : Nat → Int
  | 0 => 1
  | k + 1 => 2 * bt2 (k + 1)
theorem bt2_f : ∀ k, k < 6 → bt2 (k + 1) / 2 = bt2 k ∧ 1 ≤ bt2 (k + 1) ∧ bt2 (k + 1) ≤ 32 ∧ ub2 (k + 1) = 2 * bt2 (k + 1) ∧ bt2 (k + 1) = ub2 k := by decide
/-- costs with one task's changed -/
def hcx (d : MD) (t : Nat) (x : Int) (j : Nat) : Int := if md_jt d j = t then x else md_c d j
def offT (d : MD) (t : Nat) (c : Nat → Int) : Prop := ∀ j, j < md_jb d → md_jt d j ≠ t → c j = md_c d j
theorem hcx_off (d : MD) (t : Nat) (x : Int) : offT d t (hcx d t x) := fun j _ hne => if_neg hne
theorem FS.cg {h : jm_H} {f J F : Nat} {room : Int} {fi la c c' : Nat → Int} (S : FS h f J F room fi la c) (e : ∀ j, j < J → c j = c' j) : FS h f J F room fi la c' := by
  obtain ⟨s1, s2, s3, s4, s5, s6, s7, s8, s9⟩ := S
  exact ⟨s1, s2, s3, s4, s5, s6, s7, s8, fun j hj => by rw [← e j hj]; exact s9 j hj⟩
theorem FS.c15 {h : jm_H} {f J F : Nat} {room : Int} {fi la c : Nat → Int} (S : FS h f J F room fi la c) {n : Nat} {x : Int} (x0 : 0 ≤ x) (x1 : x ≤ 60) : FS (jm_sI h 15 f n (zI x)) f J F room fi la (up c n x) := by
  obtain ⟨s1, s2, s3, s4, s5, s6, s7, s8, s9⟩ := S
  refine ⟨s1, s2, s3, ?_, ?_, ?_, fun j hj => ?_, fun j hj => ?_, fun j hj => ?_⟩
  · rw [sI_ne (by omega)]; exact s4
  · rw [sI_ne (by omega)]; exact s5
  · rw [sI_ne (by omega)]; exact s6
  · rw [sI_ne (by omega)]; exact s7 j hj
  · rw [sI_ne (by omega)]; exact s8 j hj
  · by_cases e : j = n
    · subst e
      rw [sI_eq, up_eq]; exact ⟨rfl, x0, x1⟩
    · rw [sI_ne (by omega), up_ne e]; exact s9 j hj
def cF : Nat → Nat → Nat → Prop := fun K i j => cT K i j
section HEAD
variable {d : MD} {g : Int} {t : Nat} {room : Int}
theorem s_fwc_2 {f F : Nat} {fi la : Nat → Int} (w : WFm d) (ht : t < md_tk d) {x : Int} (x0 : 0 ≤ x) (x1 : x ≤ 60) : ∀ (e n : Nat) (h : jm_H) (c : Nat → Int), n + e = md_jb d → FS h f (md_jb d) F room fi la c → (∀ j, j < md_jb d → h.1 12 f j = zI (md_jt d j)) → offT d t c → (∀ j, j < n → c j = hcx d t x j) →
    ∃ h' v, l_Flow_fitsWithCost_2 f (zI t) (zI x) (zI n) h (some (jm_i (zI (if v = 0 then 1 else 0))), h') ∧ isOv (md_jb d) F fi la (hcx d t x) room v ∧ 0 ≤ v ∧ FS h' f (md_jb d) F room fi la (hcx d t x) ∧ Ch (fun K i j => cD f K i j ∨ (K = 15 ∧ i = f)) h h' := by
  have w4 := w.2.2.2.1
  have w5 := w.2.2.2.2.1
  intro e
  induction e with
  | zero =>
    intro n h c en S hT ho hn
    have S2 : FS h f (md_jb d) F room fi la (hcx d t x) := S.cg (fun j hj => hn j (by omega))
    obtain ⟨h', v, x1, x2, x3, x4, x5⟩ := s_fits S2
    have h6 := S.2.2.2.2.2.1
    refine ⟨h', v, wp_Flow_fitsWithCost_2 ⟨fun _ => ⟨_, h', x4, ?_, rfl⟩, fun hc => ?_⟩, x1, x2, S2.ch x5, x5.mono (fun K i j y => Or.inl y)⟩
    · by_cases v0 : v = 0
      · rw [if_pos v0]; rfl
      · rw [if_neg v0]; rfl
    · rw [h6, zI_le (by omega) (by omega) (by omega) (by omega)] at hc; omega
  | succ e ih =>
    intro n h c en S hT ho hn
    have hj : n < md_jb d := by omega
    have h6 := S.2.2.2.2.2.1
    have hi : jm_in (zI (n : Int)) 24 := zI_in (by omega) (by omega) (by omega)
    have a := (w.2.2.2.2.2.2.2.1 n hj).1
    by_cases he : md_jt d n = t
    · have c1 : Ch (fun K i j => cD f K i j ∨ (K = 15 ∧ i = f)) h (jm_sI h 15 f n (zI x)) := Ch.sI (Or.inr ⟨rfl, rfl⟩)
      obtain ⟨h', v, r1, r2, r3, r4, r5⟩ := ih (n + 1) _ (up c n x) (by omega) (S.c15 x0 x1) (fun j hj => by rw [sI_ne (by omega)]; exact hT j hj) (fun j hj hne => by
        rw [up_ne (fun e2 => hne (by rw [e2]; exact he))]; exact ho j hj hne) (fun j hj => by
        by_cases e2 : j = n
        · subst e2; rw [up_eq]; exact (if_pos he).symm
        · rw [up_ne e2]; exact hn j (by omega))
      refine ⟨h', v, wp_Flow_fitsWithCost_2 ⟨fun hc => ?_, fun _ => ⟨hi, fun _ => ⟨hi, ?_⟩, fun hc => ?_⟩⟩, r2, r3, r4, c1.tr r5⟩
      · rw [h6, zI_le (by omega) (by omega) (by omega) (by omega)] at hc; omega
      · rw [zI_cn (by omega), zl_1, zI_add]; exact r1
      · rw [zI_cn (by omega), hT n hj, he] at hc; exact absurd rfl hc
    · obtain ⟨h', v, r1, r2, r3, r4, r5⟩ := ih (n + 1) h c (by omega) S hT ho (fun j hj => by
        by_cases e2 : j = n
        · subst e2; rw [ho j (by omega) he]; exact (if_neg he).symm
        · exact hn j (by omega))
      refine ⟨h', v, wp_Flow_fitsWithCost_2 ⟨fun hc => ?_, fun _ => ⟨hi, fun hc => ?_, fun _ => ?_⟩⟩, r2, r3, r4, r5⟩
      · rw [h6, zI_le (by omega) (by omega) (by omega) (by omega)] at hc; omega
      · rw [zI_cn (by omega), hT n hj, zI_eq (by omega) (by omega) (by omega) (by omega)] at hc; omega
      · rw [zl_1, zI_add]; exact r1
/-- what fits by a cost -/
def hrP (d : MD) (g : Int) (t : Nat) (x : Int) : Prop := isOv (md_jb d) (md_F d g) (md_fi d g) (md_la d g) (hcx d t x) (md_rm d g) 0
theorem hrP_anti (w : WFm d) : anti (hrP d g t) 60 := by
  intro x y x0 xy y1 h
  refine ft_mono (fun j hj => ?_) (fun j hj => ?_) (Int.le_refl _) h
  · unfold hcx
    have := w.2.2.2.2.2.2.1 _ (w.2.2.2.2.2.2.2.1 j hj).1
    split
    · exact x0
    · unfold md_c; omega
  · unfold hcx
    split <;> omega
/-- the flow with costs of a task changed -/
def FAx (h : jm_H) (f : Nat) (d : MD) (g : Int) (t : Nat) : Prop := ∃ c, FS h f (md_jb d) (md_F d g) (md_rm d g) (md_fi d g) (md_la d g) c ∧ offT d t c ∧ (∀ j, j < md_jb d → h.1 12 f j = zI (md_jt d j))
theorem s_fwc (w : WFm d) (ht : t < md_tk d) {h : jm_H} (A : FAx h 3 d g t) {x : Int} (x0 : 0 ≤ x) (x1 : x ≤ 60) : ∃ h' b, m_Flow_fitsWithCost 3 (zI t) (zI x) h (zI b) h' ∧ (b = 0 ∨ b = 1) ∧ (b = 1 ↔ hrP d g t x) ∧ FAx h' 3 d g t ∧ Ch cT h h' := by
  obtain ⟨c, a1, a2, a3⟩ := A
  obtain ⟨h', v, r1, r2, r3, r4, r5⟩ := s_fwc_2 w ht x0 x1 (md_jb d) 0 h c (by omega) a1 a3 a2 (fun j hj => by omega)
  have r6 : Ch cT h h' := r5.mono (fun K i j y => by
    rcases y with y | ⟨y1, y2⟩
    · exact Or.inr (Or.inl y)
    · exact Or.inl ⟨by omega, y2⟩)
  refine ⟨h', if v = 0 then 1 else 0, wp_Flow_fitsWithCost r1, ?_, ?_, ⟨_, r4, hcx_off d t x, fun j hj => ?_⟩, r6⟩
  · split
    · exact Or.inr rfl
    · exact Or.inl rfl
  · constructor
    · intro hc
      by_cases v0 : v = 0
      · rw [v0] at r2; exact r2
      · rw [if_neg v0] at hc; omega
    · intro hp
      rw [if_pos (isOv.uq r2 hp)]
  · rw [r5.at (by unfold cD; omega)]; exact a3 j hj
theorem s_head_45 (w : WFm d) (ht : t < md_tk d) : ∀ (k : Nat) (gr : Int) (h : jm_H), k ≤ 6 → FAx h 3 d g t → 0 ≤ gr → gr ≤ 60 → hrP d g t gr → (∀ x, gr + ub2 k ≤ x → x ≤ 60 → ¬ hrP d g t x) →
    ∃ h' v, l_FR_headroom_45 (zI t) 3 (zI gr) (zI (bt2 k)) h (some (jm_i (zI v)), jm_sI h' 7 0 8 0) ∧ isMx (hrP d g t) 60 v ∧ Ch cT h h' := by
  intro k
  induction k with
  | zero =>
    intro gr h _ A g0 g1 hp hu
    refine ⟨h, gr, wp_FR_headroom_45 ⟨fun _ => ⟨_, _, wp_FR_answered rfl, rfl⟩, fun hc => ?_⟩, Or.inr ⟨g0, g1, hp, fun x h1 h2 => hu x (by rw [show ub2 0 = 1 from rfl]; omega) h2⟩, Ch.rf h⟩
    exact absurd (show zI (bt2 0) ≤ 0 by decide) hc
  | succ k ih =>
    intro gr h hk A g0 g1 hp hu
    obtain ⟨b1, b2, b3, b4, b5⟩ := bt2_f k (by omega)
    have eh : zI (bt2 (k + 1)) / 2 = zI (bt2 k) := by rw [zl_2, zI_div (by omega) (by omega) (by omega) (by omega), b1]
    have hno : ¬ zI (bt2 (k + 1)) ≤ 0 := by rw [zl_0, zI_le (by omega) (by omega) (by omega) (by omega)]; omega
    by_cases h60 : 60 < gr + bt2 (k + 1)
    · obtain ⟨h', v, r1, r2, r3⟩ := ih gr h (by omega) A g0 g1 hp (fun x x1 x2 => by omega)
      refine ⟨h', v, wp_FR_headroom_45 ⟨fun hc => absurd hc hno, fun _ => ⟨fun _ => ?_, fun hc => ?_⟩⟩, r2, r3⟩
      · rw [eh]; exact r1
      · rw [zI_add, zl_60, zI_lt (by omega) (by omega) (by omega) (by omega)] at hc; omega
    · obtain ⟨h1, b, q1, q2, q3, q4, q5⟩ := s_fwc w ht A (x := gr + bt2 (k + 1)) (by omega) (by omega)
      by_cases hb : b = 1
      · obtain ⟨h', v, r1, r2, r3⟩ := ih (gr + bt2 (k + 1)) h1 (by omega) q4 (by omega) (by omega) (q3.mp hb) (fun x x1 x2 => hu x (by omega) x2)
        refine ⟨h', v, wp_FR_headroom_45 ⟨fun hc => absurd hc hno, fun _ => ⟨fun hc => ?_, fun _ => ⟨zI b, h1, ?_, fun hc => ?_, fun _ => ?_⟩⟩⟩, r2, q5.tr r3⟩
        · rw [zI_add, zl_60, zI_lt (by omega) (by omega) (by omega) (by omega)] at hc; omega
        · rw [zI_add]; exact q1
        · rw [hb] at hc; exact absurd hc (by decide)
        · rw [eh, zI_add]; exact r1
      · obtain ⟨h', v, r1, r2, r3⟩ := ih gr h1 (by omega) q4 g0 g1 hp (fun x x1 x2 hx => hb (q3.mpr (hrP_anti w _ x (by omega) (by omega) x2 hx)))
        refine ⟨h', v, wp_FR_headroom_45 ⟨fun hc => absurd hc hno, fun _ => ⟨fun hc => ?_, fun _ => ⟨zI b, h1, ?_, fun _ => ?_, fun hc => ?_⟩⟩⟩, r2, q5.tr r3⟩
        · rw [zI_add, zl_60, zI_lt (by omega) (by omega) (by omega) (by omega)] at hc; omega
        · rw [zI_add]; exact q1
        · rw [eh]; exact r1
        · rw [show b = 0 by omega] at hc; exact absurd rfl hc
/-! ===== the reference's -/
theorem MS.cg {h : jm_H} {J F : Nat} {room : Int} {fi la c c' : Nat → Int} (S : MS h J F room fi la c) (e : ∀ j, j < J → c j = c' j) : MS h J F room fi la c' := by
  obtain ⟨s1, s2, s3, s4, s5, s6, s7, s8, s9⟩ := S
  exact ⟨s1, s2, s3, s4, s5, s6, s7, s8, fun j hj => by rw [← e j hj]; exact s9 j hj⟩
theorem MS.c47 {h : jm_H} {J F : Nat} {room : Int} {fi la c : Nat → Int} (S : MS h J F room fi la c) {n : Nat} {x : Int} (x0 : 0 ≤ x) (x1 : x ≤ 60) : MS (jm_sI h 47 0 n (zI x)) J F room fi la (up c n x) := by
  obtain ⟨s1, s2, s3, s4, s5, s6, s7, s8, s9⟩ := S
  refine ⟨s1, s2, s3, ?_, ?_, ?_, fun j hj => ?_, fun j hj => ?_, fun j hj => ?_⟩
  · rw [sI_ne (by omega)]; exact s4
  · rw [sI_ne (by omega)]; exact s5
  · rw [sI_ne (by omega)]; exact s6
  · rw [sI_ne (by omega)]; exact s7 j hj
  · rw [sI_ne (by omega)]; exact s8 j hj
  · by_cases e : j = n
    · subst e
      rw [sI_eq, up_eq]; exact ⟨rfl, x0, x1⟩
    · rw [sI_ne (by omega), up_ne e]; exact s9 j hj
def MAx (h : jm_H) (m : Nat) (d : MD) (g : Int) (t : Nat) : Prop := ∃ c, MS h (md_jb d) (md_F d g) (md_rm d g) (md_fi d g) (md_la d g) c ∧ offT d t c ∧ vM h m d
theorem s_headM_33 {m : Nat} (w : WFm d) (hm : m < 3) (ht : t < md_tk d) {x : Int} (x0 : 0 ≤ x) (x1 : x ≤ 60) : ∀ (e n : Nat) (h : jm_H) (c : Nat → Int), n + e = md_jb d → MS h (md_jb d) (md_F d g) (md_rm d g) (md_fi d g) (md_la d g) c → vM h m d → offT d t c → (∀ j, j < n → c j = hcx d t x j) →
    ∃ h' b, (b = 0 ∨ b = 1) ∧ (b = 1 ↔ hrP d g t x) ∧ MAx h' m d g t ∧ Ch cMs h h' ∧ (∀ r, (b = 1 → r = (some (jm_i (zI x)), h')) → (b = 0 → l_M_headroom_29 (zI m) (zI t) (zI (x - 1)) h' r) → l_M_headroom_33 (zI m) (zI t) (zI x) (zI n) h r) := by
  have w4 := w.2.2.2.1
  have w5 := w.2.2.2.2.1
  intro e
  induction e with
  | zero =>
    intro n h c en S v ho hn
    have S2 : MS h (md_jb d) (md_F d g) (md_rm d g) (md_fi d g) (md_la d g) (hcx d t x) := S.cg (fun j hj => hn j (by omega))
    obtain ⟨h', y, y1, y2, y3, y4, y5⟩ := s_overAll S2
    have h6 := S.2.2.2.2.2.1
    refine ⟨h', if y = 0 then 1 else 0, ?_, ?_, ⟨_, S2.ch y2, hcx_off d t x, v.ms (cMs_48 y2)⟩, cMs_48 y2, fun r r1 r2 => wp_M_headroom_33 ⟨fun _ => ⟨_, h', y1, fun hc => ?_, fun hc => ?_⟩, fun hc => ?_⟩⟩
    · split
      · exact Or.inr rfl
      · exact Or.inl rfl
    · constructor
      · intro hc
        by_cases v0 : y = 0
        · rw [v0] at y3; exact y3
        · rw [if_neg v0] at hc; omega
      · intro hp
        rw [if_pos (isOv.uq y3 hp)]
    · rw [zl_0, zI_lt (by omega) (by omega) (by omega) (by omega)] at hc
      rw [zl_m1, zI_add]
      exact r2 (if_neg (by omega))
    · rw [zl_0, zI_lt (by omega) (by omega) (by omega) (by omega)] at hc
      exact r1 (if_pos (by omega))
    · rw [h6, zI_le (by omega) (by omega) (by omega) (by omega)] at hc; omega
  | succ e ih =>
    intro n h c en S v ho hn
    have hj : n < md_jb d := by omega
    have h6 := S.2.2.2.2.2.1
    have h9 := S.2.2.2.2.2.2.2.2 n hj
    have hi : jm_in (zI (n : Int)) 24 := zI_in (by omega) (by omega) (by omega)
    have a := (w.2.2.2.2.2.2.2.1 n hj).1
    have e24 : (24 * zI (m : Int)) + zI (n : Int) = zI ((24 * m + n : Nat) : Int) := by rw [zl_24, zI_mul, zI_add]; congr 1
    have hi2 : jm_in ((24 * zI (m : Int)) + zI (n : Int)) 72 := by rw [e24]; exact zI_in (by omega) (by omega) (by omega)
    have vj := (v.2.2.2.2.2.2 n hj).1
    by_cases he : md_jt d n = t
    · have c1 : Ch cMs h (jm_sI h 47 0 n (zI x)) := Ch.sI (by unfold cMs; omega)
      obtain ⟨h', b, r1, r2, r3, r4, r5⟩ := ih (n + 1) _ (up c n x) (by omega) (S.c47 x0 x1) (v.ms c1) (fun j hj hne => by
        rw [up_ne (fun e2 => hne (by rw [e2]; exact he))]; exact ho j hj hne) (fun j hj => by
        by_cases e2 : j = n
        · subst e2; rw [up_eq]; exact (if_pos he).symm
        · rw [up_ne e2]; exact hn j (by omega))
      refine ⟨h', b, r1, r2, r3, c1.tr r4, fun r q1 q2 => wp_M_headroom_33 ⟨fun hc => ?_, fun _ => ⟨hi2, fun _ => ⟨hi, ?_⟩, fun hc => ?_⟩⟩⟩
      · rw [h6, zI_le (by omega) (by omega) (by omega) (by omega)] at hc; omega
      · rw [zI_cn (by omega), zl_1, zI_add]; exact r5 r q1 q2
      · rw [e24, zI_cn (by omega), vj, he] at hc; exact absurd rfl hc
    · have c1 : Ch cMs h (jm_sI h 47 0 n (zI (c n))) := Ch.sI (by unfold cMs; omega)
      have ec : ∀ j, up c n (c n) j = c j := fun j => by
        by_cases e2 : j = n
        · rw [e2, up_eq]
        · rw [up_ne e2]
      obtain ⟨h', b, r1, r2, r3, r4, r5⟩ := ih (n + 1) _ (up c n (c n)) (by omega) (S.c47 h9.2.1 h9.2.2) (v.ms c1) (fun j hj hne => by rw [ec]; exact ho j hj hne) (fun j hj => by
        rw [ec]
        by_cases e2 : j = n
        · subst e2; rw [ho j (by omega) he]; exact (if_neg he).symm
        · exact hn j (by omega))
      refine ⟨h', b, r1, r2, r3, c1.tr r4, fun r q1 q2 => wp_M_headroom_33 ⟨fun hc => ?_, fun _ => ⟨hi2, fun hc => ?_, fun _ => ⟨hi, hi, ?_⟩⟩⟩⟩
      · rw [h6, zI_le (by omega) (by omega) (by omega) (by omega)] at hc; omega
      · rw [e24, zI_cn (by omega), vj, zI_eq (by omega) (by omega) (by omega) (by omega)] at hc; omega
      · rw [zI_cn (by omega), h9.1, zl_1, zI_add]; exact r5 r q1 q2
theorem s_headM_29 {m : Nat} (w : WFm d) (hm : m < 3) (ht : t < md_tk d) : ∀ (x : Nat) (h : jm_H), x ≤ 61 → MAx h m d g t → (∀ y : Int, (x : Int) ≤ y → y ≤ 60 → ¬ hrP d g t y) → ∃ h' v, l_M_headroom_29 (zI m) (zI t) (zI ((x : Int) - 1)) h (some (jm_i (zI v)), h') ∧ isMx (hrP d g t) 60 v ∧ Ch cMs h h' := by
  intro x
  induction x with
  | zero =>
    intro h _ A hu
    refine ⟨h, -2, wp_M_headroom_29 ⟨fun _ => rfl, fun hc => ?_⟩, Or.inl ⟨rfl, hu 0 (by omega) (by omega)⟩, Ch.rf h⟩
    rw [zl_0, zI_lt (by omega) (by omega) (by omega) (by omega)] at hc; omega
  | succ x ih =>
    intro h hx A hu
    obtain ⟨c, a1, a2, a3⟩ := A
    obtain ⟨h1, b, r1, r2, r3, r4, r5⟩ := s_headM_33 (m := m) w hm ht (x := x) (by omega) (by omega) (md_jb d) 0 h c (by omega) a1 a3 a2 (fun j hj => by omega)
    rw [show ((x + 1 : Nat) : Int) - 1 = x by omega]
    have hno : ¬ zI (x : Int) < 0 := by rw [zl_0, zI_lt (by omega) (by omega) (by omega) (by omega)]; omega
    rcases r1 with hb | hb
    · have hnp : ¬ hrP d g t x := fun y => by have := r2.mpr y; omega
      obtain ⟨h', v, q1, q2, q3⟩ := ih h1 (by omega) r3 (fun y y1 y2 => by
        by_cases e : y = x
        · rw [e]; exact hnp
        · exact hu y (by omega) y2)
      exact ⟨h', v, wp_M_headroom_29 ⟨fun hc => absurd hc hno, fun _ => r5 _ (fun e => by omega) (fun _ => q1)⟩, q2, r4.tr q3⟩
    · exact ⟨h1, x, wp_M_headroom_29 ⟨fun hc => absurd hc hno, fun _ => r5 _ (fun _ => rfl) (fun e => by omega)⟩, Or.inr ⟨by omega, by omega, r2.mp hb, fun y y1 y2 => hu y (by omega) y2⟩, r4⟩
/-! ===== the greatest reserve ===== -/
def rvP (d : MD) (g x : Int) : Prop := isOv (md_jb d) (md_F d g) (md_fi d g) (md_la d g) (md_c d) (g - x) 0
theorem md_c0 (w : WFm d) : ∀ j, j < md_jb d → 0 ≤ md_c d j ∧ md_c d j ≤ 60 := fun j hj => by
  have := w.2.2.2.2.2.2.1 _ (w.2.2.2.2.2.2.2.1 j hj).1
  unfold md_c; omega
theorem rvP_anti (w : WFm d) : anti (rvP d g) (g - 1) := by
  intro x y x0 xy y1 h
  exact ft_mono (fun j hj => (md_c0 w j hj).1) (fun j hj => Int.le_refl _) (by omega) h
theorem s_fwr {q : Nat} {h : jm_H} (v : vF h q d) (w : WFm d) {x : Int} (x0 : 0 ≤ x) (x1 : x < md_fr d) : ∃ h' b, m_FR_fitsWithReserve q (zI x) h (zI b) h' ∧ (b = 0 ∨ b = 1) ∧ (b = 1 ↔ rvP d (md_fr d) x) ∧ Ch cT h h' := by
  have w1 := w.1
  obtain ⟨h1, a1, a2, a3, a4⟩ := s_lay (f := 3) v w (g := md_fr d) (rs := x) (by omega) (by omega) x0 (by omega)
  rw [if_pos (by omega)] at a3
  obtain ⟨h', y, y1, y2, y3, y4, y5⟩ := s_fits a3
  refine ⟨h', if y = 0 then 1 else 0, wp_FR_fitsWithReserve ⟨h1, ?_, _, h', y4, ?_, rfl⟩, ?_, ?_, (cT_L a2).tr (cT_D y5)⟩
  · rw [v.1]; exact a1
  · by_cases v0 : y = 0
    · rw [if_pos v0]; rfl
    · rw [if_neg v0]; rfl
  · split
    · exact Or.inr rfl
    · exact Or.inl rfl
  · constructor
    · intro hc
      by_cases v0 : y = 0
      · rw [v0] at y1; exact y1
      · rw [if_neg v0] at hc; omega
    · intro hp
      rw [if_pos (isOv.uq y1 hp)]
theorem s_resv_27 {q : Nat} (w : WFm d) : ∀ (k : Nat) (gr : Int) (h : jm_H), k ≤ 6 → vF h q d → 0 ≤ gr → gr < md_fr d → rvP d (md_fr d) gr → (∀ x, gr + ub2 k ≤ x → x ≤ md_fr d - 1 → ¬ rvP d (md_fr d) x) →
    ∃ h' v, l_FR_reserveUpTo_27 q (zI gr) (zI (bt2 k)) h (some (jm_i (zI v)), jm_sI h' 7 0 8 0) ∧ isMx (rvP d (md_fr d)) (md_fr d - 1) v ∧ Ch cT h h' := by
  have w1 := w.1
  intro k
  induction k with
  | zero =>
    intro gr h _ A g0 g1 hp hu
    refine ⟨h, gr, wp_FR_reserveUpTo_27 ⟨fun _ => ⟨_, _, wp_FR_answered rfl, rfl⟩, fun hc => ?_⟩, Or.inr ⟨g0, by omega, hp, fun x h1 h2 => hu x (by rw [show ub2 0 = 1 from rfl]; omega) h2⟩, Ch.rf h⟩
    exact absurd (show zI (bt2 0) ≤ 0 by decide) hc
  | succ k ih =>
    intro gr h hk A g0 g1 hp hu
    obtain ⟨b1, b2, b3, b4, b5⟩ := bt2_f k (by omega)
    have eh : zI (bt2 (k + 1)) / 2 = zI (bt2 k) := by rw [zl_2, zI_div (by omega) (by omega) (by omega) (by omega), b1]
    have hno : ¬ zI (bt2 (k + 1)) ≤ 0 := by rw [zl_0, zI_le (by omega) (by omega) (by omega) (by omega)]; omega
    by_cases h60 : md_fr d ≤ gr + bt2 (k + 1)
    · obtain ⟨h', v, r1, r2, r3⟩ := ih gr h (by omega) A g0 g1 hp (fun x x1 x2 => by omega)
      refine ⟨h', v, wp_FR_reserveUpTo_27 ⟨fun hc => absurd hc hno, fun _ => ⟨fun _ => ?_, fun hc => ?_⟩⟩, r2, r3⟩
      · rw [eh]; exact r1
      · rw [zI_add, A.1, zI_le (by omega) (by omega) (by omega) (by omega)] at hc; omega
    · obtain ⟨h1, b, q1, q2, q3, q5⟩ := s_fwr A w (x := gr + bt2 (k + 1)) (by omega) (by omega)
      by_cases hb : b = 1
      · obtain ⟨h', v, r1, r2, r3⟩ := ih (gr + bt2 (k + 1)) h1 (by omega) (A.cT q5) (by omega) (by omega) (q3.mp hb) (fun x x1 x2 => hu x (by omega) x2)
        refine ⟨h', v, wp_FR_reserveUpTo_27 ⟨fun hc => absurd hc hno, fun _ => ⟨fun hc => ?_, fun _ => ⟨zI b, h1, ?_, fun hc => ?_, fun _ => ?_⟩⟩⟩, r2, q5.tr r3⟩
        · rw [zI_add, A.1, zI_le (by omega) (by omega) (by omega) (by omega)] at hc; omega
        · rw [zI_add]; exact q1
        · rw [hb] at hc; exact absurd hc (by decide)
        · rw [eh, zI_add]; exact r1
      · obtain ⟨h', v, r1, r2, r3⟩ := ih gr h1 (by omega) (A.cT q5) g0 g1 hp (fun x x1 x2 hx => hb (q3.mpr (rvP_anti w _ x (by omega) (by omega) x2 hx)))
        refine ⟨h', v, wp_FR_reserveUpTo_27 ⟨fun hc => absurd hc hno, fun _ => ⟨fun hc => ?_, fun _ => ⟨zI b, h1, ?_, fun _ => ?_, fun hc => ?_⟩⟩⟩, r2, q5.tr r3⟩
        · rw [zI_add, A.1, zI_le (by omega) (by omega) (by omega) (by omega)] at hc; omega
        · rw [zI_add]; exact q1
        · rw [eh]; exact r1
        · rw [show b = 0 by omega] at hc; exact absurd rfl hc
theorem MS.r27 {h : jm_H} {J F : Nat} {room room' : Int} {fi la c : Nat → Int} (S : MS h J F room fi la c) (x0 : 0 ≤ room') (x1 : room' ≤ 100) : MS (jm_sI h 8 0 27 (zI room')) J F room' fi la c := by
  obtain ⟨s1, s2, s3, s4, s5, s6, s7, s8, s9⟩ := S
  refine ⟨s1, s2, ⟨x0, x1⟩, sI_eq, ?_, ?_, fun j hj => ?_, fun j hj => ?_, fun j hj => ?_⟩
  · rw [sI_ne (by omega)]; exact s5
  · rw [sI_ne (by omega)]; exact s6
  · rw [sI_ne (by omega)]; exact s7 j hj
  · rw [sI_ne (by omega)]; exact s8 j hj
  · rw [sI_ne (by omega)]; exact s9 j hj
theorem s_resvM_24 {m : Nat} (w : WFm d) (hm : m < 3) : ∀ (x : Nat) (h : jm_H) (room : Int), (x : Int) ≤ md_fr d → MS h (md_jb d) (md_F d (md_fr d)) room (md_fi d (md_fr d)) (md_la d (md_fr d)) (md_c d) → vM h m d → (∀ y : Int, (x : Int) ≤ y → y ≤ md_fr d - 1 → ¬ rvP d (md_fr d) y) → ∃ h' v, l_M_reserveUpTo_24 (zI m) (zI ((x : Int) - 1)) h (some (jm_i (zI v)), h') ∧ isMx (rvP d (md_fr d)) (md_fr d - 1) v ∧ Ch cMs h h' := by
  have w1 := w.1
  intro x
  induction x with
  | zero =>
    intro h room _ A v hu
    refine ⟨h, -2, wp_M_reserveUpTo_24 ⟨fun _ => rfl, fun hc => ?_⟩, Or.inl ⟨rfl, hu 0 (by omega) (by omega)⟩, Ch.rf h⟩
    rw [zl_0, zI_lt (by omega) (by omega) (by omega) (by omega)] at hc; omega
  | succ x ih =>
    intro h room hx A v hu
    have c1 : Ch cMs h (jm_sI h 8 0 27 (zI (md_fr d - x))) := Ch.sI (by unfold cMs; omega)
    have A2 := A.r27 (room' := md_fr d - x) (by omega) (by omega)
    obtain ⟨h1, y, y1, y2, y3, y4, y5⟩ := s_overAll A2
    rw [show ((x + 1 : Nat) : Int) - 1 = x by omega]
    have hno : ¬ zI (x : Int) < 0 := by rw [zl_0, zI_lt (by omega) (by omega) (by omega) (by omega)]; omega
    have ea : jm_sI h 8 0 27 ((h.1 34 0 (zI (m : Int)).toNatClampNeg) - zI (x : Int)) = jm_sI h 8 0 27 (zI (md_fr d - x)) := by rw [zI_cn (by omega), v.1, zI_sub]
    by_cases y0 : y = 0
    · refine ⟨h1, x, wp_M_reserveUpTo_24 ⟨fun hc => absurd hc hno, fun _ => ⟨zI_in (by omega) (by omega) (by omega), zI y, h1, ?_, fun hc => ?_, fun _ => rfl⟩⟩, Or.inr ⟨by omega, by omega, ?_, fun y y1 y2 => hu y (by omega) y2⟩, c1.tr (cMs_48 y2)⟩
      · rw [ea]; exact y1
      · rw [zl_0, zI_lt (by omega) (by omega) (by omega) (by omega)] at hc; omega
      · rw [y0] at y3; exact y3
    · have hnp : ¬ rvP d (md_fr d) x := fun z => y0 (isOv.uq y3 z)
      obtain ⟨h', u, q1, q2, q3⟩ := ih h1 _ (by omega) (A2.ch y2) ((v.ms c1).ms (cMs_48 y2)) (fun y y1 y2 => by
        by_cases e : y = x
        · rw [e]; exact hnp
        · exact hu y (by omega) y2)
      refine ⟨h', u, wp_M_reserveUpTo_24 ⟨fun hc => absurd hc hno, fun _ => ⟨zI_in (by omega) (by omega) (by omega), zI y, h1, ?_, fun _ => ?_, fun hc => ?_⟩⟩, q2, (c1.tr (cMs_48 y2)).tr q3⟩
      · rw [ea]; exact y1
      · rw [zl_m1, zI_add]; exact q1
      · rw [zl_0, zI_lt (by omega) (by omega) (by omega) (by omega)] at hc; omega
end HEAD
