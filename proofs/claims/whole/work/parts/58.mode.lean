/-! ===== a mode's data ===== -/
abbrev MD : Type := (Int × Int × Int) × (Nat × Nat) × ((Nat → Int) × (Nat → Int) × (Nat → Int) × (Nat → Int)) × ((Nat → Nat) × (Nat → Int))
def md_fr (d : MD) : Int := d.1.1
def md_rs (d : MD) : Int := d.1.2.1
def md_rd (d : MD) : Int := d.1.2.2
def md_tk (d : MD) : Nat := d.2.1.1
def md_jb (d : MD) : Nat := d.2.1.2
def md_ph (d : MD) : Nat → Int := d.2.2.1.1
def md_pe (d : MD) : Nat → Int := d.2.2.1.2.1
def md_co (d : MD) : Nat → Int := d.2.2.1.2.2.1
def md_sp (d : MD) : Nat → Int := d.2.2.1.2.2.2
def md_jt (d : MD) : Nat → Nat := d.2.2.2.1
def md_ja (d : MD) : Nat → Int := d.2.2.2.2
/-- what holds of each mode -/
def WFm (d : MD) : Prop :=
  (4 ≤ md_fr d ∧ md_fr d ≤ 60) ∧ (0 ≤ md_rs d ∧ md_rs d < md_fr d) ∧ (1 ≤ md_rd d ∧ md_rd d ≤ 96) ∧ md_tk d ≤ 6 ∧ md_jb d ≤ 24 ∧ (md_tk d = 0 → md_rd d = md_fr d) ∧
  (∀ t, t < md_tk d → (0 ≤ md_ph d t ∧ md_ph d t < md_pe d t) ∧ md_pe d t ≤ 60 ∧ (1 ≤ md_co d t ∧ md_co d t ≤ 60) ∧ (1 ≤ md_sp d t ∧ md_sp d t ≤ 60) ∧ md_rd d % md_pe d t = 0) ∧
  (∀ j, j < md_jb d → md_jt d j < md_tk d ∧ 0 ≤ md_ja d j ∧ md_ja d j + md_sp d (md_jt d j) ≤ md_rd d) ∧ (∀ i j, i < j → j < md_jb d → md_ja d i ≤ md_ja d j) ∧ (∀ t, t < md_tk d → ∃ j, j < md_jb d ∧ md_jt d j = t)
/-- as FrameRound has it -/
def vF (h : jm_H) (q : Nat) (d : MD) : Prop :=
  h.1 2 q 0 = zI (md_fr d) ∧ h.1 2 q 1 = zI (md_rs d) ∧ h.1 2 q 2 = zI (md_tk d) ∧ h.1 2 q 3 = zI (md_jb d) ∧ (md_tk d ≠ 0 → h.1 2 q 4 = zI (md_rd d)) ∧
  (∀ t, t < md_tk d → h.1 22 q t = zI (md_ph d t) ∧ h.1 23 q t = zI (md_pe d t) ∧ h.1 24 q t = zI (md_co d t) ∧ h.1 25 q t = zI (md_sp d t)) ∧ (∀ j, j < md_jb d → h.1 26 q j = zI (md_jt d j) ∧ h.1 27 q j = zI (md_ja d j))
/-- as the reference has it -/
def vM (h : jm_H) (m : Nat) (d : MD) : Prop :=
  h.1 34 0 m = zI (md_fr d) ∧ h.1 35 0 m = zI (md_rs d) ∧ h.1 36 0 m = zI (md_tk d) ∧ h.1 37 0 m = zI (md_rd d) ∧ h.1 42 0 m = zI (md_jb d) ∧
  (∀ t, t < md_tk d → h.1 38 0 (6 * m + t) = zI (md_ph d t) ∧ h.1 39 0 (6 * m + t) = zI (md_pe d t) ∧ h.1 40 0 (6 * m + t) = zI (md_co d t) ∧ h.1 41 0 (6 * m + t) = zI (md_sp d t)) ∧ (∀ j, j < md_jb d → h.1 43 0 (24 * m + j) = zI (md_jt d j) ∧ h.1 44 0 (24 * m + j) = zI (md_ja d j))
theorem vF.chg {h h' : jm_H} {q : Nat} {d : MD} (v : vF h q d) (e : ∀ K j, K = 2 ∨ (22 ≤ K ∧ K ≤ 27) → h'.1 K q j = h.1 K q j) : vF h' q d := by
  obtain ⟨v1, v2, v3, v4, v5, v6, v7⟩ := v
  refine ⟨?_, ?_, ?_, ?_, fun x => ?_, fun t ht => ?_, fun j hj => ?_⟩
  · rw [e 2 _ (by omega)]; exact v1
  · rw [e 2 _ (by omega)]; exact v2
  · rw [e 2 _ (by omega)]; exact v3
  · rw [e 2 _ (by omega)]; exact v4
  · rw [e 2 _ (by omega)]; exact v5 x
  · rw [e 22 _ (by omega), e 23 _ (by omega), e 24 _ (by omega), e 25 _ (by omega)]; exact v6 t ht
  · rw [e 26 _ (by omega), e 27 _ (by omega)]; exact v7 j hj
theorem vM.chg {h h' : jm_H} {m : Nat} {d : MD} (v : vM h m d) (e : ∀ K j, (34 ≤ K ∧ K ≤ 44) → h'.1 K 0 j = h.1 K 0 j) : vM h' m d := by
  obtain ⟨v1, v2, v3, v4, v5, v6, v7⟩ := v
  refine ⟨?_, ?_, ?_, ?_, ?_, fun t ht => ?_, fun j hj => ?_⟩
  · rw [e 34 _ (by omega)]; exact v1
  · rw [e 35 _ (by omega)]; exact v2
  · rw [e 36 _ (by omega)]; exact v3
  · rw [e 37 _ (by omega)]; exact v4
  · rw [e 42 _ (by omega)]; exact v5
  · rw [e 38 _ (by omega), e 39 _ (by omega), e 40 _ (by omega), e 41 _ (by omega)]; exact v6 t ht
  · rw [e 43 _ (by omega), e 44 _ (by omega)]; exact v7 j hj
/-- by frames of a length -/
def md_F (d : MD) (g : Int) : Nat := (md_rd d / g).toNat
def md_du (d : MD) (j : Nat) : Int := md_ja d j + md_sp d (md_jt d j)
def md_fi (d : MD) (g : Int) (j : Nat) : Int := (md_ja d j + g - 1) / g
def md_la (d : MD) (g : Int) (j : Nat) : Int := md_du d j / g - 1
def md_c (d : MD) (j : Nat) : Int := md_co d (md_jt d j)
theorem div_b {a g : Int} (h1 : 0 ≤ a) (h2 : 1 ≤ g) : 0 ≤ a / g ∧ a / g ≤ a := ⟨Int.ediv_nonneg h1 (by omega), Int.ediv_le_self _ h1⟩
theorem md_bd {d : MD} (w : WFm d) {g : Int} (g1 : 4 ≤ g) (g2 : g ≤ 96) : md_F d g ≤ 24 ∧ (md_F d g : Int) = md_rd d / g ∧ (∀ j, j < md_jb d → (0 ≤ md_fi d g j ∧ md_fi d g j ≤ 100) ∧ (-1 ≤ md_la d g j ∧ md_la d g j < md_F d g) ∧ (1 ≤ md_c d j ∧ md_c d j ≤ 60) ∧ (0 ≤ md_du d j ∧ md_du d j ≤ 96)) := by
  obtain ⟨w1, w2, w3, w4, w5, w6, w7, w8, w9⟩ := w
  have f0 : 0 ≤ md_rd d / g := Int.ediv_nonneg (by omega) (by omega)
  have f1 : md_rd d / g ≤ 24 := by
    have : md_rd d / g ≤ 96 / g := Int.ediv_le_ediv (by omega) (by omega)
    have h2 : (96 : Int) / g ≤ 24 := by
      have : (96 : Int) / g ≤ 96 / 4 := by
        refine Int.le_of_lt_add_one ?_
        refine Int.ediv_lt_of_lt_mul (by omega) ?_
        have : (96 : Int) / 4 + 1 = 25 := by decide
        rw [this]; omega
      have e : (96 : Int) / 4 = 24 := by decide
      omega
    omega
  have eF : (md_F d g : Int) = md_rd d / g := by unfold md_F; omega
  refine ⟨by omega, eF, fun j hj => ?_⟩
  obtain ⟨a1, a2, a3⟩ := w8 j hj
  have b := w7 _ a1
  have du : 0 ≤ md_du d j ∧ md_du d j ≤ 96 := by unfold md_du; omega
  have fi := div_b (a := md_ja d j + g - 1) (g := g) (by omega) (by omega)
  have fi2 : (md_ja d j + g - 1) / g ≤ 100 := by
    refine Int.le_of_lt_add_one (Int.ediv_lt_of_lt_mul (by omega) ?_)
    omega
  have la := div_b (a := md_du d j) (g := g) du.1 (by omega)
  have la2 : md_du d j / g ≤ md_rd d / g := Int.ediv_le_ediv (by omega) (by unfold md_du; omega)
  refine ⟨⟨fi.1, fi2⟩, ⟨by unfold md_la; omega, by unfold md_la; omega⟩, b.2.2.1, du⟩
/-! ===== laying a flow ===== -/
def cL (f : Nat) : Nat → Nat → Nat → Prop := fun K i _ => (K = 1 ∨ (12 ≤ K ∧ K ≤ 17)) ∧ i = f
/-- a flow's other rows: length, tasks, releases, dues -/
def FT (h : jm_H) (f : Nat) (d : MD) (g : Int) : Prop := h.1 1 f 0 = zI g ∧ ∀ j, j < md_jb d → h.1 12 f j = zI (md_jt d j) ∧ h.1 13 f j = zI (md_ja d j) ∧ h.1 14 f j = zI (md_du d j)
theorem s_round {h : jm_H} {q : Nat} {d : MD} (v : vF h q d) (w : WFm d) : m_Mode_round q h (zI (md_rd d)) h := by
  obtain ⟨v1, v2, v3, v4, v5, v6, v7⟩ := v
  obtain ⟨w1, w2, w3, w4, w5, w6, w7, w8, w9⟩ := w
  refine wp_Mode_round ⟨fun hc => ?_, fun hc => ?_⟩
  · rw [v3, zl_0, zI_eq (by omega) (by omega) (by omega) (by omega)] at hc
    rw [v1, w6 (by omega)]
  · rw [v3, zl_0, zI_eq (by omega) (by omega) (by omega) (by omega)] at hc
    rw [v5 (by omega)]
theorem s_lay_29 {f q : Nat} {d : MD} {g : Int} (w : WFm d) (g1 : 4 ≤ g) (g2 : g ≤ 96) : ∀ (e n : Nat) (h : jm_H), n + e = md_jb d → vF h q d → h.1 1 f 0 = zI g → h.1 1 f 3 = zI (md_jb d) → (∀ j, j < n → h.1 12 f j = zI (md_jt d j) ∧ h.1 13 f j = zI (md_ja d j) ∧ h.1 14 f j = zI (md_du d j) ∧ h.1 15 f j = zI (md_c d j) ∧ h.1 16 f j = zI (md_fi d g j) ∧ h.1 17 f j = zI (md_la d g j)) →
    ∃ h', l_Flow_lay_29 f q (zI n) h (none, h') ∧ Ch (fun K i _ => (12 ≤ K ∧ K ≤ 17) ∧ i = f) h h' ∧ (∀ j, j < md_jb d → h'.1 12 f j = zI (md_jt d j) ∧ h'.1 13 f j = zI (md_ja d j) ∧ h'.1 14 f j = zI (md_du d j) ∧ h'.1 15 f j = zI (md_c d j) ∧ h'.1 16 f j = zI (md_fi d g j) ∧ h'.1 17 f j = zI (md_la d g j)) := by
  intro e
  have w' := w
  obtain ⟨w1, w2, w3, w4, w5, w6, w7, w8, w9⟩ := w'
  induction e with
  | zero =>
    intro n h e v l0 l3 hn
    refine ⟨h, wp_Flow_lay_29 ⟨fun _ => rfl, fun hc => ?_⟩, Ch.rf h, fun j hj => hn j (by omega)⟩
    rw [l3, zI_le (by omega) (by omega) (by omega) (by omega)] at hc; omega
  | succ e ih =>
    intro n h en v l0 l3 hn
    have hnj : n < md_jb d := by omega
    have hi : jm_in (zI (n : Int)) 24 := zI_in (by omega) (by omega) (by omega)
    obtain ⟨a1, a2, a3⟩ := w8 n hnj
    have b := w7 _ a1
    have vt := v.2.2.2.2.2.1 _ a1
    have vj := v.2.2.2.2.2.2 n hnj
    have bd := (md_bd w g1 g2).2.2 n hnj
    -- the heap behind this turn
    obtain ⟨h2, eh⟩ : ∃ h2, h2 = jm_sI (jm_sI (jm_sI (jm_sI (jm_sI (jm_sI h 12 f n (zI (md_jt d n))) 13 f n (zI (md_ja d n))) 14 f n (zI (md_du d n))) 15 f n (zI (md_c d n))) 16 f n (zI (md_fi d g n))) 17 f n (zI (md_la d g n)) := ⟨_, rfl⟩
    have c2 : Ch (fun K i _ => (12 ≤ K ∧ K ≤ 17) ∧ i = f) h h2 := by
      rw [eh]
      exact (((((Ch.sI ⟨by omega, rfl⟩).tr (Ch.sI ⟨by omega, rfl⟩)).tr (Ch.sI ⟨by omega, rfl⟩)).tr (Ch.sI ⟨by omega, rfl⟩)).tr (Ch.sI ⟨by omega, rfl⟩)).tr (Ch.sI ⟨by omega, rfl⟩)
    obtain ⟨h', r1, r2, r3⟩ := ih (n + 1) h2 (by omega) (v.chg (fun K j hK => c2.at (by omega))) (by rw [c2.at (by omega)]; exact l0) (by rw [c2.at (by omega)]; exact l3) (fun j hj => by
      by_cases e2 : j = n
      · subst e2
        rw [eh]
        refine ⟨?_, ?_, ?_, ?_, ?_, ?_⟩
        · rw [sI_ne (by omega), sI_ne (by omega), sI_ne (by omega), sI_ne (by omega), sI_ne (by omega), sI_eq]
        · rw [sI_ne (by omega), sI_ne (by omega), sI_ne (by omega), sI_ne (by omega), sI_eq]
        · rw [sI_ne (by omega), sI_ne (by omega), sI_ne (by omega), sI_eq]
        · rw [sI_ne (by omega), sI_ne (by omega), sI_eq]
        · rw [sI_ne (by omega), sI_eq]
        · rw [sI_eq]
      · rw [eh]
        rw [sI_ne (by omega), sI_ne (by omega), sI_ne (by omega), sI_ne (by omega), sI_ne (by omega), sI_ne (by omega)]
        rw [sI_ne (by omega), sI_ne (by omega), sI_ne (by omega), sI_ne (by omega), sI_ne (by omega), sI_ne (by omega)]
        rw [sI_ne (by omega), sI_ne (by omega), sI_ne (by omega), sI_ne (by omega), sI_ne (by omega), sI_ne (by omega)]
        rw [sI_ne (by omega), sI_ne (by omega), sI_ne (by omega), sI_ne (by omega), sI_ne (by omega), sI_ne (by omega)]
        rw [sI_ne (by omega), sI_ne (by omega), sI_ne (by omega), sI_ne (by omega), sI_ne (by omega), sI_ne (by omega)]
        rw [sI_ne (by omega), sI_ne (by omega), sI_ne (by omega), sI_ne (by omega), sI_ne (by omega), sI_ne (by omega)]
        exact hn j (by omega))
    have e12 : (jm_sI h 12 f n (zI (md_jt d n))).1 12 f n = zI (md_jt d n) := sI_eq
    have ejt : (zI (md_jt d n : Int)).toNatClampNeg = md_jt d n := zI_cn (by omega)
    have g0 : ¬ zI g = 0 := by rw [zl_0, zI_eq (by omega) (by omega) (by omega) (by omega)]; omega
    have hit : jm_in (zI (md_jt d n : Int)) 6 := zI_in (by omega) (by omega) (by omega)
    have e13 : (jm_sI (jm_sI h 12 f n (zI (md_jt d n))) 13 f n (zI (md_ja d n))).1 13 f n = zI (md_ja d n) := sI_eq
    have e14 : ∀ hh : jm_H, (jm_sI hh 14 f n (zI (md_du d n))).1 14 f n = zI (md_du d n) := fun _ => sI_eq
    refine ⟨h', wp_Flow_lay_29 ⟨fun hc => ?_, fun _ => ?_⟩, c2.tr r2, r3⟩
    · rw [l3, zI_le (by omega) (by omega) (by omega) (by omega)] at hc; omega
    · simp only [zI_cn (show n ≤ 2147483647 by omega), vj.1, vj.2, e12, e13, ejt, vt.2.2.2, vt.2.2.1, l0]
      rw [zI_add (md_ja d n) (md_sp d (md_jt d n)), show md_ja d n + md_sp d (md_jt d n) = md_du d n from rfl]
      rw [e14, zI_add (md_ja d n) g, zl_1, zI_sub, zI_div (by omega) (by omega) (by omega) (by omega), zI_div (by omega) (by omega) (by omega) (by omega), zI_sub, zI_add]
      refine ⟨hi, hi, hi, hi, hi, hi, hit, hi, hi, hit, hi, hi, g0, hi, hi, g0, hi, ?_⟩
      rw [eh] at r1
      exact r1
theorem s_lay {f q : Nat} {h : jm_H} {d : MD} {g rs : Int} (v : vF h q d) (w : WFm d) (g1 : 4 ≤ g) (g2 : g ≤ 96) (r1 : 0 ≤ rs) (r2 : rs ≤ 100) : ∃ h', m_Flow_lay f q (zI g) (zI rs) h h' ∧ Ch (cL f) h h' ∧ FS h' f (md_jb d) (md_F d g) (if 0 < g - rs then g - rs else 0) (md_fi d g) (md_la d g) (md_c d) ∧ FT h' f d g := by
  have bd := md_bd w g1 g2
  have w5 := w.2.2.2.2.1
  have w3 := w.2.2.1
  obtain ⟨h2, eh⟩ : ∃ h2, h2 = jm_sI (jm_sI (jm_sI (jm_sI h 1 f 0 (zI g)) 1 f 1 (zI (if 0 < g - rs then g - rs else 0))) 1 f 2 (zI (md_F d g))) 1 f 3 (zI (md_jb d)) := ⟨_, rfl⟩
  have c2 : Ch (cL f) h h2 := by
    rw [eh]
    exact (((Ch.sI ⟨by omega, rfl⟩).tr (Ch.sI ⟨by omega, rfl⟩)).tr (Ch.sI ⟨by omega, rfl⟩)).tr (Ch.sI ⟨by omega, rfl⟩)
  have v2 : vF h2 q d := v.chg (fun K j hK => c2.at (by unfold cL; omega))
  have l0 : h2.1 1 f 0 = zI g := by rw [eh, sI_ne (by omega), sI_ne (by omega), sI_ne (by omega), sI_eq]
  have l1 : h2.1 1 f 1 = zI (if 0 < g - rs then g - rs else 0) := by rw [eh, sI_ne (by omega), sI_ne (by omega), sI_eq]
  have l2 : h2.1 1 f 2 = zI (md_F d g) := by rw [eh, sI_ne (by omega), sI_eq]
  have l3 : h2.1 1 f 3 = zI (md_jb d) := by rw [eh, sI_eq]
  obtain ⟨h', q1, q2, q3⟩ := s_lay_29 (f := f) w g1 g2 (md_jb d) 0 h2 (by omega) v2 l0 l3 (fun j hj => by omega)
  have eA : (if (1 : Int32) < zI g then zI g else 1) = zI g := if_pos (by rw [zl_1, zI_lt (by omega) (by omega) (by omega) (by omega)]; omega)
  have eB : (if (0 : Int32) < (zI g - zI rs) then (zI g - zI rs) else 0) = zI (if 0 < g - rs then g - rs else 0) := by
    rw [zI_sub, zl_0]
    by_cases hc : 0 < g - rs
    · rw [if_pos hc, if_pos ((zI_lt (by omega) (by omega) (by omega) (by omega)).mpr hc)]
    · rw [if_neg hc, if_neg (fun x => hc ((zI_lt (by omega) (by omega) (by omega) (by omega)).mp x))]
  have h1c : Ch (fun K i _ => K = 1 ∧ i = f) h (jm_sI (jm_sI h 1 f 0 (zI g)) 1 f 1 (zI (if 0 < g - rs then g - rs else 0))) := (Ch.sI ⟨rfl, rfl⟩).tr (Ch.sI ⟨rfl, rfl⟩)
  have hrd := s_round (v.chg (h' := jm_sI (jm_sI h 1 f 0 (zI g)) 1 f 1 (zI (if 0 < g - rs then g - rs else 0))) (fun K j hK => h1c.at (by omega))) w
  have l0' : (jm_sI (jm_sI h 1 f 0 (zI g)) 1 f 1 (zI (if 0 < g - rs then g - rs else 0))).1 1 f 0 = zI g := by rw [sI_ne (by omega), sI_eq]
  have ej : (jm_sI (jm_sI h 1 f 0 (zI g)) 1 f 1 (zI (if 0 < g - rs then g - rs else 0))).1 2 q 3 = zI (md_jb d) := by rw [h1c.at (by omega)]; exact v.2.2.2.1
  have eC : (if (zI (md_rd d) / zI g) < 24 then (zI (md_rd d) / zI g) else 24) = zI (md_F d g) := by
    rw [zI_div (by omega) (by omega) (by omega) (by omega), ← bd.2.1, zl_24]
    by_cases hc : (md_F d g : Int) < 24
    · rw [if_pos ((zI_lt (by omega) (by omega) (by omega) (by omega)).mpr hc)]
    · rw [if_neg (fun x => hc ((zI_lt (by omega) (by omega) (by omega) (by omega)).mp x)), show (md_F d g : Int) = 24 by omega]
  have eD : (if zI (md_jb d : Int) < 24 then zI (md_jb d : Int) else 24) = zI (md_jb d) := by
    rw [zl_24]
    by_cases hc : (md_jb d : Int) < 24
    · rw [if_pos ((zI_lt (by omega) (by omega) (by omega) (by omega)).mpr hc)]
    · rw [if_neg (fun x => hc ((zI_lt (by omega) (by omega) (by omega) (by omega)).mp x)), show (md_jb d : Int) = 24 by omega]
  refine ⟨h', wp_Flow_lay ⟨zI (md_rd d), jm_sI (jm_sI h 1 f 0 (zI g)) 1 f 1 (zI (if 0 < g - rs then g - rs else 0)), ?_, ?_, ?_⟩, c2.tr (q2.mono (fun K i _ x => ⟨by omega, x.2⟩)), ⟨w5, bd.1, ?_, ?_, ?_, ?_, fun j hj => ?_, fun j hj => ?_, fun j hj => ?_⟩, ?_, fun j hj => ?_⟩
  · rw [eA, eB]; exact hrd
  · rw [l0', zl_0, zI_eq (by omega) (by omega) (by omega) (by omega)]; omega
  · rw [l0', ej, eC, eD]
    rw [eh] at q1
    exact q1
  · split <;> omega
  · rw [q2.at (by omega)]; exact l1
  · rw [q2.at (by omega)]; exact l2
  · rw [q2.at (by omega)]; exact l3
  · exact ⟨(q3 j hj).2.2.2.2.1, (bd.2.2 j hj).1⟩
  · exact ⟨(q3 j hj).2.2.2.2.2, (bd.2.2 j hj).2.1⟩
  · exact ⟨(q3 j hj).2.2.2.1, by have := (bd.2.2 j hj).2.2.1; omega⟩
  · rw [q2.at (by omega)]; exact l0
  · exact ⟨(q3 j hj).1, (q3 j hj).2.1, (q3 j hj).2.2.1⟩
