/-! ===== a step, in the reference ===== -/
def exS (x3 : Int32) (h : jm_H) (r : jm_Rs) : Prop := ∃ h8 : jm_H, m_M_goesOn h h8 ∧ ((h8.1 56 0 8) = (h8.1 8 0 44) → r = (some (jm_i x3), (jm_sI (jm_sI (jm_sI (jm_sI (jm_sI h8 56 0 0 (h8.1 8 0 44)) 56 0 1 (h8.1 8 0 45)) 56 0 2 (h8.1 8 0 46)) 56 0 7 (-2)) 56 0 8 (-2)))) ∧ (¬ ((h8.1 56 0 8) = (h8.1 8 0 44)) → r = (some (jm_i x3), (jm_sI (jm_sI (jm_sI h8 56 0 0 (h8.1 8 0 44)) 56 0 1 (h8.1 8 0 45)) 56 0 2 (h8.1 8 0 46))))
def cSt : Nat → Nat → Nat → Prop := fun K _ j => K = 56 ∧ (j = 3 ∨ j = 4 ∨ j = 9 ∨ 10 ≤ j)
section STEPM
variable {B : Int} {nm : Nat} {D : Nat → MD} {c : CK}
theorem s_st_38 (w : wOk c) (w8 : k_wn c ≤ 8) {R tm : Int} {e : Nat} (R1 : R ≤ 100) (E : isE c R e) {x3 d0 le : Int32} : ∀ (q n : Nat) (h : jm_H), n + q = e → h.1 56 0 3 = zI ((k_wn c - n : Nat) : Int) → h.1 56 0 4 = d0 + zI n → h.1 56 0 9 = leF le tm (k_du c) n → (∀ i, i < k_wn c - n → h.1 56 0 (10 + i) = zI (k_ne c (n + i)) ∧ h.1 56 0 (19 + i) = zI (k_du c (n + i))) → ∃ h', h'.1 56 0 3 = zI ((k_wn c - e : Nat) : Int) ∧ h'.1 56 0 4 = d0 + zI e ∧ h'.1 56 0 9 = leF le tm (k_du c) e ∧ (∀ i, i < k_wn c - e → h'.1 56 0 (10 + i) = zI (neE c R e (e + i)) ∧ h'.1 56 0 (19 + i) = zI (k_du c (e + i))) ∧ Ch cSt h h' ∧ ∀ r, exS x3 h' r → l_M_steps_38 x3 (zI (R - sm n (k_ne c))) (zI tm) h r := by
  intro q
  induction q with
  | zero =>
    intro n h en h3 h4 h9 Z
    have en2 : n = e := by omega
    subst en2
    have e1 := E.2.1
    have nb := ne_b w n E.1
    by_cases hc : n = k_wn c
    · refine ⟨h, h3, h4, h9, fun i hi => by omega, Ch.rf h, fun r hr => wp_M_steps_38 ⟨fun _ => hr, fun _ => ⟨fun _ => hr, fun hx => ?_⟩⟩⟩
      rw [h3, show k_wn c - n = 0 by omega] at hx; exact absurd (by decide) hx
    · have hn : n < k_wn c := by have := E.1; omega
      have hw := w.2.1 n hn
      have e2 := E.2.2 hn
      rw [sm_s] at e2
      have z0 := Z 0 (by omega)
      have z1 : h.1 56 0 10 = zI (k_ne c n) := z0.1
      by_cases hl : R - sm n (k_ne c) ≤ 0
      · refine ⟨h, h3, h4, h9, fun i hi => ⟨?_, (Z i hi).2⟩, Ch.rf h, fun r hr => wp_M_steps_38 ⟨fun _ => hr, fun hx => ?_⟩⟩
        · rw [(Z i hi).1]
          unfold neE
          by_cases e3 : n + i = n
          · rw [if_neg (by omega), if_pos e3, e3]; congr 1; omega
          · rw [if_neg (by omega), if_neg e3]
        · rw [zl_0, zI_le (by omega) (by omega) (by omega) (by omega)] at hx; omega
      · obtain ⟨g, eg⟩ : ∃ g, g = jm_sI h 56 0 10 (zI (k_ne c n - (R - sm n (k_ne c)))) := ⟨_, rfl⟩
        have cg : Ch cSt h g := by rw [eg]; exact Ch.sI (by unfold cSt; omega)
        have q0 : zI (R - sm n (k_ne c)) - zI (R - sm n (k_ne c)) = zI 0 := by rw [zI_sub, Int.sub_self]
        refine ⟨g, by rw [eg, sI_ne (by omega)]; exact h3, by rw [eg, sI_ne (by omega)]; exact h4, by rw [eg, sI_ne (by omega)]; exact h9, fun i hi => ⟨?_, by rw [eg, sI_ne (by omega)]; exact (Z i hi).2⟩, cg, fun r hr => wp_M_steps_38 ⟨fun hx => ?_, fun _ => ⟨fun hx => ?_, fun _ => ⟨fun hx => ?_, fun _ => ⟨fun hx => ?_, fun _ => ?_⟩⟩⟩⟩⟩
        · unfold neE
          by_cases e3 : i = 0
          · subst e3
            rw [eg, if_neg (by omega), if_pos (by omega), sI_eq]
          · rw [eg, sI_ne (by omega), (Z i hi).1, if_neg (by omega), if_neg (by omega)]
        · rw [zl_0, zI_le (by omega) (by omega) (by omega) (by omega)] at hx; omega
        · rw [h3, zl_0, zI_le (by omega) (by omega) (by omega) (by omega)] at hx; omega
        · rw [z1, zI_le (by omega) (by omega) (by omega) (by omega)] at hx; omega
        · rw [z1, zI_sub, zl_0, zI_eq (by omega) (by omega) (by omega) (by omega)] at hx; omega
        · rw [z1, q0, zI_sub, ← eg]
          exact wp_M_steps_38 ⟨fun _ => hr, fun hx => absurd (by decide) hx⟩
  | succ q ih =>
    intro n h en h3 h4 h9 Z
    have hn : n < k_wn c := by have := E.1; omega
    have hw := w.2.1 n hn
    have e1 := E.2.1
    have e2 : sm (n + 1) (k_ne c) ≤ sm e (k_ne c) := sm_mono (fun q _ hq => by have := (w.2.1 q (by have := E.1; omega)).1; omega) (by omega)
    rw [sm_s] at e2
    have nb := ne_b w n (by omega)
    have z0 := Z 0 (by omega)
    have z1 : h.1 56 0 10 = zI (k_ne c n) := z0.1
    have z2 : h.1 56 0 19 = zI (k_du c n) := z0.2
    have q0 : zI (k_ne c n) - zI (k_ne c n) = zI 0 := by rw [zI_sub, Int.sub_self]
    have q1 : zI (R - sm n (k_ne c)) - zI (k_ne c n) = zI (R - sm (n + 1) (k_ne c)) := by
      rw [zI_sub, sm_s]; congr 1; omega
    obtain ⟨g, eg⟩ : ∃ g, g = jm_sI (jm_sI (jm_sI h 56 0 10 (zI 0)) 56 0 9 (leF le tm (k_du c) (n + 1))) 56 0 4 ((h.1 56 0 4) + 1) := ⟨_, rfl⟩
    have cg : Ch cSt h g := by
      rw [eg]
      exact ((Ch.sI (by unfold cSt; omega)).tr (Ch.sI (by unfold cSt; omega))).tr (Ch.sI (by unfold cSt; omega))
    obtain ⟨h10, t1, t2, t3, t4⟩ := s_takesOut (f := fun i => if i = 0 then 0 else k_ne c (n + i)) (g := fun i => k_du c (n + i)) (W := k_wn c - n) (p := 0) (h := g) (by omega) (by omega) (by rw [eg, sI_ne (by omega), sI_ne (by omega), sI_ne (by omega)]; exact h3) (fun i hi => by
        by_cases e3 : i = 0
        · subst e3
          rw [eg, sI_ne (by omega), sI_ne (by omega), sI_eq, sI_ne (by omega), sI_ne (by omega), sI_ne (by omega)]
          exact ⟨rfl, z0.2⟩
        · rw [eg, sI_ne (by omega), sI_ne (by omega), sI_ne (by omega), sI_ne (by omega), sI_ne (by omega), sI_ne (by omega), (Z i hi).1, (Z i hi).2, if_neg e3]
          exact ⟨rfl, rfl⟩)
    obtain ⟨h', a1, a2, a3, a4, a5, a6⟩ := ih (n + 1) h10 (by omega) (by rw [t2]; congr 1; omega) (by
        rw [t4.at (by unfold cW; omega), eg, sI_eq, h4, Int32.add_assoc, e_p1]) (by rw [t4.at (by unfold cW; omega), eg, sI_ne (by omega), sI_eq]) (fun i hi => by
        have := t3 i (by omega)
        rw [this.1, this.2, if_neg (by omega), if_neg (by omega), if_neg (by omega), show n + (i + 1) = n + 1 + i by omega]
        exact ⟨rfl, rfl⟩)
    have c3 : Ch cSt h h' := (cg.tr (t4.mono (fun K i j x => by unfold cW at x; unfold cSt; omega))).tr a5
    refine ⟨h', a1, a2, a3, a4, c3, fun r hr => ?_⟩
    have go := a6 r hr
    have hd : h.1 56 0 19 - zI tm = zI (k_du c n - tm) := by rw [z2, zI_sub]
    refine wp_M_steps_38 ⟨fun hx => ?_, fun _ => ⟨fun hx => ?_, fun _ => ⟨fun _ => ⟨fun _ => ⟨fun hy => ?_, fun hy => ⟨fun hz => ?_, fun hz => ?_⟩⟩, fun hx => ?_⟩, fun hx => ?_⟩⟩⟩
    · rw [zl_0, zI_le (by omega) (by omega) (by omega) (by omega)] at hx; omega
    · rw [h3, zl_0, zI_le (by omega) (by omega) (by omega) (by omega)] at hx; omega
    · refine ⟨h10, ?_, by rw [z1, q1]; exact go⟩
      rw [h9] at hy
      rw [leF_s, if_pos hy] at eg
      rw [z1, q0, hd, ← eg]; exact t1
    · refine ⟨h10, ?_, by rw [z1, q1]; exact go⟩
      rw [h9] at hy hz
      rw [hd] at hz
      rw [leF_s, if_neg hy, if_pos hz] at eg
      rw [z1, q0, h9, ← eg]; exact t1
    · refine ⟨h10, ?_, by rw [z1, q1]; exact go⟩
      rw [h9] at hy hz
      rw [hd] at hz
      rw [leF_s, if_neg hy, if_neg hz] at eg
      rw [z1, q0, hd, ← eg]; exact t1
    · rw [z1, q0] at hx; exact absurd rfl hx
    · rw [z1, zI_le (by omega) (by omega) (by omega) (by omega)] at hx; omega
theorem s_exS {h : jm_H} (S : swOk nm D c) (b : CB h nm D c) (C : CM h D c 0) {x3 : Int32} {R : Int} {e : Nat} (k7 : h.1 56 0 7 = zI (k_to c)) (k8 : h.1 56 0 8 = zI (k_at c)) : ∃ h', exS x3 h (some (jm_i x3), h') ∧ h'.1 56 0 0 = zI (aTi D c 1) ∧ h'.1 56 0 1 = zI (aMo D c 1) ∧ h'.1 56 0 2 = zI (aFr D c 1) ∧ h'.1 56 0 7 = zI (k_to (stp D c R e)) ∧ h'.1 56 0 8 = zI (k_at (stp D c R e)) ∧ Ch (fun K i j => c44 K i j ∨ (K = 56 ∧ (j = 0 ∨ j = 1 ∨ j = 2 ∨ j = 7 ∨ j = 8))) h h' := by
  obtain ⟨h8, g1, g2, g3⟩ := s_goesOn S b (n := 0) (by omega) C
  have t1 := ti_b S 1 (by omega)
  have hnow := S.2.2.2.2.2.1
  have hat : -2 ≤ k_at c ∧ k_at c ≤ 1000000600 := by
    rcases S.2.2.2.2.2.2 with y | ⟨_, _, _, z, y, _⟩ <;> omega
  have e44 : h8.1 8 0 44 = zI (aTi D c 1) := g2.1
  have e45 : h8.1 8 0 45 = zI (aMo D c 1) := g2.2.1
  have e46 : h8.1 8 0 46 = zI (aFr D c 1) := g2.2.2.1
  have e8 : h8.1 56 0 8 = zI (k_at c) := by rw [g3.at (by unfold c44; omega)]; exact k8
  have e7 : h8.1 56 0 7 = zI (k_to c) := by rw [g3.at (by unfold c44; omega)]; exact k7
  by_cases hc : k_at c = aTi D c 1
  · have eto : k_to (stp D c R e) = -2 := by
      show (if k_at c = aTi D c 1 then ((-2 : Int), (-2 : Int)) else (k_to c, k_at c)).1 = -2
      rw [if_pos hc]
    have eat : k_at (stp D c R e) = -2 := by
      show (if k_at c = aTi D c 1 then ((-2 : Int), (-2 : Int)) else (k_to c, k_at c)).2 = -2
      rw [if_pos hc]
    refine ⟨_, ⟨h8, g1, fun _ => rfl, fun hx => ?_⟩, ?_, ?_, ?_, ?_, ?_, ?_⟩
    · rw [e8, e44, hc] at hx; exact absurd rfl hx
    · rw [sI_ne (by omega), sI_ne (by omega), sI_ne (by omega), sI_ne (by omega), sI_eq]; exact e44
    · rw [sI_ne (by omega), sI_ne (by omega), sI_ne (by omega), sI_eq]; exact e45
    · rw [sI_ne (by omega), sI_ne (by omega), sI_eq]; exact e46
    · rw [sI_ne (by omega), sI_eq, eto]; rfl
    · rw [sI_eq, eat]; rfl
    · exact (((((g3.mono (fun K i j x => Or.inl x)).tr (Ch.sI (Or.inr (by omega)))).tr (Ch.sI (Or.inr (by omega)))).tr (Ch.sI (Or.inr (by omega)))).tr (Ch.sI (Or.inr (by omega)))).tr (Ch.sI (Or.inr (by omega)))
  · have eto : k_to (stp D c R e) = k_to c := by
      show (if k_at c = aTi D c 1 then ((-2 : Int), (-2 : Int)) else (k_to c, k_at c)).1 = k_to c
      rw [if_neg hc]
    have eat : k_at (stp D c R e) = k_at c := by
      show (if k_at c = aTi D c 1 then ((-2 : Int), (-2 : Int)) else (k_to c, k_at c)).2 = k_at c
      rw [if_neg hc]
    refine ⟨_, ⟨h8, g1, fun hx => ?_, fun _ => rfl⟩, ?_, ?_, ?_, ?_, ?_, ?_⟩
    · rw [e8, e44, zI_eq (by omega) (by omega) (by omega) (by omega)] at hx; exact absurd hx hc
    · rw [sI_ne (by omega), sI_ne (by omega), sI_eq]; exact e44
    · rw [sI_ne (by omega), sI_eq]; exact e45
    · rw [sI_eq]; exact e46
    · rw [sI_ne (by omega), sI_ne (by omega), sI_ne (by omega), eto]; exact e7
    · rw [sI_ne (by omega), sI_ne (by omega), sI_ne (by omega), eat]; exact e8
    · exact (((g3.mono (fun K i j x => Or.inl x)).tr (Ch.sI (Or.inr (by omega)))).tr (Ch.sI (Or.inr (by omega)))).tr (Ch.sI (Or.inr (by omega)))
noncomputable def gotF (D : Nat → MD) (c : CK) (x : Int) : Int := if spr D c < x then spr D c else x
def cS56 : Nat → Nat → Nat → Prop := fun K i j => c44 K i j ∨ K = 56
/-- from the clock as it stands, what is given known -/
theorem s_stepG {h : jm_H} (S : swOk nm D c) (Z : tId nm D) (w : wOk c) (w8 : k_wn c ≤ 8) (b : CB h nm D c) (k : KM h 56 c) {got R : Int} {e : Nat} (hR : R = aSl D c 0 - got) (R0 : 0 ≤ R) (g0 : 0 ≤ got) (E : isE c R e) : ∃ h2 h', m_M_looksAhead h h2 ∧ m_M_seenSlack h2 (zI (aSl D c 0)) h2 ∧ m_M_seenEnd h2 (zI (aTi D c 1)) h2 ∧ l_M_steps_38 (zI got) (zI (aSl D c 0) - zI got) (zI (aTi D c 1)) h2 (some (jm_i (zI got)), h') ∧ KM h' 56 (stp D c R e) ∧ Ch cS56 h h' := by
  have ab := asl_b S Z (n := 0) (by omega)
  obtain ⟨h2, l1, l2, l3⟩ := s_looksAhead S k
  have b2 := b.ch S (fun K j hK => l3.at (by unfold c44; omega))
  have k2 := k.chg (h' := h2) (fun j => l3.at (by unfold c44; omega))
  obtain ⟨k0, k1, k2', k3, k4, k5, k6, k7, k8, k9, k10⟩ := k2
  obtain ⟨h3, a1, a2, a3, a4, a5, a6⟩ := s_st_38 w w8 (R := R) (tm := aTi D c 1) (x3 := zI got) (d0 := k_do c) (le := k_le c) (by omega) E e 0 h2 (by omega) k3 (by rw [k4, show zI ((0 : Nat) : Int) = 0 from rfl, Int32.add_zero]) k9 (fun i hi => by rw [Nat.zero_add]; exact k10 i hi)
  have b3 := b2.ch S (fun K j hK => a5.at (by unfold cSt; omega))
  have C3 : CM h3 D c 0 := ⟨by rw [a5.at (by unfold cSt; omega)]; exact l2.1, by rw [a5.at (by unfold cSt; omega)]; exact l2.2.1, by rw [a5.at (by unfold cSt; omega)]; exact l2.2.2.1, by rw [a5.at (by unfold cSt; omega)]; exact l2.2.2.2.1, by rw [a5.at (by unfold cSt; omega)]; exact l2.2.2.2.2⟩
  obtain ⟨h4, x1, x2, x3, x4, x5, x6, x7⟩ := s_exS (x3 := zI got) (R := R) (e := e) S b3 C3 (by rw [a5.at (by unfold cSt; omega)]; exact k7) (by rw [a5.at (by unfold cSt; omega)]; exact k8)
  have lo := a6 _ x1
  rw [sm_0, Int.sub_zero] at lo
  refine ⟨h2, h4, l1, s_seenSlack S b2 (by omega) l2, s_seenEnd S b2 (by omega) l2, by rw [zI_sub, ← hR]; exact lo, ⟨x2, x3, x4, ?_, ?_, ?_, ?_, x5, x6, ?_, fun i hi => ?_⟩, ?_⟩
  · rw [x7.at (by unfold c44; omega)]; exact a1
  · rw [x7.at (by unfold c44; omega)]; exact a2
  · rw [x7.at (by unfold c44; omega), a5.at (by unfold cSt; omega)]; exact k5
  · rw [x7.at (by unfold c44; omega), a5.at (by unfold cSt; omega)]; exact k6
  · rw [x7.at (by unfold c44; omega)]; exact a3
  · have hi' : i < k_wn c - e := hi
    rw [x7.at (by unfold c44; omega), x7.at (by unfold c44; omega)]; exact a4 i hi'
  · exact ((l3.mono (fun K i j q => Or.inl q)).tr (a5.mono (fun K i j q => by unfold cSt at q; exact Or.inr q.1))).tr (x7.mono (fun K i j q => by
      rcases q with q | q
      · exact Or.inl q
      · exact Or.inr q.1))
theorem KM.setO {h : jm_H} {ov cu : Int32} (k : KM h 56 c) : KM (jm_sI (jm_sI h 56 0 5 ov) 56 0 6 cu) 56 (setO c ov cu) := by
  obtain ⟨k0, k1, k2, k3, k4, k5, k6, k7, k8, k9, k10⟩ := k
  refine ⟨?_, ?_, ?_, ?_, ?_, ?_, ?_, ?_, ?_, ?_, fun i hi => ?_⟩
  · rw [sI_ne (by omega), sI_ne (by omega)]; exact k0
  · rw [sI_ne (by omega), sI_ne (by omega)]; exact k1
  · rw [sI_ne (by omega), sI_ne (by omega)]; exact k2
  · rw [sI_ne (by omega), sI_ne (by omega)]; exact k3
  · rw [sI_ne (by omega), sI_ne (by omega)]; exact k4
  · rw [sI_ne (by omega), sI_eq]; rfl
  · rw [sI_eq]; rfl
  · rw [sI_ne (by omega), sI_ne (by omega)]; exact k7
  · rw [sI_ne (by omega), sI_ne (by omega)]; exact k8
  · rw [sI_ne (by omega), sI_ne (by omega)]; exact k9
  · rw [sI_ne (by omega), sI_ne (by omega), sI_ne (by omega), sI_ne (by omega)]; exact k10 i hi
theorem KF.setO {h : jm_H} {ov cu : Int32} (k : KF h 0 c) : KF (jm_sI (jm_sI h 0 0 5 ov) 0 0 6 cu) 0 (setO c ov cu) := by
  obtain ⟨k0, k1, k2, k3, k4, k5, k6, k7, k8, k9, k10⟩ := k
  refine ⟨?_, ?_, ?_, ?_, ?_, ?_, ?_, ?_, ?_, ?_, fun i hi => ?_⟩
  · rw [sI_ne (by omega), sI_ne (by omega)]; exact k0
  · rw [sI_ne (by omega), sI_ne (by omega)]; exact k1
  · rw [sI_ne (by omega), sI_ne (by omega)]; exact k2
  · rw [sI_ne (by omega), sI_ne (by omega)]; exact k3
  · rw [sI_ne (by omega), sI_ne (by omega)]; exact k4
  · rw [sI_ne (by omega), sI_eq]; rfl
  · rw [sI_eq]; rfl
  · rw [sI_ne (by omega), sI_ne (by omega)]; exact k7
  · rw [sI_ne (by omega), sI_ne (by omega)]; exact k8
  · rw [sI_ne (by omega), sI_ne (by omega)]; exact k9
  · rw [sI_ne (by omega), sI_ne (by omega), sI_ne (by omega), sI_ne (by omega)]; exact k10 i hi
def afO (c : CK) (x got : Int) : CK := setO c (k_ov c + zI got) (k_cu c + (zI x - zI got))
theorem s_steps {h : jm_H} (S : swOk nm D c) (Z : tId nm D) (w : wOk c) (w8 : k_wn c ≤ 8) (It : InT D c 0) (b : CB h nm D c) (k : KM h 56 c) {x R : Int} {e : Nat} (x0 : 0 ≤ x) (x1 : x ≤ 99) (hR : R = aSl D c 0 - gotF D c x) (E : isE c R e) : ∃ h', m_M_steps (zI x) h (zI (gotF D c x)) h' ∧ KM h' 56 (stp D (afO c x (gotF D c x)) R e) ∧ Ch cS56 h h' := by
  have sb := spr_b S Z w It
  have gb : 0 ≤ gotF D c x ∧ gotF D c x ≤ spr D c := by
    unfold gotF
    split <;> omega
  obtain ⟨h1, s1, s2⟩ := s_spM S Z w It b k
  have b1 := b.ch S (fun K j hK => s2.at (by unfold c44; omega))
  have k1 := k.chg (h' := h1) (fun j => s2.at (by unfold c44; omega))
  obtain ⟨g, eg⟩ : ∃ g, g = jm_sI (jm_sI h1 56 0 5 (k_ov c + zI (gotF D c x))) 56 0 6 (k_cu c + (zI x - zI (gotF D c x))) := ⟨_, rfl⟩
  have kg : KM g 56 (afO c x (gotF D c x)) := by rw [eg]; exact k1.setO
  have cg : Ch (fun K _ _ => K = 56) h1 g := by
    rw [eg]
    exact (Ch.sI rfl).tr (Ch.sI rfl)
  have bg : CB g nm D (afO c x (gotF D c x)) := b1.ch S (fun K j hK => cg.at (by omega))
  obtain ⟨h2, h', q1, q2, q3, q4, q5, q6⟩ := s_stepG (c := afO c x (gotF D c x)) (got := gotF D c x) (R := R) (e := e) S Z w w8 bg kg hR (by omega) gb.1 E
  have e5 : h1.1 56 0 5 = k_ov c := k1.2.2.2.2.2.1
  have e6 : h1.1 56 0 6 = k_cu c := k1.2.2.2.2.2.2.1
  refine ⟨h', ?_, q5, ((s2.mono (fun K i j q => Or.inl q)).tr (cg.mono (fun K i j q => Or.inr q))).tr q6⟩
  refine wp_M_steps ⟨_, h1, s1, fun hc => ?_, fun hc => ?_⟩
  · rw [zI_le (by omega) (by omega) (by omega) (by omega)] at hc
    have eq : spr D c = gotF D c x := by
      unfold gotF
      split <;> omega
    rw [e5, e6, eq]
    exact ⟨h2, by rw [← eg]; exact q1, _, h2, q2, _, h2, q3, q4⟩
  · rw [zI_le (by omega) (by omega) (by omega) (by omega)] at hc
    have eq : gotF D c x = x := by
      unfold gotF
      rw [if_neg (by omega)]
    have eg' := eg
    rw [eq] at eg' q4
    rw [e5, e6, eq]
    exact ⟨h2, by rw [← eg']; exact q1, _, h2, q2, _, h2, q3, q4⟩
theorem CB.stp {h : jm_H} (S : swOk nm D c) (b : CB h nm D c) {R : Int} {e : Nat} : CB h nm D (stp D c R e) := by
  refine ⟨b.1, b.tl S (n := 1) (by omega), fun hx => ?_⟩
  by_cases hc : k_at c = aTi D c 1
  · have : k_to (Jvm.Pilot.CFrameRoundLaw_law_r7718_4414e1.stp D c R e) = -2 := by
      show (if k_at c = aTi D c 1 then ((-2 : Int), (-2 : Int)) else (k_to c, k_at c)).1 = -2
      rw [if_pos hc]
    omega
  · have e1 : k_to (Jvm.Pilot.CFrameRoundLaw_law_r7718_4414e1.stp D c R e) = k_to c := by
      show (if k_at c = aTi D c 1 then ((-2 : Int), (-2 : Int)) else (k_to c, k_at c)).1 = k_to c
      rw [if_neg hc]
    rw [e1] at hx ⊢
    exact b.2.2 hx
theorem CB.l {h : jm_H} {c : CK} (b : CB h nm D c) : ckL h D c := ⟨fun _ => b.2.1, fun x => ⟨b.2.1, b.2.2 x⟩⟩
theorem cKY_56 {h h' : jm_H} (a : Ch cS56 h h') : Ch cKY h h' := a.mono (fun K i j x => by unfold cS56 c44 at x; unfold cKY cM2 cMs; omega)
theorem cKY_Av {h h' : jm_H} (a : Ch cAv h h') : Ch cKY h h' := a.mono (fun K i j x => by unfold cAv at x; unfold cKY; omega)
end STEPM
section STEPX
variable {B : Int} {h : jm_H} {nm : Nat} {D : Nat → MD} {c : CK}
theorem c_step (hB : B ≤ 900000000) (I : INV B h) (a : Int32) : ∃ v h1 h2, m_FR_step a h v h1 ∧ m_M_step a h1 v h2 ∧ INV (B + 60) h2 := by
  obtain ⟨nm, D, P, C, T, Q⟩ := I
  obtain ⟨x, rfl, x1, x2⟩ := i32x a
  have F : ∀ (t : Int32), ¬ t = 0 → m_FR_clockRefusal 0 h t h → (0 ≤ x ∧ x ≤ 99 → m_FR_clockRefusal 1 h t h) → m_FR_step (zI x) h (-1) (jm_sI h 7 0 8 t) := fun t tn R0 R1 => by
    refine wp_FR_step ⟨fun _ => ⟨t, h, R0, fun hc => absurd hc tn, fun _ => ⟨_, _, wp_FR_refused rfl, rfl⟩⟩, fun hx => ⟨fun _ => ⟨t, h, R0, fun hc => absurd hc tn, fun _ => ⟨_, _, wp_FR_refused rfl, rfl⟩⟩, fun hx2 => ⟨t, h, R1 ?_, fun hc => absurd hc tn, fun _ => ⟨_, _, wp_FR_refused rfl, rfl⟩⟩⟩⟩
    rw [zl_0, zI_lt (by omega) (by omega) (by omega) (by omega)] at hx
    rw [zl_99, zI_lt (by omega) (by omega) (by omega) (by omega)] at hx2
    omega
  by_cases hz : nm = 0
  · exact ⟨_, _, _, F 1 (by decide) (s_clR1 P hz) (fun _ => s_clR1 P hz), wp_M_step ⟨_, s_an, 1, _, s_clW1 (PLa P 1) hz, fun hc => absurd hc (by decide), fun _ => ⟨_, _, wp_M_no rfl, rfl⟩⟩, (ref_inv P C T Q (t := 1) (by decide)).mono (by omega)⟩
  · obtain ⟨c, k1, k2, k3, k4⟩ := C.2.1 (by omega)
    by_cases G : gdm (D (k_mo c))
    · have R := s_clR P k1 k3.2.1 G
      by_cases hx : 0 ≤ x ∧ x ≤ 99
      · obtain ⟨S, w, It⟩ := sw_of P k3 G (by omega)
        have Z := P.tId
        have w8 := k3.2.2.1
        have hs := sN_pos k3 S
        have sb := spr_b S Z w It
        have gb : 0 ≤ gotF D c x ∧ gotF D c x ≤ spr D c := by
          unfold gotF
          split <;> omega
        obtain ⟨r, er⟩ : ∃ r : Int, r = aSl D c 0 - gotF D c x := ⟨_, rfl⟩
        obtain ⟨e, E⟩ := isE_ex c (R := r) (by omega)
        -- the class
        have cls : ∃ h3, m_FR_step (zI x) h (zI (gotF D c x)) (jm_sI h3 7 0 8 0) ∧ KF h3 0 (stp D (afO c x (gotF D c x)) r e) ∧ Ch cKY h h3 ∧ (∀ j, h3.1 56 0 j = h.1 56 0 j) := by
          by_cases h0 : x = 0
          · subst h0
            have eg0 : gotF D c 0 = 0 := by
              unfold gotF
              rw [if_neg (by omega)]
            obtain ⟨g, eg⟩ : ∃ g, g = jm_sI (jm_sI h 0 0 5 (k_ov c + zI (gotF D c 0))) 0 0 6 (k_cu c + (zI 0 - zI (gotF D c 0))) := ⟨_, rfl⟩
            have cg : Ch cAv h g := by
              rw [eg]
              exact (Ch.sI (by unfold cAv; omega)).tr (Ch.sI (by unfold cAv; omega))
            have kg : KF g 0 (afO c 0 (gotF D c 0)) := by rw [eg]; exact k1.setO
            obtain ⟨h3, q1, q2, q3⟩ := s_goThrough (c := afO c 0 (gotF D c 0)) (got := gotF D c 0) (R := r) (e := e) (P.k (KX.of P (cKY_Av cg))) S Z w w8 hs kg gb.1 er (by omega) E
            refine ⟨h3, wp_FR_step ⟨fun hc => absurd hc (by decide), fun _ => ⟨fun hc => absurd hc (by decide), fun _ => ⟨0, h, R.2, fun _ => ⟨fun _ => ⟨h3, ?_, _, _, wp_FR_answered rfl, ?_⟩, fun hc => absurd rfl hc⟩, fun hc => absurd rfl hc⟩⟩⟩, q2, (cKY_Av cg).tr (cKY_Av q3), fun j => by rw [q3.at (by unfold cAv; omega), cg.at (by unfold cAv; omega)]⟩
            · rw [eg0] at eg q1
              rw [k1.2.2.2.2.2.1, k1.2.2.2.2.2.2.1]
              have e2 : jm_sI (jm_sI h 0 0 5 (k_ov c + 0)) 0 0 6 (k_cu c + (zI 0 - 0)) = g := by rw [eg]; rfl
              rw [e2]; exact q1
            · rw [eg0]; rfl
          · obtain ⟨h4, p1, p2⟩ := s_spF P S Z w w8 It hs k1
            have k4' := sv_k k1 p2
            have eGt : (if zI (spr D c) < zI x then zI (spr D c) else zI x) = zI (gotF D c x) := by
              unfold gotF
              by_cases hc : spr D c < x
              · rw [if_pos hc, if_pos (by rw [zI_lt (by omega) (by omega) (by omega) (by omega)]; exact hc)]
              · rw [if_neg hc, if_neg (by rw [zI_lt (by omega) (by omega) (by omega) (by omega)]; exact hc)]
            obtain ⟨g, eg⟩ : ∃ g, g = jm_sI (jm_sI h4 0 0 5 (k_ov c + zI (gotF D c x))) 0 0 6 (k_cu c + (zI x - zI (gotF D c x))) := ⟨_, rfl⟩
            have cg : Ch cAv h4 g := by
              rw [eg]
              exact (Ch.sI (by unfold cAv; omega)).tr (Ch.sI (by unfold cAv; omega))
            have kg : KF g 0 (afO c x (gotF D c x)) := by rw [eg]; exact k4'.setO
            have c0 : Ch cKY h g := (cKY_F (svX p2)).tr (cKY_Av cg)
            obtain ⟨h3, q1, q2, q3⟩ := s_goThrough (c := afO c x (gotF D c x)) (got := gotF D c x) (R := r) (e := e) (P.k (KX.of P c0)) S Z w w8 hs kg gb.1 er (by omega) E
            refine ⟨h3, wp_FR_step ⟨fun hc => ?_, fun _ => ⟨fun hc => ?_, fun _ => ⟨0, h, R.2, fun _ => ⟨fun hc => ?_, fun _ => ⟨_, h4, p1, ?_⟩⟩, fun hc => absurd rfl hc⟩⟩⟩, q2, c0.tr (cKY_Av q3), fun j => by rw [q3.at (by unfold cAv; omega), cg.at (by unfold cAv; omega), p2.at (by omega)]⟩
            · rw [zl_0, zI_lt (by omega) (by omega) (by omega) (by omega)] at hc; omega
            · rw [zl_99, zI_lt (by omega) (by omega) (by omega) (by omega)] at hc; omega
            · rw [zl_0, zI_eq (by omega) (by omega) (by omega) (by omega)] at hc; omega
            · rw [eGt, k4'.2.2.2.2.2.1, k4'.2.2.2.2.2.2.1, ← eg]
              exact ⟨h3, q1, _, _, wp_FR_answered rfl, rfl⟩
        obtain ⟨h3, f1, f2, f3, f56⟩ := cls
        have X1 : KX nm D h (jm_sI h3 7 0 8 0) := KX.of P (f3.tr (Ch.sI (by unfold cKY cFX; omega)))
        have P1 := P.k X1
        obtain ⟨h4, b1, b2, b3, b4, b5, b6, b7, b8⟩ := ref_go P1 (k2.chg (fun j => by rw [sI_ne (by omega)]; exact f56 j)) k3 (k4.M k3 (fun m hm => (X1.2 m hm).2)) G
        obtain ⟨h5, r1, r2, r3⟩ := s_steps S Z w w8 It b4 b3 hx.1 hx.2 er E
        have X3 : KX nm D h4 h5 := KX.of P (cKY_56 r3)
        have ok := stp_ok (c := afO c x (gotF D c x)) S Z k3 w gb.1 er (by omega) ((lm_InT S Z w (X := gotF D c x) (by omega)).mp (by omega)) E
        have b9 : CB h5 nm D (stp D (afO c x (gotF D c x)) r e) := CB.stp (c := afO c x (gotF D c x)) S (b4.ch S (fun K j hK => r3.at (by unfold cS56 c44; omega)))
        exact ⟨_, _, h5, f1, wp_M_step ⟨_, s_an, 0, h4, b1, fun _ => ⟨_, h4, s_in (x := x) (a := 0) (b := 99) x1 x2 (by omega) (by omega) (by omega) (by omega), fun hc => absurd hc (nz1 hx), fun _ => ⟨_, h5, r1, rfl⟩⟩, fun hc => absurd rfl hc⟩, INV.mk2 P C T Q (by omega) ((X1.tr (KX.m b6)).tr X3) (by omega) (f2.chg (fun K j hK => by rw [r3.at (by unfold cS56 c44; omega), mx_c b6 (by omega), sI_ne (by omega)])) r2 ok b9.l (t := 0) (by rw [r3.at (by unfold cS56 c44; omega), mx_c b6 (by omega), sI_eq]) (by rw [r3.at (by unfold cS56 c44; omega)]; exact b7) (by decide)⟩
      · obtain ⟨h2, b1, b2, b3⟩ := ref_no2 P k2 k3 G
        exact ⟨_, _, _, F 2 (by decide) R.1 (fun q => absurd q hx), wp_M_step ⟨_, s_an, 0, h2, b1, fun _ => ⟨_, h2, s_in (x := x) (a := 0) (b := 99) x1 x2 (by omega) (by omega) (by omega) (by omega), fun _ => ⟨_, _, wp_M_no rfl, rfl⟩, fun hc => absurd (nz0 hx) hc⟩, fun hc => absurd rfl hc⟩, (no_inv P C T Q (Ch.rf h) b2 (t := 2) (by decide)).mono (by omega)⟩
    · obtain ⟨h2, b1, b2⟩ := ref_no5 P k2 k3 G
      exact ⟨_, _, _, F 5 (by decide) (s_clR5 P k1 k3.2.1 G) (fun _ => s_clR5 P k1 k3.2.1 G), wp_M_step ⟨_, s_an, 5, h2, b1, fun hc => absurd hc (by decide), fun _ => ⟨_, _, wp_M_no rfl, rfl⟩⟩, (no_inv P C T Q (Ch.rf h) b2 (t := 5) (by decide)).mono (by omega)⟩
end STEPX
