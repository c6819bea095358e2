/-! ===== a step, in the class ===== -/
def cAv : Nat → Nat → Nat → Prop := fun K i _ => (K = 0 ∨ K = 10 ∨ K = 11) ∧ i = 0
def cA10 : Nat → Nat → Nat → Prop := fun K i _ => K = 10 ∧ i = 0
def cA4 : Nat → Nat → Nat → Prop := fun K i j => (K = 10 ∨ (K = 0 ∧ (j = 4 ∨ j = 9))) ∧ i = 0
def exA (x5 : Int32) (h : jm_H) (r : jm_Rs) : Prop := ∃ h1 : jm_H, m_Clock_removeFirst 0 x5 h h1 ∧ ∃ h2 : jm_H, m_Clock_switchIfTime 0 h1 h2 ∧ r = (none, h2)
section STEPC
variable {B : Int} {nm : Nat} {D : Nat → MD} {c : CK}
theorem s_adv2 {x5 : Int32} {W : Nat} (hW : W ≤ 8) {f : Nat → Int} : ∀ (e n : Nat) (h : jm_H), n + e = W → h.1 0 0 3 = zI W → (∀ i, i < W → h.1 10 0 i = zI (f i)) → (∀ i, n ≤ i → i < W → 1 ≤ f i ∧ f i ≤ 400) → ∃ h', (∀ i, i < W → h'.1 10 0 i = zI (f i)) ∧ Ch cA10 h h' ∧ ∀ r, exA x5 h' r → l_Clock_advance_26 0 (zI 0) x5 (zI n) h r := by
  intro e
  induction e with
  | zero =>
    intro n h en h3 Z1 Z2
    refine ⟨h, Z1, Ch.rf h, fun r hr => wp_Clock_advance_26 ⟨fun _ => hr, fun hc => ?_⟩⟩
    rw [h3, zI_le (by omega) (by omega) (by omega) (by omega)] at hc; omega
  | succ e ih =>
    intro n h en h3 Z1 Z2
    have z1 := Z1 n (by omega)
    have z2 := Z2 n (Nat.le_refl _) (by omega)
    have en' : (zI (n : Int)).toNatClampNeg = n := zI_cn (by omega)
    have am : (if zI (f n) < zI 0 then zI (f n) else zI 0) = zI 0 := if_neg (by rw [zI_lt (by omega) (by omega) (by omega) (by omega)]; omega)
    have q0 : zI 0 - zI 0 = zI 0 := by decide
    have q1 : zI (f n) - zI 0 = zI (f n) := by rw [zI_sub, Int.sub_zero]
    obtain ⟨g, eg⟩ : ∃ g, g = jm_sI h 10 0 n (zI (f n)) := ⟨_, rfl⟩
    have cg : Ch cA10 h g := by rw [eg]; exact Ch.sI ⟨rfl, rfl⟩
    obtain ⟨h', a1, a2, a3⟩ := ih (n + 1) g (by omega) (by rw [cg.at (by unfold cA10; omega)]; exact h3) (fun i hi => by
        by_cases ei : i = n
        · rw [eg, ei, sI_eq]
        · rw [eg, sI_ne (by omega)]; exact Z1 i hi) (fun i h1 h2 => Z2 i (by omega) h2)
    refine ⟨h', a1, cg.tr a2, fun r hr => wp_Clock_advance_26 ⟨fun hc => ?_, fun _ => ?_⟩⟩
    · rw [h3, zI_le (by omega) (by omega) (by omega) (by omega)] at hc; omega
    · rw [en', z1, am, q1, q0, ← eg]
      refine ⟨zI_in (by omega) (by omega) (by omega), zI_in (by omega) (by omega) (by omega), zI_in (by omega) (by omega) (by omega), zI_in (by omega) (by omega) (by omega), fun hc => ?_, fun _ => ?_⟩
      · rw [eg, sI_eq, zl_0, zI_eq (by omega) (by omega) (by omega) (by omega)] at hc; omega
      · rw [e_p1]; exact a3 r hr
theorem s_noteDone {h : jm_H} {d : Int} {le : Int32} (e9 : h.1 0 0 9 = le) : ∃ h', m_Clock_noteDone 0 (zI d) h h' ∧ h'.1 0 0 4 = h.1 0 0 4 + 1 ∧ h'.1 0 0 9 = (if le = -2 then zI d else if le ≤ zI d then le else zI d) ∧ Ch (fun K i j => K = 0 ∧ i = 0 ∧ (j = 4 ∨ j = 9)) h h' := by
  by_cases h1 : le = -2
  · refine ⟨jm_sI (jm_sI h 0 0 4 ((h.1 0 0 4) + 1)) 0 0 9 (zI d), wp_Clock_noteDone ⟨fun _ => rfl, fun hc => absurd (e9.trans h1) hc⟩, ?_, ?_, (Ch.sI (by omega)).tr (Ch.sI (by omega))⟩
    · rw [sI_ne (by omega), sI_eq]
    · rw [sI_eq, if_pos h1]
  · by_cases h2 : le ≤ zI d
    · refine ⟨jm_sI h 0 0 4 ((h.1 0 0 4) + 1), wp_Clock_noteDone ⟨fun hc => absurd (e9.symm.trans hc) h1, fun _ => ⟨fun _ => rfl, fun hc => absurd (by rw [e9]; exact h2) hc⟩⟩, sI_eq, ?_, Ch.sI (by omega)⟩
      rw [sI_ne (by omega), e9, if_neg h1, if_pos h2]
    · refine ⟨jm_sI (jm_sI h 0 0 4 ((h.1 0 0 4) + 1)) 0 0 9 (zI d), wp_Clock_noteDone ⟨fun hc => absurd (e9.symm.trans hc) h1, fun _ => ⟨fun hc => absurd (by rw [← e9]; exact hc) h2, fun _ => rfl⟩⟩, ?_, ?_, (Ch.sI (by omega)).tr (Ch.sI (by omega))⟩
      · rw [sI_ne (by omega), sI_eq]
      · rw [sI_eq, if_neg h1, if_neg h2]
theorem s_adv1 (w : wOk c) (w8 : k_wn c ≤ 8) {R tm : Int} {e : Nat} (R1 : R ≤ 100) (E : isE c R e) {d0 le : Int32} (tb : 0 ≤ tm ∧ tm ≤ 1000000100) (db : ∀ i, i < k_wn c → 0 ≤ k_du c i ∧ k_du c i ≤ 1000000500) : ∀ (q n : Nat) (h : jm_H), n + q = e → h.1 0 0 3 = zI (k_wn c) → h.1 0 0 0 = zI tm → h.1 0 0 4 = d0 + zI n → h.1 0 0 9 = leF le tm (k_du c) n → (∀ i, i < k_wn c → h.1 10 0 i = zI (if i < n then 0 else k_ne c i)) → (∀ i, i < k_wn c → h.1 11 0 i = zI (k_du c i)) → ∃ h', h'.1 0 0 4 = d0 + zI e ∧ h'.1 0 0 9 = leF le tm (k_du c) e ∧ (∀ i, i < k_wn c → h'.1 10 0 i = zI (neE c R e i)) ∧ Ch cA4 h h' ∧ ∀ r, exA (zI e) h' r → l_Clock_advance_26 0 (zI (R - sm n (k_ne c))) (zI n) (zI n) h r := by
  intro q
  induction q with
  | zero =>
    intro n h en h3 h0 h4 h9 Z1 Z2
    have en2 : n = e := by omega
    subst en2
    by_cases hc : n = k_wn c
    · refine ⟨h, h4, h9, fun i hi => ?_, Ch.rf h, fun r hr => wp_Clock_advance_26 ⟨fun _ => hr, fun hx => ?_⟩⟩
      · rw [Z1 i hi]
        unfold neE
        rw [if_pos (by omega), if_pos (by omega)]
      · rw [h3, zI_le (by omega) (by omega) (by omega) (by omega)] at hx; omega
    · have hn : n < k_wn c := by have := E.1; omega
      have hw := w.2.1 n hn
      have e1 := E.2.1
      have e2 := E.2.2 hn
      rw [sm_s] at e2
      have nb := ne_b w n (by omega)
      have z1 := Z1 n hn
      rw [if_neg (by omega)] at z1
      have en' : (zI (n : Int)).toNatClampNeg = n := zI_cn (by omega)
      have am : (if zI (k_ne c n) < zI (R - sm n (k_ne c)) then zI (k_ne c n) else zI (R - sm n (k_ne c))) = zI (R - sm n (k_ne c)) := if_neg (by rw [zI_lt (by omega) (by omega) (by omega) (by omega)]; omega)
      have q0 : zI (R - sm n (k_ne c)) - zI (R - sm n (k_ne c)) = zI 0 := by rw [zI_sub, Int.sub_self]
      obtain ⟨g, eg⟩ : ∃ g, g = jm_sI h 10 0 n (zI (k_ne c n - (R - sm n (k_ne c)))) := ⟨_, rfl⟩
      have cg : Ch cA10 h g := by rw [eg]; exact Ch.sI ⟨rfl, rfl⟩
      obtain ⟨h', a1, a2, a3⟩ := s_adv2 (x5 := zI (n : Int)) w8 (f := neE c R n) (k_wn c - (n + 1)) (n + 1) g (by omega) (by rw [cg.at (by unfold cA10; omega)]; exact h3) (fun i hi => by
          unfold neE
          by_cases ei : i = n
          · rw [eg, ei, sI_eq, if_neg (by omega), if_pos rfl]
          · rw [eg, sI_ne (by omega), Z1 i hi]
            by_cases e3 : i < n
            · rw [if_pos e3, if_pos e3]
            · rw [if_neg e3, if_neg e3, if_neg ei]) (fun i h1 h2 => by
          unfold neE
          rw [if_neg (by omega), if_neg (by omega)]
          have := w.2.1 i h2
          omega)
      have c2 := cg.tr a2
      refine ⟨h', by rw [c2.at (by unfold cA10; omega)]; exact h4, by rw [c2.at (by unfold cA10; omega)]; exact h9, a1, c2.mono (fun K i j x => by unfold cA10 at x; unfold cA4; omega), fun r hr => wp_Clock_advance_26 ⟨fun hx => ?_, fun _ => ?_⟩⟩
      · rw [h3, zI_le (by omega) (by omega) (by omega) (by omega)] at hx; omega
      · rw [en', z1, am, q0, zI_sub, ← eg]
        refine ⟨zI_in (by omega) (by omega) (by omega), zI_in (by omega) (by omega) (by omega), zI_in (by omega) (by omega) (by omega), zI_in (by omega) (by omega) (by omega), fun hx => ?_, fun _ => ?_⟩
        · rw [eg, sI_eq, zl_0, zI_eq (by omega) (by omega) (by omega) (by omega)] at hx; omega
        · rw [e_p1]; exact a3 r hr
  | succ q ih =>
    intro n h en h3 h0 h4 h9 Z1 Z2
    have hn : n < k_wn c := by have := E.1; omega
    have hw := w.2.1 n hn
    have hdb := db n hn
    have e1 := E.2.1
    have e2 : sm (n + 1) (k_ne c) ≤ sm e (k_ne c) := sm_mono (fun q _ hq => by have := (w.2.1 q (by have := E.1; omega)).1; omega) (by omega)
    rw [sm_s] at e2
    have nb := ne_b w n (by omega)
    have z1 := Z1 n hn
    rw [if_neg (by omega)] at z1
    have z2 := Z2 n hn
    have en' : (zI (n : Int)).toNatClampNeg = n := zI_cn (by omega)
    have am : (if zI (k_ne c n) < zI (R - sm n (k_ne c)) then zI (k_ne c n) else zI (R - sm n (k_ne c))) = zI (k_ne c n) := by
      by_cases hx : k_ne c n < R - sm n (k_ne c)
      · rw [if_pos (by rw [zI_lt (by omega) (by omega) (by omega) (by omega)]; exact hx)]
      · rw [if_neg (by rw [zI_lt (by omega) (by omega) (by omega) (by omega)]; exact hx)]; congr 1; omega
    have q0 : zI (k_ne c n) - zI (k_ne c n) = zI 0 := by rw [zI_sub, Int.sub_self]
    have q1 : zI (R - sm n (k_ne c)) - zI (k_ne c n) = zI (R - sm (n + 1) (k_ne c)) := by
      rw [zI_sub, sm_s]; congr 1; omega
    obtain ⟨g, eg⟩ : ∃ g, g = jm_sI h 10 0 n (zI 0) := ⟨_, rfl⟩
    have cg : Ch cA10 h g := by rw [eg]; exact Ch.sI ⟨rfl, rfl⟩
    obtain ⟨g2, d1, d2, d3, d4⟩ := s_noteDone (h := g) (d := k_du c n - tm) (le := leF le tm (k_du c) n) (by rw [cg.at (by unfold cA10; omega)]; exact h9)
    obtain ⟨h', a1, a2, a3, a4, a5⟩ := ih (n + 1) g2 (by omega) (by rw [d4.at (by omega), cg.at (by unfold cA10; omega)]; exact h3) (by rw [d4.at (by omega), cg.at (by unfold cA10; omega)]; exact h0) (by
        rw [d2, cg.at (by unfold cA10; omega), h4, Int32.add_assoc, e_p1]) (by rw [d3, leF_s]) (fun i hi => by
        rw [d4.at (by omega), eg]
        by_cases ei : i = n
        · rw [ei, sI_eq, if_pos (by omega)]
        · rw [sI_ne (by omega), Z1 i hi]
          by_cases e3 : i < n
          · rw [if_pos e3, if_pos (by omega)]
          · rw [if_neg e3, if_neg (by omega)]) (fun i hi => by
        rw [d4.at (by omega), cg.at (by unfold cA10; omega)]; exact Z2 i hi)
    refine ⟨h', a1, a2, a3, ((cg.mono (fun K i j x => by unfold cA10 at x; unfold cA4; omega)).tr (d4.mono (fun K i j x => by unfold cA4; omega))).tr a4, fun r hr => wp_Clock_advance_26 ⟨fun hx => ?_, fun _ => ?_⟩⟩
    · rw [h3, zI_le (by omega) (by omega) (by omega) (by omega)] at hx; omega
    · rw [en', z1, am, q0, q1, ← eg, z2, h0, zI_sub]
      refine ⟨zI_in (by omega) (by omega) (by omega), zI_in (by omega) (by omega) (by omega), zI_in (by omega) (by omega) (by omega), zI_in (by omega) (by omega) (by omega), fun _ => ⟨zI_in (by omega) (by omega) (by omega), g2, d1, ?_⟩, fun hx => ?_⟩
      · rw [e_p1]; exact a5 r hr
      · rw [eg, sI_eq] at hx; exact absurd rfl hx
theorem s_rmf_2 {W e : Nat} (hW : W ≤ 8) {f g : Nat → Int} (he : e ≤ W) : ∀ (q n : Nat) (h : jm_H), n + q = W → e ≤ n → h.1 0 0 3 = zI W → (∀ i, i + e < n → h.1 10 0 i = zI (f (e + i)) ∧ h.1 11 0 i = zI (g (e + i))) → (∀ i, n ≤ i → i < W → h.1 10 0 i = zI (f i) ∧ h.1 11 0 i = zI (g i)) → ∃ h', l_Clock_removeFirst_2 0 (zI e) (zI n) h (none, h') ∧ h'.1 0 0 3 = zI ((W - e : Nat) : Int) ∧ (∀ i, i < W - e → h'.1 10 0 i = zI (f (e + i)) ∧ h'.1 11 0 i = zI (g (e + i))) ∧ Ch cAd h h' := by
  intro q
  induction q with
  | zero =>
    intro n h en hn h3 Z1 Z2
    refine ⟨jm_sI h 0 0 3 (zI ((W - e : Nat) : Int)), wp_Clock_removeFirst_2 ⟨fun _ => ?_, fun hc => ?_⟩, sI_eq, fun i hi => ?_, Ch.sI (by unfold cAd; omega)⟩
    · rw [h3, zI_sub, show (W : Int) - e = ((W - e : Nat) : Int) by omega]
    · rw [h3, zI_le (by omega) (by omega) (by omega) (by omega)] at hc; omega
    · rw [sI_ne (by omega), sI_ne (by omega)]; exact Z1 i (by omega)
  | succ q ih =>
    intro n h en hn h3 Z1 Z2
    have z2 := Z2 n (Nat.le_refl _) (by omega)
    have e1 : zI (n : Int) - zI (e : Int) = zI ((n - e : Nat) : Int) := by rw [zI_sub]; congr 1; omega
    obtain ⟨p, ep⟩ : ∃ p, p = jm_sI (jm_sI h 10 0 (n - e) (zI (f n))) 11 0 (n - e) (zI (g n)) := ⟨_, rfl⟩
    have cp : Ch cAd h p := by
      rw [ep]
      exact (Ch.sI (by unfold cAd; omega)).tr (Ch.sI (by unfold cAd; omega))
    obtain ⟨h', a1, a2, a3, a4⟩ := ih (n + 1) p (by omega) (by omega) (by rw [ep, sI_ne (by omega), sI_ne (by omega)]; exact h3) (fun i hi => by
        by_cases ei : i = n - e
        · rw [ep, sI_ne (by omega), ei, sI_eq, sI_eq, show e + (n - e) = n by omega]; exact ⟨rfl, rfl⟩
        · rw [ep, sI_ne (by omega), sI_ne (by omega), sI_ne (by omega), sI_ne (by omega)]; exact Z1 i (by omega)) (fun i h1 h2 => by
        rw [ep, sI_ne (by omega), sI_ne (by omega), sI_ne (by omega), sI_ne (by omega)]; exact Z2 i (by omega) h2)
    refine ⟨h', wp_Clock_removeFirst_2 ⟨fun hc => ?_, fun _ => ⟨zI_in (by omega) (by omega) (by omega), by rw [e1]; exact zI_in (by omega) (by omega) (by omega), zI_in (by omega) (by omega) (by omega), by rw [e1]; exact zI_in (by omega) (by omega) (by omega), ?_⟩⟩, a2, a3, cp.tr a4⟩
    · rw [h3, zI_le (by omega) (by omega) (by omega) (by omega)] at hc; omega
    · rw [e1, zI_cn (by omega), zI_cn (by omega), z2.1, z2.2, e_p1, ← ep]; exact a1
theorem s_switchIf {h : jm_H} {to tm now : Int} (e7 : h.1 0 0 7 = zI to) (e8 : h.1 0 0 8 = zI tm) (e0 : h.1 0 0 0 = zI now) (b1 : -2 ≤ to) (b2 : to < 3) (b3 : -2 ≤ tm) (b4 : tm ≤ 2000000000) (b5 : 0 ≤ now) (b6 : now ≤ 2000000000) : ∃ h', m_Clock_switchIfTime 0 h h' ∧ Ch (fun K i j => K = 0 ∧ i = 0 ∧ (j = 1 ∨ j = 2 ∨ j = 7 ∨ j = 8)) h h' ∧ ((0 ≤ to ∧ tm = now ∧ h'.1 0 0 1 = zI to ∧ h'.1 0 0 2 = zI 0 ∧ h'.1 0 0 7 = zI (-2) ∧ h'.1 0 0 8 = zI (-2)) ∨ (¬ (0 ≤ to ∧ tm = now) ∧ h' = h)) := by
  have hs := s_hasSw (o := 0) e7 (by omega) (by omega)
  by_cases ht : 0 ≤ to
  · by_cases hc : tm = now
    · refine ⟨jm_sI (jm_sI (jm_sI (jm_sI h 0 0 1 (zI to)) 0 0 2 0) 0 0 7 (-2)) 0 0 8 (-2), wp_Clock_switchIfTime ⟨_, h, hs, fun hx => absurd hx (nz1 ht), fun _ => ⟨fun _ => by rw [e7], fun hx => ?_⟩⟩, (((Ch.sI (by omega)).tr (Ch.sI (by omega))).tr (Ch.sI (by omega))).tr (Ch.sI (by omega)), Or.inl ⟨ht, hc, ?_, ?_, ?_, ?_⟩⟩
      · rw [e8, e0, hc] at hx; exact absurd rfl hx
      · rw [sI_ne (by omega), sI_ne (by omega), sI_ne (by omega), sI_eq]
      · rw [sI_ne (by omega), sI_ne (by omega), sI_eq]; rfl
      · rw [sI_ne (by omega), sI_eq]; rfl
      · rw [sI_eq]; rfl
    · refine ⟨h, wp_Clock_switchIfTime ⟨_, h, hs, fun hx => absurd hx (nz1 ht), fun _ => ⟨fun hx => ?_, fun _ => rfl⟩⟩, Ch.rf h, Or.inr ⟨fun x => hc x.2, rfl⟩⟩
      rw [e8, e0, zI_eq (by omega) (by omega) (by omega) (by omega)] at hx
      exact absurd hx hc
  · exact ⟨h, wp_Clock_switchIfTime ⟨_, h, hs, fun _ => rfl, fun hx => absurd (nz0 ht) hx⟩, Ch.rf h, Or.inr ⟨fun x => ht x.1, rfl⟩⟩
theorem s_goThrough {h : jm_H} (P : PL h nm D) (S : swOk nm D c) (Z : tId nm D) (w : wOk c) (w8 : k_wn c ≤ 8) (hs : 0 < sN D c) (k : KF h 0 c) {got R : Int} {e : Nat} (g0 : 0 ≤ got) (hR : R = aSl D c 0 - got) (R0 : 0 ≤ R) (E : isE c R e) : ∃ h', m_FR_goThroughFrame (zI got) h h' ∧ KF h' 0 (stp D c R e) ∧ Ch cAv h h' := by
  have hm := S.2.2.2.1
  have fl := P.fl hm S.2.2.1
  have hF := (mF_b (S.1 _ hm)).1
  have hF1 := (mF_b (S.1 _ hm)).2 S.2.2.1
  have hfr := S.2.2.2.2.1
  have L := sw_L S
  have hnow := S.2.2.2.2.2.1
  have a0 := at0 S hs
  have ab := asl_b S Z (n := 0) (by omega)
  have hto := sw_to S
  have t1 := ti_s S (n := 0) (by omega)
  rw [a0.1, a0.2.2.1] at t1
  have t1' : aTi D c 1 = k_now c + md_fr (D (k_mo c)) := t1
  obtain ⟨k0, k1, k2, k3, k4, k5, k6, k7, k8, k9, k10⟩ := k
  -- now, frame
  obtain ⟨f, ef⟩ : ∃ f : Nat, f = if k_fr c + 1 = mF (D (k_mo c)) then 0 else k_fr c + 1 := ⟨_, rfl⟩
  obtain ⟨g, eg⟩ : ∃ g, g = jm_sI (jm_sI h 0 0 0 (zI (aTi D c 1))) 0 0 2 (zI f) := ⟨_, rfl⟩
  have cg : Ch (fun K i j => K = 0 ∧ i = 0 ∧ (j = 0 ∨ j = 2)) h g := by
    rw [eg]
    exact (Ch.sI (by omega)).tr (Ch.sI (by omega))
  have g0' : g.1 0 0 0 = zI (aTi D c 1) := by rw [eg, sI_ne (by omega), sI_eq]
  have g2' : g.1 0 0 2 = zI f := by rw [eg, sI_eq]
  have hat : -2 ≤ k_at c ∧ k_at c ≤ 1000000600 := by
    rcases S.2.2.2.2.2.2 with y | ⟨_, _, _, z, y, _⟩ <;> omega
  obtain ⟨h1, b1, b2, b3, b4, b5⟩ := s_adv1 w w8 (R := R) (tm := aTi D c 1) (by omega) E (d0 := k_do c) (le := k_le c) (by omega) (fun i hi => by have := w.2.1 i hi; omega) e 0 g (by omega) (by rw [cg.at (by omega)]; exact k3) g0' (by rw [cg.at (by omega), k4, show zI ((0 : Nat) : Int) = 0 from rfl, Int32.add_zero]) (by rw [cg.at (by omega)]; exact k9) (fun i hi => by rw [cg.at (by omega), if_neg (by omega)]; exact (k10 i hi).1) (fun i hi => by rw [cg.at (by omega)]; exact (k10 i hi).2)
  have c1 : ∀ j, j ≠ 4 → j ≠ 9 → h1.1 0 0 j = g.1 0 0 j := fun j x1 x2 => b4.at (by unfold cA4; omega)
  obtain ⟨h2, d1, d2, d3, d4⟩ := s_rmf_2 (W := k_wn c) (e := e) w8 (f := neE c R e) (g := k_du c) E.1 (k_wn c - e) e h1 (by have := E.1; omega) (Nat.le_refl _) (by rw [c1 _ (by omega) (by omega), cg.at (by omega)]; exact k3) (fun i hi => by omega) (fun i h1' h2' => ⟨b3 i h2', by rw [b4.at (by unfold cA4; omega), cg.at (by omega)]; exact (k10 i h2').2⟩)
  have c2 : ∀ j, j ≠ 3 → j ≠ 4 → j ≠ 9 → h2.1 0 0 j = g.1 0 0 j := fun j x0 x1 x2 => by rw [d4.at (by unfold cAd; omega), c1 j x1 x2]
  obtain ⟨h3, s1, s2, s3⟩ := s_switchIf (h := h2) (to := k_to c) (tm := k_at c) (now := aTi D c 1) (by rw [c2 _ (by omega) (by omega) (by omega), cg.at (by omega)]; exact k7) (by rw [c2 _ (by omega) (by omega) (by omega), cg.at (by omega)]; exact k8) (by rw [c2 _ (by omega) (by omega) (by omega)]; exact g0') (by omega) (by omega) (by omega) (by omega) (by omega) (by omega)
  have adv : m_Clock_advance 0 (zI R) (zI (md_fr (D (k_mo c)))) (zI (mF (D (k_mo c)))) h h3 := by
    have b5' := b5 _ (⟨h2, wp_Clock_removeFirst d1, h3, s1, rfl⟩ : exA (zI e) h1 (none, h3))
    rw [sm_0, Int.sub_zero] at b5'
    refine wp_Clock_advance ⟨fun hc => ?_, fun hc => ?_⟩
    · rw [k2, e_p1, zI_le (by omega) (by omega) (by omega) (by omega)] at hc
      rw [if_pos (by omega)] at ef
      rw [k0, zI_add, ← t1']
      rw [ef] at eg
      rw [eg] at b5'; exact b5'
    · rw [k2, e_p1, zI_le (by omega) (by omega) (by omega) (by omega)] at hc
      rw [if_neg (by omega)] at ef
      rw [k0, zI_add, ← t1', k2, e_p1]
      rw [ef] at eg
      rw [eg] at b5'; exact b5'
  have e3 : ∀ K j, ¬ (K = 0 ∧ (j = 1 ∨ j = 2 ∨ j = 7 ∨ j = 8)) → h3.1 K 0 j = h2.1 K 0 j := fun K j x => s2.at (by omega)
  -- mode, frame, switch
  have ms : h3.1 0 0 1 = zI (aMo D c 1) ∧ h3.1 0 0 2 = zI (aFr D c 1) ∧ h3.1 0 0 7 = zI (k_to (stp D c R e)) ∧ h3.1 0 0 8 = zI (k_at (stp D c R e)) := by
    rcases s3 with ⟨y1, y2, y3, y4, y5, y6⟩ | ⟨y1, y2⟩
    · have h1 := (ti_at S y1 (n := 1)).mp y2.symm
      have fa := fr_at S y1
      rw [← h1] at fa
      have eto : k_to (stp D c R e) = -2 := by
        show (if k_at c = aTi D c 1 then ((-2 : Int), (-2 : Int)) else (k_to c, k_at c)).1 = -2
        rw [if_pos y2]
      have eat : k_at (stp D c R e) = -2 := by
        show (if k_at c = aTi D c 1 then ((-2 : Int), (-2 : Int)) else (k_to c, k_at c)).2 = -2
        rw [if_pos y2]
      rw [y3, y4, y5, y6, fa.1, fa.2, eto, eat]
      refine ⟨by congr 1; omega, rfl, rfl, rfl⟩
    · have hne : k_at c ≠ aTi D c 1 := by
        intro hx
        rcases S.2.2.2.2.2.2 with y | y
        · omega
        · exact y1 ⟨y.1, hx⟩
      have h1 : 0 + 1 ≠ sN D c := by
        intro hx
        rcases sw_n S with ⟨z1, z2, z3⟩ | ⟨z1, z2, z3, z4⟩
        · omega
        · exact hne ((ti_at S z1 (n := 1)).mpr hx).symm
      have fs := fr_s S (n := 0) (by omega) h1
      rw [a0.1, a0.2.1] at fs
      have fs1 : aMo D c 1 = k_mo c := fs.1
      have fs2 : aFr D c 1 = if k_fr c + 1 = mF (D (k_mo c)) then 0 else k_fr c + 1 := fs.2
      have eto : k_to (stp D c R e) = k_to c := by
        show (if k_at c = aTi D c 1 then ((-2 : Int), (-2 : Int)) else (k_to c, k_at c)).1 = k_to c
        rw [if_neg hne]
      have eat : k_at (stp D c R e) = k_at c := by
        show (if k_at c = aTi D c 1 then ((-2 : Int), (-2 : Int)) else (k_to c, k_at c)).2 = k_at c
        rw [if_neg hne]
      rw [y2, eto, eat, fs1, fs2, ← ef, c2 _ (by omega) (by omega) (by omega), c2 _ (by omega) (by omega) (by omega), c2 _ (by omega) (by omega) (by omega), c2 _ (by omega) (by omega) (by omega)]
      refine ⟨?_, g2', ?_, ?_⟩
      · rw [cg.at (by omega)]; exact k1
      · rw [cg.at (by omega)]; exact k7
      · rw [cg.at (by omega)]; exact k8
  refine ⟨h3, wp_FR_goThroughFrame ⟨by rw [k1]; exact in3 P hm, by rw [k2]; exact zI_in (by omega) (by omega) (by omega), h3, ?_, rfl⟩, ⟨?_, ms.1, ms.2.1, ?_, ?_, ?_, ?_, ms.2.2.1, ms.2.2.2, ?_, fun i hi => ?_⟩, ?_⟩
  · rw [k1, k2, tq P hm, zI_cn (by omega), fl.1, fl.2.1, fl.2.2 _ hfr, zI_sub, ← a0.2.2.2, ← hR]; exact adv
  · rw [e3 _ _ (by omega), c2 _ (by omega) (by omega) (by omega)]; exact g0'
  · rw [e3 _ _ (by omega)]; exact d2
  · rw [e3 _ _ (by omega), d4.at (by unfold cAd; omega)]; exact b1
  · rw [e3 _ _ (by omega), c2 _ (by omega) (by omega) (by omega), cg.at (by omega)]; exact k5
  · rw [e3 _ _ (by omega), c2 _ (by omega) (by omega) (by omega), cg.at (by omega)]; exact k6
  · rw [e3 _ _ (by omega), d4.at (by unfold cAd; omega)]; exact b2
  · have hi' : i < k_wn c - e := hi
    rw [e3 _ _ (by omega), e3 _ _ (by omega)]; exact d3 i hi'
  · exact (((cg.mono (fun K i j x => by unfold cAv; omega)).tr (b4.mono (fun K i j x => by unfold cA4 at x; unfold cAv; omega))).tr (d4.mono (fun K i j x => by unfold cAd at x; unfold cAv; omega))).tr (s2.mono (fun K i j x => by unfold cAv; omega))
end STEPC
