/-! ===== words; a word and a whole ===== -/
def cTf : Nat → Nat → Nat → Prop := fun K _ j => K = 4 ∧ 3 ≤ j ∧ j ≤ 8
def cTe : Nat → Nat → Nat → Prop := fun K _ j => K = 8 ∧ 17 ≤ j ∧ j ≤ 22
theorem cTf_k {h h' : jm_H} (a : Ch cTk h h') : Ch cTf h h' := a.mono (fun K i j x => by unfold cTk at x; unfold cTf; omega)
theorem cTe_r {h h' : jm_H} (a : Ch cTr h h') : Ch cTe h h' := a.mono (fun K i j x => by unfold cTr at x; unfold cTe; omega)
theorem strl_z : ∀ a, a < 8 → (jm_strl a).toInt32 = zI (jm_strl a : Nat) ∧ jm_strl a ≤ 7 := by decide
section WORD
variable {f : Nat → Int} {n : Nat}
theorem word_l (t : txt f n) {a s e : Nat} (ha : a < 8) (he : e ≤ n) (hL : s + jm_strl a = e) : ∀ (d i : Nat), i + d = jm_strl a → ∃ b : Int, (b = 0 ∨ b = 1) ∧ (∀ h, TX h f n → h.1 4 0 5 = zI s → l_Reader_isWord_16 a (zI i) h (some (jm_i (zI b)), h)) ∧ (∀ g, TY g f n → g.1 8 0 17 = zI s → l_M_isWord_16 a (zI i) g (some (jm_i (zI b)), g)) := by
  have t1 := t.1
  have sz := strl_z a ha
  intro d
  induction d with
  | zero =>
    intro i ei
    refine ⟨1, Or.inr rfl, fun h X a5 => wp_Reader_isWord_16 ⟨fun _ => rfl, fun hc => ?_⟩, fun g Y a5 => wp_M_isWord_16 ⟨fun _ => rfl, fun hc => ?_⟩⟩
    · rw [sz.1, zI_le (by omega) (by omega) (by omega) (by omega)] at hc; omega
    · rw [sz.1, zI_le (by omega) (by omega) (by omega) (by omega)] at hc; omega
  | succ d ih =>
    intro i ei
    have hlt : ¬ ((jm_strl a).toInt32 ≤ zI (i : Int)) := by rw [sz.1, zI_le (by omega) (by omega) (by omega) (by omega)]; omega
    have e1 : zI (s : Int) + zI (i : Int) = zI ((s + i : Nat) : Int) := by rw [zI_add]; rfl
    obtain ⟨b, b1, b2, b3⟩ := ih (i + 1) (by omega)
    by_cases hc : zI (f (s + i)) = ((jm_str a).getD i 0).toInt32
    · refine ⟨b, b1, fun h X a5 => wp_Reader_isWord_16 ⟨fun hx => absurd hx hlt, fun _ => ⟨zI (f (s + i)), h, by rw [a5, e1]; exact s_sign t X (by omega), zI_in (by omega) (by omega) (by omega), fun _ => by rw [e_p1]; exact b2 h X a5, fun hx => ?_⟩⟩, fun g Y a5 => wp_M_isWord_16 ⟨fun hx => absurd hx hlt, fun _ => ⟨by rw [a5, e1]; exact zI_in (by omega) (by omega) (by omega), zI_in (by omega) (by omega) (by omega), fun _ => by rw [e_p1]; exact b3 g Y a5, fun hx => ?_⟩⟩⟩
      · rw [zI_cn (by omega)] at hx; exact absurd hc hx
      · rw [a5, e1, zI_cn (by omega), zI_cn (by omega), Y.2 _ (by omega)] at hx; exact absurd hc hx
    · refine ⟨0, Or.inl rfl, fun h X a5 => wp_Reader_isWord_16 ⟨fun hx => absurd hx hlt, fun _ => ⟨zI (f (s + i)), h, by rw [a5, e1]; exact s_sign t X (by omega), zI_in (by omega) (by omega) (by omega), fun hx => ?_, fun _ => rfl⟩⟩, fun g Y a5 => wp_M_isWord_16 ⟨fun hx => absurd hx hlt, fun _ => ⟨by rw [a5, e1]; exact zI_in (by omega) (by omega) (by omega), zI_in (by omega) (by omega) (by omega), fun hx => ?_, fun _ => rfl⟩⟩⟩
      · rw [zI_cn (by omega)] at hx; exact absurd hx hc
      · rw [a5, e1, zI_cn (by omega), zI_cn (by omega), Y.2 _ (by omega)] at hx; exact absurd hx hc
theorem tkM_2 {k : Nat} (hk : k ≤ 4) : (zI (tkM k) = 2 ↔ k = 1) ∧ (zI (tkM k) = 3 ↔ k = 2) ∧ (zI (tkM k) = 59 ↔ k = 3) ∧ (zI (tkM k) = 0 ↔ k = 4) := by
  have : ∀ k, k ≤ 4 → ((zI (tkM k) = 2 ↔ k = 1) ∧ (zI (tkM k) = 3 ↔ k = 2) ∧ (zI (tkM k) = 59 ↔ k = 3) ∧ (zI (tkM k) = 0 ↔ k = 4)) := by decide
  exact this k hk
theorem kc_1 {k : Nat} (hk : k ≤ 4) : (zI (k : Int) = 1 ↔ k = 1) ∧ (zI (k : Int) = 2 ↔ k = 2) ∧ (zI (k : Int) = 3 ↔ k = 3) ∧ (zI (k : Int) = 4 ↔ k = 4) := by
  have : ∀ k, k ≤ 4 → ((zI (k : Nat) = 1 ↔ k = 1) ∧ (zI (k : Nat) = 2 ↔ k = 2) ∧ (zI (k : Nat) = 3 ↔ k = 3) ∧ (zI (k : Nat) = 4 ↔ k = 4)) := by decide
  exact this k hk
theorem word_ex (t : txt f n) {a k s e : Nat} {v : Int} (ha : a < 8) (hk : k ≤ 4) (hse : s ≤ e) (he : e ≤ n) : ∃ b : Int, (b = 0 ∨ b = 1) ∧ (b = 1 → k = 1) ∧ (∀ h, TX h f n → TKc h k s e v → m_Reader_isWord a h (zI b) h) ∧ (∀ g, TY g f n → TKr g k s e v → m_M_isWord a g (zI b) g) := by
  have t1 := t.1
  have sz := strl_z a ha
  by_cases h1 : k = 1
  · by_cases h2 : s + jm_strl a = e
    · obtain ⟨b, b1, b2, b3⟩ := word_l t ha he h2 (jm_strl a) 0 (by omega)
      refine ⟨b, b1, fun _ => h1, fun h X K => wp_Reader_isWord ⟨fun _ => ⟨fun _ => b2 h X K.2.1, fun hc => ?_⟩, fun hc => ?_⟩, fun g Y K => wp_M_isWord ⟨fun _ => ⟨fun _ => b3 g Y K.2.1, fun hc => ?_⟩, fun hc => ?_⟩⟩
      · rw [K.2.2.1 (by omega), K.2.1, zI_sub, sz.1, zI_eq (by omega) (by omega) (by omega) (by omega)] at hc; omega
      · rw [K.1] at hc; exact absurd ((kc_1 hk).1.mpr h1) hc
      · rw [K.2.2.1 (by omega), K.2.1, zI_sub, sz.1, zI_eq (by omega) (by omega) (by omega) (by omega)] at hc; omega
      · rw [K.1] at hc; exact absurd ((tkM_2 hk).1.mpr h1) hc
    · refine ⟨0, Or.inl rfl, fun x => by omega, fun h X K => wp_Reader_isWord ⟨fun _ => ⟨fun hc => ?_, fun _ => rfl⟩, fun _ => rfl⟩, fun g Y K => wp_M_isWord ⟨fun _ => ⟨fun hc => ?_, fun _ => rfl⟩, fun _ => rfl⟩⟩
      · rw [K.2.2.1 (by omega), K.2.1, zI_sub, sz.1, zI_eq (by omega) (by omega) (by omega) (by omega)] at hc; omega
      · rw [K.2.2.1 (by omega), K.2.1, zI_sub, sz.1, zI_eq (by omega) (by omega) (by omega) (by omega)] at hc; omega
  · refine ⟨0, Or.inl rfl, fun x => by omega, fun h X K => wp_Reader_isWord ⟨fun hc => ?_, fun _ => rfl⟩, fun g Y K => wp_M_isWord ⟨fun hc => ?_, fun _ => rfl⟩⟩
    · rw [K.1] at hc; exact absurd ((kc_1 hk).1.mp hc) h1
    · rw [K.1] at hc; exact absurd ((tkM_2 hk).1.mp hc) h1
/-- a fault told -/
theorem s_fail {h : jm_H} {q : Int} {s : Nat} (a5 : h.1 4 0 5 = zI s) : ∃ h', m_Reader_fail (zI q) h 0 h' ∧ h'.1 4 0 7 = zI q ∧ h'.1 4 0 8 = zI s ∧ Ch (fun K _ j => K = 4 ∧ (j = 7 ∨ j = 8)) h h' := by
  refine ⟨jm_sI (jm_sI h 4 0 7 (zI q)) 4 0 8 (h.1 4 0 5), wp_Reader_fail rfl, ?_, ?_, (Ch.sI (by omega)).tr (Ch.sI (by omega))⟩
  · rw [sI_ne (by omega), sI_eq]
  · rw [sI_eq]; exact a5
theorem s_errs {g : jm_H} {q : Int} {s : Nat} (a5 : g.1 8 0 17 = zI s) : ∃ g', m_M_errs (zI q) g (-1) g' ∧ g'.1 8 0 21 = zI q ∧ g'.1 8 0 22 = zI s ∧ Ch (fun K _ j => K = 8 ∧ (j = 21 ∨ j = 22)) g g' := by
  refine ⟨jm_sI (jm_sI g 8 0 21 (zI q)) 8 0 22 (g.1 8 0 17), wp_M_errs rfl, ?_, ?_, (Ch.sI (by omega)).tr (Ch.sI (by omega))⟩
  · rw [sI_ne (by omega), sI_eq]
  · rw [sI_eq]; exact a5
def parF (f : Nat → Int) (n p a : Nat) (lo hi q : Int) (s : Nat) : Prop := (∀ h, TX h f n → h.1 4 0 3 = zI p → ∃ h', m_Reader_readPart a (zI lo) (zI hi) h 0 h' ∧ h'.1 4 0 7 = zI q ∧ h'.1 4 0 8 = zI s ∧ Ch cTf h h') ∧ (∀ g, TY g f n → g.1 8 0 18 = zI p → ∃ g1 g2, m_M_reads g g1 ∧ m_M_told a (zI lo) (zI hi) g1 (-1) g2 ∧ g2.1 8 0 21 = zI q ∧ g2.1 8 0 22 = zI s ∧ Ch cTe g g2)
def parY (f : Nat → Int) (n p a : Nat) (lo hi v : Int) (e s : Nat) : Prop := lo ≤ v ∧ v ≤ hi ∧ (0 ≤ v ∧ v ≤ 999) ∧ p < e ∧ e ≤ n ∧ s ≤ n ∧ (∀ h, TX h f n → h.1 4 0 3 = zI p → ∃ h', m_Reader_readPart a (zI lo) (zI hi) h 1 h' ∧ h'.1 4 0 3 = zI e ∧ h'.1 4 0 5 = zI s ∧ h'.1 4 0 6 = zI v ∧ Ch cTk h h') ∧ (∀ g, TY g f n → g.1 8 0 18 = zI p → ∃ g1 g2, m_M_reads g g1 ∧ m_M_told a (zI lo) (zI hi) g1 (zI v) g2 ∧ g2.1 8 0 18 = zI e ∧ g2.1 8 0 17 = zI s ∧ Ch cTr g g2)
theorem part_ex (t : txt f n) {p a : Nat} (hp : p ≤ n) (ha : a < 8) {lo hi : Int} (l1 : -1000 ≤ lo) (l2 : lo ≤ 1000) (h1 : -1000 ≤ hi) (h2 : hi ≤ 1000) : (∃ q s, (q = 1 ∨ q = 2) ∧ parF f n p a lo hi q s) ∨ ∃ v e s, parY f n p a lo hi v e s := by
  have t1 := t.1
  obtain ⟨k, s, e, v, k4, o1, o2, o3, o4, o5, o6, o7⟩ := tok_ex t hp
  obtain ⟨b, b1, b2, b3, b4⟩ := word_ex t (a := a) (v := v) ha k4 o2 o3
  by_cases hb : b = 1
  · subst hb
    have k1 := b2 rfl
    subst k1
    obtain ⟨k', s', e', v', k4', p1, p2, p3, p4, p5, p6, p7⟩ := tok_ex t o3
    -- behind the word
    have goC : ∀ h, TX h f n → h.1 4 0 3 = zI p → ∃ ha hb, m_Reader_next h ha ∧ m_Reader_isWord a ha 1 ha ∧ m_Reader_next ha hb ∧ TKc hb k' s' e' v' ∧ Ch cTk h hb := fun h X a3 => by
      obtain ⟨ha, q1, q2, q3⟩ := o6 h X a3
      obtain ⟨hb, r1, r2, r3⟩ := p6 ha (X.tk q3) (q2.2.2.1 (by omega))
      exact ⟨ha, hb, q1, b3 ha (X.tk q3) q2, r1, r2, q3.tr r3⟩
    have goR : ∀ g, TY g f n → g.1 8 0 18 = zI p → ∃ ga gb, m_M_reads g ga ∧ m_M_isWord a ga 1 ga ∧ m_M_reads ga gb ∧ TKr gb k' s' e' v' ∧ Ch cTr g gb := fun g Y a3 => by
      obtain ⟨ga, q1, q2, q3⟩ := o7 g Y a3
      obtain ⟨gb, r1, r2, r3⟩ := p7 ga (Y.tr q3) (q2.2.2.1 (by omega))
      exact ⟨ga, gb, q1, b4 ga (Y.tr q3) q2, r1, r2, q3.tr r3⟩
    by_cases h2' : k' = 2
    · subst h2'
      have vb := p5 rfl
      by_cases hin : lo ≤ v' ∧ v' ≤ hi
      · refine Or.inr ⟨v', e', s', hin.1, hin.2, vb, by have := o4 (Or.inl rfl); omega, p3, by omega, fun h X a3 => ?_, fun g Y a3 => ?_⟩
        · obtain ⟨ha, hb, q1, q2, q3, q4, q5⟩ := goC h X a3
          refine ⟨hb, wp_Reader_readPart ⟨ha, q1, 1, ha, q2, fun hc => absurd hc (by decide), fun _ => ⟨hb, q3, fun _ => ⟨fun hc => ?_, fun _ => ⟨fun _ => rfl, fun hc => ?_⟩⟩, fun hc => ?_⟩⟩, q4.2.2.1 (by omega), q4.2.1, q4.2.2.2 rfl, q5⟩
          · rw [q4.2.2.2 rfl, zI_lt (by omega) (by omega) (by omega) (by omega)] at hc; omega
          · rw [q4.2.2.2 rfl, zI_le (by omega) (by omega) (by omega) (by omega)] at hc; omega
          · rw [q4.1] at hc; exact absurd rfl hc
        · obtain ⟨ga, gb, q1, q2, q3, q4, q5⟩ := goR g Y a3
          have iN := s_in (h := gb) (x := v') (a := lo) (b := hi) (by omega) (by omega) (by omega) (by omega) (by omega) (by omega)
          rw [if_pos hin] at iN
          refine ⟨ga, gb, q1, wp_M_told ⟨1, ga, q2, fun hc => absurd hc (by decide), fun _ => ⟨gb, q3, fun _ => ⟨_, gb, by rw [q4.2.2.2 rfl]; exact iN, fun hc => absurd hc (by decide), fun _ => by rw [q4.2.2.2 rfl]⟩, fun hc => ?_⟩⟩, q4.2.2.1 (by omega), q4.2.1, q5⟩
          rw [q4.1] at hc; exact absurd rfl hc
      · refine Or.inl ⟨2, s', Or.inr rfl, fun h X a3 => ?_, fun g Y a3 => ?_⟩
        · obtain ⟨ha, hb, q1, q2, q3, q4, q5⟩ := goC h X a3
          obtain ⟨hd, f1, f2, f3, f4⟩ := s_fail (h := hb) (q := 2) q4.2.1
          refine ⟨hd, wp_Reader_readPart ⟨ha, q1, 1, ha, q2, fun hc => absurd hc (by decide), fun _ => ⟨hb, q3, fun _ => ⟨fun _ => ⟨0, hd, f1, fun _ => rfl, fun hc => absurd rfl hc⟩, fun hc => ⟨fun hc2 => ?_, fun _ => ⟨0, hd, f1, fun _ => rfl, fun hc => absurd rfl hc⟩⟩⟩, fun hc => ?_⟩⟩, f2, f3, (cTf_k q5).tr (f4.mono (fun K i j x => by unfold cTf; omega))⟩
          · rw [q4.2.2.2 rfl, zI_lt (by omega) (by omega) (by omega) (by omega)] at hc
            rw [q4.2.2.2 rfl, zI_le (by omega) (by omega) (by omega) (by omega)] at hc2; omega
          · rw [q4.1] at hc; exact absurd rfl hc
        · obtain ⟨ga, gb, q1, q2, q3, q4, q5⟩ := goR g Y a3
          obtain ⟨gd, f1, f2, f3, f4⟩ := s_errs (g := gb) (q := 2) q4.2.1
          have iN := s_in (h := gb) (x := v') (a := lo) (b := hi) (by omega) (by omega) (by omega) (by omega) (by omega) (by omega)
          rw [if_neg hin] at iN
          refine ⟨ga, gd, q1, wp_M_told ⟨1, ga, q2, fun hc => absurd hc (by decide), fun _ => ⟨gb, q3, fun _ => ⟨_, gb, by rw [q4.2.2.2 rfl]; exact iN, fun _ => ⟨_, gd, f1, rfl⟩, fun hc => absurd rfl hc⟩, fun hc => ?_⟩⟩, f2, f3, (cTe_r q5).tr (f4.mono (fun K i j x => by unfold cTe; omega))⟩
          rw [q4.1] at hc; exact absurd rfl hc
    · refine Or.inl ⟨1, s', Or.inl rfl, fun h X a3 => ?_, fun g Y a3 => ?_⟩
      · obtain ⟨ha, hb, q1, q2, q3, q4, q5⟩ := goC h X a3
        obtain ⟨hd, f1, f2, f3, f4⟩ := s_fail (h := hb) (q := 1) q4.2.1
        refine ⟨hd, wp_Reader_readPart ⟨ha, q1, 1, ha, q2, fun hc => absurd hc (by decide), fun _ => ⟨hb, q3, fun hc => ?_, fun _ => ⟨0, hd, f1, rfl, rfl⟩⟩⟩, f2, f3, (cTf_k q5).tr (f4.mono (fun K i j x => by unfold cTf; omega))⟩
        rw [q4.1] at hc; exact absurd ((kc_1 k4').2.1.mp hc) h2'
      · obtain ⟨ga, gb, q1, q2, q3, q4, q5⟩ := goR g Y a3
        obtain ⟨gd, f1, f2, f3, f4⟩ := s_errs (g := gb) (q := 1) q4.2.1
        refine ⟨ga, gd, q1, wp_M_told ⟨1, ga, q2, fun hc => absurd hc (by decide), fun _ => ⟨gb, q3, fun hc => ?_, fun _ => ⟨_, gd, f1, rfl⟩⟩⟩, f2, f3, (cTe_r q5).tr (f4.mono (fun K i j x => by unfold cTe; omega))⟩
        rw [q4.1] at hc; exact absurd ((tkM_2 k4').2.1.mp hc) h2'
  · have hb0 : b = 0 := by omega
    subst hb0
    refine Or.inl ⟨1, s, Or.inl rfl, fun h X a3 => ?_, fun g Y a3 => ?_⟩
    · obtain ⟨ha, q1, q2, q3⟩ := o6 h X a3
      obtain ⟨hd, f1, f2, f3, f4⟩ := s_fail (h := ha) (q := 1) q2.2.1
      exact ⟨hd, wp_Reader_readPart ⟨ha, q1, 0, ha, b3 ha (X.tk q3) q2, fun _ => ⟨0, hd, f1, rfl, rfl⟩, fun hc => absurd rfl hc⟩, f2, f3, (cTf_k q3).tr (f4.mono (fun K i j x => by unfold cTf; omega))⟩
    · obtain ⟨ga, q1, q2, q3⟩ := o7 g Y a3
      obtain ⟨gd, f1, f2, f3, f4⟩ := s_errs (g := ga) (q := 1) q2.2.1
      exact ⟨ga, gd, q1, wp_M_told ⟨0, ga, b4 ga (Y.tr q3) q2, fun _ => ⟨_, gd, f1, rfl⟩, fun hc => absurd rfl hc⟩, f2, f3, (cTe_r q3).tr (f4.mono (fun K i j x => by unfold cTe; omega))⟩
end WORD
