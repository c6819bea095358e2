/-! ===== the clock, abstractly: now, mode, frame; waiting: how many, needs, dues; done, overran, cut off, least left; switch to, at ===== -/
abbrev CK : Type := (Int × Nat × Nat) × (Nat × (Nat → Int) × (Nat → Int)) × (Int32 × Int32 × Int32 × Int32) × (Int × Int)
def k_now (c : CK) : Int := c.1.1
def k_mo (c : CK) : Nat := c.1.2.1
def k_fr (c : CK) : Nat := c.1.2.2
def k_wn (c : CK) : Nat := c.2.1.1
def k_ne (c : CK) : Nat → Int := c.2.1.2.1
def k_du (c : CK) : Nat → Int := c.2.1.2.2
def k_do (c : CK) : Int32 := c.2.2.1.1
def k_ov (c : CK) : Int32 := c.2.2.1.2.1
def k_cu (c : CK) : Int32 := c.2.2.1.2.2.1
def k_le (c : CK) : Int32 := c.2.2.1.2.2.2
def k_to (c : CK) : Int := c.2.2.2.1
def k_at (c : CK) : Int := c.2.2.2.2
def KF (h : jm_H) (o : Nat) (c : CK) : Prop :=
  h.1 0 o 0 = zI (k_now c) ∧ h.1 0 o 1 = zI (k_mo c) ∧ h.1 0 o 2 = zI (k_fr c) ∧ h.1 0 o 3 = zI (k_wn c) ∧ h.1 0 o 4 = k_do c ∧ h.1 0 o 5 = k_ov c ∧ h.1 0 o 6 = k_cu c ∧ h.1 0 o 7 = zI (k_to c) ∧ h.1 0 o 8 = zI (k_at c) ∧ h.1 0 o 9 = k_le c ∧ ∀ i, i < k_wn c → h.1 10 o i = zI (k_ne c i) ∧ h.1 11 o i = zI (k_du c i)
def KM (h : jm_H) (K : Nat) (c : CK) : Prop :=
  h.1 K 0 0 = zI (k_now c) ∧ h.1 K 0 1 = zI (k_mo c) ∧ h.1 K 0 2 = zI (k_fr c) ∧ h.1 K 0 3 = zI (k_wn c) ∧ h.1 K 0 4 = k_do c ∧ h.1 K 0 5 = k_ov c ∧ h.1 K 0 6 = k_cu c ∧ h.1 K 0 7 = zI (k_to c) ∧ h.1 K 0 8 = zI (k_at c) ∧ h.1 K 0 9 = k_le c ∧ ∀ i, i < k_wn c → h.1 K 0 (10 + i) = zI (k_ne c i) ∧ h.1 K 0 (19 + i) = zI (k_du c i)
theorem KF.chg {h h' : jm_H} {o : Nat} {c : CK} (k : KF h o c) (e : ∀ K j, K = 0 ∨ K = 10 ∨ K = 11 → h'.1 K o j = h.1 K o j) : KF h' o c := by
  obtain ⟨k0, k1, k2, k3, k4, k5, k6, k7, k8, k9, k10⟩ := k
  have e0 : ∀ j, h'.1 0 o j = h.1 0 o j := fun j => e 0 j (by omega)
  refine ⟨?_, ?_, ?_, ?_, ?_, ?_, ?_, ?_, ?_, ?_, fun i hi => ?_⟩
  · rw [e0]; exact k0
  · rw [e0]; exact k1
  · rw [e0]; exact k2
  · rw [e0]; exact k3
  · rw [e0]; exact k4
  · rw [e0]; exact k5
  · rw [e0]; exact k6
  · rw [e0]; exact k7
  · rw [e0]; exact k8
  · rw [e0]; exact k9
  · rw [e 10 _ (by omega), e 11 _ (by omega)]; exact k10 i hi
theorem KM.chg {h h' : jm_H} {K : Nat} {c : CK} (k : KM h K c) (e : ∀ j, h'.1 K 0 j = h.1 K 0 j) : KM h' K c := by
  obtain ⟨k0, k1, k2, k3, k4, k5, k6, k7, k8, k9, k10⟩ := k
  refine ⟨?_, ?_, ?_, ?_, ?_, ?_, ?_, ?_, ?_, ?_, fun i hi => ?_⟩
  · rw [e]; exact k0
  · rw [e]; exact k1
  · rw [e]; exact k2
  · rw [e]; exact k3
  · rw [e]; exact k4
  · rw [e]; exact k5
  · rw [e]; exact k6
  · rw [e]; exact k7
  · rw [e]; exact k8
  · rw [e]; exact k9
  · rw [e, e]; exact k10 i hi
/-! ===== frames ahead ===== -/
noncomputable def mSl (d : MD) (k : Nat) : Int := (tabS d (md_fr d)).2.1 k
def mF (d : MD) : Nat := md_F d (md_fr d)
/-- how many frames are ahead of the switch -/
def sN (D : Nat → MD) (c : CK) : Nat := if 0 ≤ k_to c then ((k_at c - k_now c) / md_fr (D (k_mo c))).toNat else 1000000
def aMo (D : Nat → MD) (c : CK) (n : Nat) : Nat := if n < sN D c then k_mo c else (k_to c).toNat
def aFr (D : Nat → MD) (c : CK) (n : Nat) : Nat := if n < sN D c then (k_fr c + n) % mF (D (k_mo c)) else (n - sN D c) % mF (D (k_to c).toNat)
def aTi (D : Nat → MD) (c : CK) (n : Nat) : Int := if n < sN D c then k_now c + n * md_fr (D (k_mo c)) else k_at c + ((n - sN D c : Nat) : Int) * md_fr (D (k_to c).toNat)
noncomputable def aSl (D : Nat → MD) (c : CK) (n : Nat) : Int := mSl (D (aMo D c n)) (aFr D c n)
def gdm (d : MD) : Prop := gd d (md_fr d)
def ckOk (nm : Nat) (D : Nat → MD) (B : Int) (c : CK) : Prop :=
  (0 ≤ k_now c ∧ k_now c ≤ B) ∧ k_mo c < nm ∧ k_wn c ≤ 8 ∧ k_fr c < 24 ∧ (gdm (D (k_mo c)) → k_fr c < mF (D (k_mo c))) ∧ ((k_to c = -2 ∧ k_at c = -2) ∨ (0 ≤ k_to c ∧ k_to c < nm ∧ gdm (D (k_to c).toNat) ∧ gdm (D (k_mo c)) ∧ k_now c < k_at c ∧ k_at c ≤ k_now c + 600 ∧ (k_at c - k_now c) % md_fr (D (k_mo c)) = 0)) ∧ (0 < k_wn c → gdm (D (k_mo c))) ∧ (∀ i, i < k_wn c → 1 ≤ k_ne c i ∧ k_ne c i ≤ 400 ∧ k_now c < k_du c i ∧ k_du c i ≤ k_now c + 400) ∧ (∀ i, i + 1 < k_wn c → k_du c i ≤ k_du c (i + 1)) ∧ (∀ i, i < k_wn c → ∃ n, n ≤ 1000 ∧ aTi D c n ≤ k_du c i ∧ sm (i + 1) (k_ne c) ≤ sm n (aSl D c))
/-- the reference has laid what the clock needs -/
def ckL (h : jm_H) (D : Nat → MD) (c : CK) : Prop := (0 < k_wn c → TL h (k_mo c) (D (k_mo c))) ∧ (0 ≤ k_to c → TL h (k_mo c) (D (k_mo c)) ∧ TL h (k_to c).toNat (D (k_to c).toNat))
/-! ===== what always holds ===== -/
/-- modes and tables -/
def PL (h : jm_H) (nm : Nat) (D : Nat → MD) : Prop :=
  nm ≤ 3 ∧ (h.2.1 7 0 1 ≤ 1 ∧ h.2.1 4 0 9 + h.2.1 7 0 1 = 1) ∧ h.1 3 (h.2.1 7 0 1) 0 = zI nm ∧ h.1 8 0 6 = zI nm ∧ ∀ m, m < nm → WFm (D m) ∧ vF h (3 * (h.2.1 7 0 1) + m) (D m) ∧ vM h m (D m) ∧ TF h m (D m) (md_fr (D m)) ∧ TM h m (D m) ∧ (gdm (D m) → TI (md_jb (D m)) (mF (D m)) (md_fi (D m) (md_fr (D m))) (md_la (D m) (md_fr (D m))) (md_c (D m)) (md_rm (D m) (md_fr (D m))) (tabS (D m) (md_fr (D m))).2)
def CKI (h : jm_H) (nm : Nat) (D : Nat → MD) (B : Int) : Prop :=
  (nm = 0 → h.1 0 0 3 = 0) ∧ (0 < nm → ∃ c, KF h 0 c ∧ KM h 56 c ∧ ckOk nm D B c ∧ ckL h D c) ∧ ∃ b : Int, (b = 0 ∨ b = 1) ∧ h.1 7 0 7 = zI b ∧ h.1 8 0 43 = zI b ∧ (b = 1 → 0 < nm ∧ ∃ c, KF h 1 c ∧ KM h 57 c ∧ ckOk nm D B c ∧ ckL h D c)
def TT (h : jm_H) : Prop := h.1 7 0 8 = h.1 8 0 1 ∧ h.1 7 0 9 = h.1 8 0 2 ∧ (h.1 7 0 8 = 4 → h.1 7 0 10 = h.1 8 0 3)
def TP (h : jm_H) : Prop := ∃ n : Nat, n ≤ 700 ∧ h.1 4 0 1 = zI n ∧ h.1 8 0 5 = zI n ∧ ∀ i, i < n → h.1 29 0 i &&& 255 = h.1 33 0 i ∧ ∃ x : Int, 0 ≤ x ∧ x ≤ 255 ∧ h.1 33 0 i = zI x
def INV (B : Int) (h : jm_H) : Prop := ∃ nm D, PL h nm D ∧ CKI h nm D B ∧ TT h ∧ TP h
/-- what a call of the class may change that changes nothing -/
def cFX : Nat → Nat → Nat → Prop := fun K i j => cT K i j ∨ K = 5 ∨ K = 30 ∨ K = 31 ∨ (K = 7 ∧ j = 8)
def cMX : Nat → Nat → Nat → Prop := fun K i j => cMs K i j ∨ (52 ≤ K ∧ K ≤ 55) ∨ (K = 8 ∧ (j = 0 ∨ j = 1 ∨ j = 3))
/-- a call of the reference that changes nothing -/
def MX (nm : Nat) (D : Nat → MD) (h h' : jm_H) : Prop := Ch cMX h h' ∧ ∀ m, m < nm → (TM h m (D m) → TM h' m (D m)) ∧ (TL h m (D m) → TL h' m (D m))
theorem MX.rf {nm : Nat} {D : Nat → MD} (h : jm_H) : MX nm D h h := ⟨Ch.rf h, fun _ _ => ⟨id, id⟩⟩
theorem MX.tr {nm : Nat} {D : Nat → MD} {h1 h2 h3 : jm_H} (a : MX nm D h1 h2) (b : MX nm D h2 h3) : MX nm D h1 h3 := ⟨a.1.tr b.1, fun m hm => ⟨fun x => (b.2 m hm).1 ((a.2 m hm).1 x), fun x => (b.2 m hm).2 ((a.2 m hm).2 x)⟩⟩
def cM2 : Nat → Nat → Nat → Prop := fun K i j => cMs K i j ∨ (K = 8 ∧ (j = 0 ∨ j = 1 ∨ j = 3))
theorem cM2_s {h h' : jm_H} (a : Ch cMs h h') : Ch cM2 h h' := a.mono (fun K i j x => Or.inl x)
theorem PL.F24 {h : jm_H} {nm : Nat} {D : Nat → MD} (P : PL h nm D) {m : Nat} (hm : m < nm) : md_F (D m) (md_fr (D m)) ≤ 24 := by
  have w := (P.2.2.2.2 m hm).1
  have w1 := w.1
  exact (md_bd w (by omega) (by omega)).1
theorem MX.of {nm : Nat} {D : Nat → MD} {h0 h h' : jm_H} (P : PL h0 nm D) (a : Ch cM2 h h') : MX nm D h h' := by
  refine ⟨a.mono (fun K i j x => by rcases x with x | x; exact Or.inl x; exact Or.inr (Or.inr x)), fun m hm => ⟨fun t => t.chg (P.F24 hm) (fun K j hK => a.at (by unfold cM2 cMs; omega)), fun t => t.chg (P.F24 hm) (fun K j hK => a.at (by unfold cM2 cMs; omega))⟩⟩
theorem PL.F {h h' : jm_H} {nm : Nat} {D : Nat → MD} (P : PL h nm D) (a : Ch cFX h h') : PL h' nm D := by
  obtain ⟨p1, p2, p3, p4, p5⟩ := P
  refine ⟨p1, by rw [a.2]; exact p2, ?_, ?_, fun m hm => ?_⟩
  · rw [a.2, a.at (by unfold cFX cT cL cD; omega)]; exact p3
  · rw [a.at (by unfold cFX cT cL cD; omega)]; exact p4
  · obtain ⟨q1, q2, q3, q4, q5, q6⟩ := p5 m hm
    have w1 := q1.1
    have F24 := (md_bd q1 (g := md_fr (D m)) (by omega) (by omega)).1
    refine ⟨q1, ?_, ?_, ?_, ?_, q6⟩
    · rw [a.2]; exact q2.chg (fun K j hK => a.at (by unfold cFX cT cL cD; omega))
    · exact q3.chg (fun K j hK => a.at (by unfold cFX cT cL cD; omega))
    · obtain ⟨⟨s, s2, s3⟩, t1, t2⟩ := q4
      obtain ⟨s1', s2', s3', s4, s5, s6, s7, s8, s9⟩ := s
      have e : ∀ K j, (K = 1 ∨ K = 6 ∨ (12 ≤ K ∧ K ≤ 19)) → h'.1 K m j = h.1 K m j := fun K j hK => a.at (by unfold cFX cT cL cD; omega)
      refine ⟨⟨⟨s1', s2', s3', ?_, ?_, ?_, fun j hj => ?_, fun j hj => ?_, fun j hj => ?_⟩, ?_, fun j hj => ?_⟩, ?_, fun hG => ⟨fun k hk => ?_, fun j k hj hk => ?_, ?_, ?_⟩⟩
      · rw [e _ _ (by omega)]; exact s4
      · rw [e _ _ (by omega)]; exact s5
      · rw [e _ _ (by omega)]; exact s6
      · rw [e _ _ (by omega)]; exact s7 j hj
      · rw [e _ _ (by omega)]; exact s8 j hj
      · rw [e _ _ (by omega)]; exact s9 j hj
      · rw [e _ _ (by omega)]; exact s2
      · rw [e _ _ (by omega), e _ _ (by omega), e _ _ (by omega)]; exact s3 j hj
      · rw [e _ _ (by omega)]; exact t1
      · rw [e _ _ (by omega)]; exact (t2 hG).1 k hk
      · rw [a.at (by unfold cFX cT cL cD; have := q1.2.2.2.2.1; omega)]; exact (t2 hG).2.1 j k hj hk
      · rw [e _ _ (by omega)]; exact (t2 hG).2.2.1
      · rw [e _ _ (by omega)]; exact (t2 hG).2.2.2
    · exact q5.chg F24 (fun K j hK => a.at (by unfold cFX cT cL cD; omega))
theorem PL.M {h h' : jm_H} {nm : Nat} {D : Nat → MD} (P : PL h nm D) (a : MX nm D h h') : PL h' nm D := by
  obtain ⟨p1, p2, p3, p4, p5⟩ := P
  obtain ⟨a, b⟩ := a
  refine ⟨p1, by rw [a.2]; exact p2, ?_, ?_, fun m hm => ?_⟩
  · rw [a.2, a.at (by unfold cMX cMs; omega)]; exact p3
  · rw [a.at (by unfold cMX cMs; omega)]; exact p4
  · obtain ⟨q1, q2, q3, q4, q5, q6⟩ := p5 m hm
    refine ⟨q1, ?_, ?_, ?_, (b m hm).1 q5, q6⟩
    · rw [a.2]; exact q2.chg (fun K j hK => a.at (by unfold cMX cMs; omega))
    · exact q3.chg (fun K j hK => a.at (by unfold cMX cMs; omega))
    · obtain ⟨⟨s, s2, s3⟩, t1, t2⟩ := q4
      obtain ⟨s1', s2', s3', s4, s5, s6, s7, s8, s9⟩ := s
      have e : ∀ K i j, (K = 1 ∨ K = 6 ∨ (12 ≤ K ∧ K ≤ 21)) → h'.1 K i j = h.1 K i j := fun K i j hK => a.at (by unfold cMX cMs; omega)
      refine ⟨⟨⟨s1', s2', s3', ?_, ?_, ?_, fun j hj => ?_, fun j hj => ?_, fun j hj => ?_⟩, ?_, fun j hj => ?_⟩, ?_, fun hG => ⟨fun k hk => ?_, fun j k hj hk => ?_, ?_, ?_⟩⟩
      · rw [e _ _ _ (by omega)]; exact s4
      · rw [e _ _ _ (by omega)]; exact s5
      · rw [e _ _ _ (by omega)]; exact s6
      · rw [e _ _ _ (by omega)]; exact s7 j hj
      · rw [e _ _ _ (by omega)]; exact s8 j hj
      · rw [e _ _ _ (by omega)]; exact s9 j hj
      · rw [e _ _ _ (by omega)]; exact s2
      · rw [e _ _ _ (by omega), e _ _ _ (by omega), e _ _ _ (by omega)]; exact s3 j hj
      · rw [e _ _ _ (by omega)]; exact t1
      · rw [e _ _ _ (by omega)]; exact (t2 hG).1 k hk
      · rw [e _ _ _ (by omega)]; exact (t2 hG).2.1 j k hj hk
      · rw [e _ _ _ (by omega)]; exact (t2 hG).2.2.1
      · rw [e _ _ _ (by omega)]; exact (t2 hG).2.2.2
theorem ckL.M {h h' : jm_H} {nm : Nat} {D : Nat → MD} {B : Int} {c : CK} (a : ckL h D c) (k : ckOk nm D B c) (e : ∀ m, m < nm → TL h m (D m) → TL h' m (D m)) : ckL h' D c := by
  have hm := k.2.1
  refine ⟨fun x => e _ hm (a.1 x), fun x => ⟨e _ hm (a.2 x).1, e _ ?_ (a.2 x).2⟩⟩
  rcases k.2.2.2.2.2.1 with y | y
  · omega
  · omega
theorem CKI.F {h h' : jm_H} {nm : Nat} {D : Nat → MD} {B : Int} (P : PL h nm D) (C : CKI h nm D B) (a : Ch cFX h h') : CKI h' nm D B := by
  obtain ⟨c1, c2, b, b1, b2, b3, b4⟩ := C
  have e : ∀ K i j, K = 0 ∨ K = 10 ∨ K = 11 ∨ (52 ≤ K) ∨ (K = 8) → h'.1 K i j = h.1 K i j := fun K i j hK => a.at (by unfold cFX cT cL cD; omega)
  have tl : ∀ m, m < nm → TL h m (D m) → TL h' m (D m) := fun m hm t => t.chg (P.F24 hm) (fun K j hK => e K 0 j (by omega))
  refine ⟨fun x => by rw [e _ _ _ (by omega)]; exact c1 x, fun x => ?_, b, b1, ?_, ?_, fun x => ?_⟩
  · obtain ⟨c, k1, k2, k3, k4⟩ := c2 x
    exact ⟨c, k1.chg (fun K j hK => e K 0 j (by omega)), k2.chg (fun j => e 56 0 j (by omega)), k3, k4.M k3 tl⟩
  · rw [a.at (by unfold cFX cT cL cD; omega)]; exact b2
  · rw [e _ _ _ (by omega)]; exact b3
  · obtain ⟨x0, c, k1, k2, k3, k4⟩ := b4 x
    exact ⟨x0, c, k1.chg (fun K j hK => e K 1 j (by omega)), k2.chg (fun j => e 57 0 j (by omega)), k3, k4.M k3 tl⟩
theorem CKI.M {h h' : jm_H} {nm : Nat} {D : Nat → MD} {B : Int} (C : CKI h nm D B) (a : MX nm D h h') : CKI h' nm D B := by
  obtain ⟨c1, c2, b, b1, b2, b3, b4⟩ := C
  obtain ⟨a, t⟩ := a
  have e : ∀ K i j, K = 0 ∨ K = 10 ∨ K = 11 ∨ (56 ≤ K) ∨ (K = 7) → h'.1 K i j = h.1 K i j := fun K i j hK => a.at (by unfold cMX cMs; omega)
  have tl : ∀ m, m < nm → TL h m (D m) → TL h' m (D m) := fun m hm x => (t m hm).2 x
  refine ⟨fun x => by rw [e _ _ _ (by omega)]; exact c1 x, fun x => ?_, b, b1, ?_, ?_, fun x => ?_⟩
  · obtain ⟨c, k1, k2, k3, k4⟩ := c2 x
    exact ⟨c, k1.chg (fun K j hK => e K 0 j (by omega)), k2.chg (fun j => e 56 0 j (by omega)), k3, k4.M k3 tl⟩
  · rw [e _ _ _ (by omega)]; exact b2
  · rw [a.at (by unfold cMX cMs; omega)]; exact b3
  · obtain ⟨x0, c, k1, k2, k3, k4⟩ := b4 x
    exact ⟨x0, c, k1.chg (fun K j hK => e K 1 j (by omega)), k2.chg (fun j => e 57 0 j (by omega)), k3, k4.M k3 tl⟩
theorem TP.chg {h h' : jm_H} (t : TP h) (e : ∀ K j, (K = 4 ∧ j = 1) ∨ (K = 8 ∧ j = 5) ∨ K = 29 ∨ K = 33 → h'.1 K 0 j = h.1 K 0 j) : TP h' := by
  obtain ⟨n, n1, n2, n3, n4⟩ := t
  refine ⟨n, n1, by rw [e _ _ (by omega)]; exact n2, by rw [e _ _ (by omega)]; exact n3, fun i hi => ?_⟩
  rw [e 29 _ (by omega), e 33 _ (by omega)]; exact n4 i hi
/-- a call that changes nothing but trouble -/
theorem INV.mk1 {h h1 h2 : jm_H} {nm : Nat} {D : Nat → MD} {B : Int} (P : PL h nm D) (C : CKI h nm D B) (T : TT h) (Q : TP h) (a : Ch cFX h h1) (b : MX nm D h1 h2) {t : Int32} (t1 : h1.1 7 0 8 = t) (t2 : h2.1 8 0 1 = t) (t4 : t ≠ 4) : INV B h2 := by
  refine ⟨nm, D, (P.F a).M b, (C.F P a).M b, ⟨?_, ?_, fun x => ?_⟩, ?_⟩
  · rw [b.1.at (by unfold cMX cMs; omega), t1, t2]
  · rw [b.1.at (by unfold cMX cMs; omega), b.1.at (by unfold cMX cMs; omega), a.at (by unfold cFX cT cL cD; omega), a.at (by unfold cFX cT cL cD; omega)]; exact T.2.1
  · rw [b.1.at (by unfold cMX cMs; omega), t1] at x
    exact absurd x t4
  · exact Q.chg (fun K j hK => by rw [b.1.at (by unfold cMX cMs; omega), a.at (by unfold cFX cT cL cD; omega)])
/-! ===== small calls ===== -/
theorem i32x (a : Int32) : ∃ x : Int, a = zI x ∧ -2147483648 ≤ x ∧ x ≤ 2147483647 := ⟨a.toInt, (zI_of a).symm, zI_lo a, zI_hi a⟩
/-- what the class's call leaves -/
def EF (h h' : jm_H) (t : Int32) : Prop := Ch cFX h h' ∧ h'.1 7 0 8 = t
def EM (nm : Nat) (D : Nat → MD) (h h' : jm_H) (t : Int32) : Prop := MX nm D h h' ∧ h'.1 8 0 1 = t
theorem cFX_T {h h' : jm_H} (a : Ch cT h h') : Ch cFX h h' := a.mono (fun K i j x => Or.inl x)
theorem EF.of {h h0 : jm_H} (a : Ch cFX h h0) (t : Int32) : EF h (jm_sI h0 7 0 8 t) t := ⟨a.tr (Ch.sI (by unfold cFX; omega)), sI_eq⟩
def hAn (h : jm_H) : jm_H := jm_sI (jm_sI (jm_sI h 8 0 0 0) 8 0 1 0) 8 0 3 (-1)
theorem hAn_c (h : jm_H) : Ch cM2 h (hAn h) := ((Ch.sI (by unfold cM2 cMs; omega)).tr (Ch.sI (by unfold cM2 cMs; omega))).tr (Ch.sI (by unfold cM2 cMs; omega))
theorem hAn_t (h : jm_H) : (hAn h).1 8 0 1 = 0 := by unfold hAn; rw [sI_ne (by omega), sI_eq]
section SMALL
variable {h : jm_H} {nm : Nat} {D : Nat → MD}
theorem EM.an (P : PL h nm D) : EM nm D h (hAn h) 0 := ⟨MX.of P (hAn_c h), hAn_t h⟩
theorem EM.no (P : PL h nm D) (t : Int32) {h' : jm_H} (a : MX nm D h h') : EM nm D h (jm_sI h' 8 0 1 t) t := ⟨a.tr (MX.of P (Ch.sI (by unfold cM2; omega))), sI_eq⟩
theorem EM.go (P : PL h nm D) {h1 h2 : jm_H} {t : Int32} (a : EM nm D h h1 t) (b : Ch cMs h1 h2) : EM nm D h h2 t := ⟨a.1.tr (MX.of P (cM2_s b)), by rw [b.at (by unfold cMs; omega)]; exact a.2⟩
theorem s_an : m_M_anew h (hAn h) := wp_M_anew rfl
theorem s_in {x a b : Int} (x1 : -2147483648 ≤ x) (x2 : x ≤ 2147483647) (a1 : -2147483648 ≤ a) (a2 : a ≤ 2147483647) (b1 : -2147483648 ≤ b) (b2 : b ≤ 2147483647) : m_M_in (zI x) (zI a) (zI b) h (zI (if a ≤ x ∧ x ≤ b then 1 else 0)) h := by
  refine wp_M_in ⟨fun hc => ?_, fun hc => ⟨fun hc2 => ?_, fun hc2 => ?_⟩⟩
  · rw [zI_lt (by omega) (by omega) (by omega) (by omega)] at hc
    rw [if_neg (by omega)]; rfl
  · rw [zI_lt (by omega) (by omega) (by omega) (by omega)] at hc hc2
    rw [if_neg (by omega)]; rfl
  · rw [zI_lt (by omega) (by omega) (by omega) (by omega)] at hc hc2
    rw [if_pos (by omega)]; rfl
theorem s_isModeF (P : PL h nm D) {x : Int} (x1 : -2147483648 ≤ x) (x2 : x ≤ 2147483647) : m_FR_isMode (zI x) h (zI (if 0 ≤ x ∧ x < nm then 1 else 0)) h := by
  have p1 := P.1
  have p3 := P.2.2.1
  refine wp_FR_isMode ⟨fun hc => ?_, fun hc => ⟨fun hc2 => ?_, fun hc2 => ?_⟩⟩
  · rw [zl_0, zI_lt (by omega) (by omega) (by omega) (by omega)] at hc
    rw [if_neg (by omega)]; rfl
  · rw [zl_0, zI_lt (by omega) (by omega) (by omega) (by omega)] at hc
    rw [p3, zI_le (by omega) (by omega) (by omega) (by omega)] at hc2
    rw [if_neg (by omega)]; rfl
  · rw [zl_0, zI_lt (by omega) (by omega) (by omega) (by omega)] at hc
    rw [p3, zI_le (by omega) (by omega) (by omega) (by omega)] at hc2
    rw [if_pos (by omega)]; rfl
theorem s_isModeM (P : PL h nm D) {x : Int} (x1 : -2147483648 ≤ x) (x2 : x ≤ 2147483647) : m_M_isMode (zI x) h (zI (if 0 ≤ x ∧ x < nm then 1 else 0)) h := by
  have p1 := P.1
  have p4 := P.2.2.2.1
  have := s_in (h := h) (x := x) (a := 0) (b := (nm : Int) - 1) x1 x2 (by omega) (by omega) (by omega) (by omega)
  have e : (if 0 ≤ x ∧ x ≤ (nm : Int) - 1 then (1 : Int) else 0) = if 0 ≤ x ∧ x < nm then 1 else 0 := by
    by_cases hc : 0 ≤ x ∧ x < nm
    · rw [if_pos hc, if_pos (by omega)]
    · rw [if_neg hc, if_neg (by omega)]
  rw [e] at this
  refine wp_M_isMode ⟨zI (if 0 ≤ x ∧ x < nm then 1 else 0), h, ?_, ?_, rfl⟩
  · rw [p4, zl_1, zI_sub]; exact this
  · split <;> rfl
theorem nz1 {p : Prop} [Decidable p] (hp : p) : ¬ (zI (if p then 1 else 0) = 0) := by rw [if_pos hp]; decide
theorem nz0 {p : Prop} [Decidable p] (hp : ¬ p) : zI (if p then 1 else 0) = 0 := by rw [if_neg hp]; rfl
/-- the mode that is meant -/
theorem mode_of {x : Int} (hx : 0 ≤ x ∧ x < nm) : ∃ m : Nat, m < nm ∧ x = (m : Int) := ⟨x.toNat, by omega, by omega⟩
theorem s_lenRef (P : PL h nm D) {x g : Int} (x1 : -2147483648 ≤ x) (x2 : x ≤ 2147483647) (g1 : -2147483648 ≤ g) (g2 : g ≤ 2147483647) : ∃ t : Int, (t = 0 ∨ t = 1 ∨ t = 2) ∧ (t = 0 ↔ (0 ≤ x ∧ x < nm) ∧ 4 ≤ g ∧ g ≤ 96) ∧ m_FR_lengthRefusal (zI x) (zI g) h (zI t) h ∧ ∀ h', PL h' nm D → m_M_lengthWhy (zI x) (zI g) h' (zI t) h' := by
  have hl : ∀ h', m_M_isLength (zI g) h' (zI (if 4 ≤ g ∧ g ≤ 96 then 1 else 0)) h' := fun h' => wp_M_isLength ⟨_, h', s_in (h := h') g1 g2 (a := 4) (b := 96) (by omega) (by omega) (by omega) (by omega), by split <;> rfl, rfl⟩
  by_cases hm : 0 ≤ x ∧ x < nm
  · by_cases hg : 4 ≤ g ∧ g ≤ 96
    · refine ⟨0, Or.inl rfl, ⟨fun _ => ⟨hm, hg⟩, fun _ => rfl⟩, wp_FR_lengthRefusal ⟨_, h, s_isModeF P x1 x2, fun hc => absurd hc (nz1 hm), fun _ => ⟨fun hc => ?_, fun _ => ⟨fun _ => rfl, fun hc => ?_⟩⟩⟩, fun h' P' => wp_M_lengthWhy ⟨_, h', s_isModeM P' x1 x2, fun hc => absurd hc (nz1 hm), fun _ => ⟨_, h', hl h', fun hc => absurd hc (nz1 hg), fun _ => rfl⟩⟩⟩
      · rw [zl_4, zI_lt (by omega) (by omega) (by omega) (by omega)] at hc; omega
      · rw [zl_96, zI_le (by omega) (by omega) (by omega) (by omega)] at hc; omega
    · refine ⟨2, Or.inr (Or.inr rfl), ⟨fun e => by omega, fun e => absurd e.2 hg⟩, wp_FR_lengthRefusal ⟨_, h, s_isModeF P x1 x2, fun hc => absurd hc (nz1 hm), fun _ => ⟨fun _ => rfl, fun hc => ⟨fun hc2 => ?_, fun _ => rfl⟩⟩⟩, fun h' P' => wp_M_lengthWhy ⟨_, h', s_isModeM P' x1 x2, fun hc => absurd hc (nz1 hm), fun _ => ⟨_, h', hl h', fun _ => rfl, fun hc => absurd (nz0 hg) hc⟩⟩⟩
      rw [zl_4, zI_lt (by omega) (by omega) (by omega) (by omega)] at hc
      rw [zl_96, zI_le (by omega) (by omega) (by omega) (by omega)] at hc2; omega
  · exact ⟨1, Or.inr (Or.inl rfl), ⟨fun e => by omega, fun e => absurd e.1 hm⟩, wp_FR_lengthRefusal ⟨_, h, s_isModeF P x1 x2, fun _ => rfl, fun hc => absurd (nz0 hm) hc⟩, fun h' P' => wp_M_lengthWhy ⟨_, h', s_isModeM P' x1 x2, fun _ => rfl, fun hc => absurd (nz0 hm) hc⟩⟩
end SMALL
