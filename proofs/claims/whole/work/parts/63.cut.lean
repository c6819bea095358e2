/-! ===== sets as bits (rows on bits begun from the kit's BITS.to-paste) ===== -/
def tb (x : Int32) (i : Nat) : Bool := x.toBitVec.getLsbD i
theorem tb_ext {x y : Int32} (h : ∀ i, i < 32 → tb x i = tb y i) : x = y := Int32.toBitVec_inj.mp (BitVec.eq_of_getLsbD_eq (fun i hi => h i hi))
theorem tb_or (x y : Int32) (i : Nat) : tb (x ||| y) i = (tb x i || tb y i) := by unfold tb; rw [Int32.toBitVec_or, BitVec.getLsbD_or]
theorem tb_and (x y : Int32) (i : Nat) : tb (x &&& y) i = (tb x i && tb y i) := by unfold tb; rw [Int32.toBitVec_and, BitVec.getLsbD_and]
theorem tb_xor (x y : Int32) (i : Nat) : tb (x ^^^ y) i = (tb x i ^^ tb y i) := by unfold tb; rw [Int32.toBitVec_xor, BitVec.getLsbD_xor]
theorem tb_0 (i : Nat) : tb 0 i = false := BitVec.getLsbD_zero
theorem tb_m1 : ∀ i, i < 32 → tb (-1) i = true := by decide +kernel
theorem tb_1 : ∀ i, i < 32 → tb 1 i = decide (i = 0) := by decide +kernel
theorem tb_s : ∀ n, n < 32 → ((zI (n : Nat) &&& 31).toBitVec.smod 32).toNat = n := by decide +kernel
theorem tb_shl {n : Nat} (hn : n < 32) {i : Nat} (hi : i < 32) : tb (1 <<< (zI (n : Int) &&& 31)) i = decide (i = n) := by
  unfold tb
  rw [Int32.toBitVec_shiftLeft]
  show ((1 : Int32).toBitVec <<< ((zI (n : Int) &&& 31).toBitVec.smod 32).toNat).getLsbD i = _
  rw [tb_s n hn, BitVec.getLsbD_shiftLeft]
  have h1 : (1 : Int32).toBitVec.getLsbD (i - n) = decide (i - n = 0) := tb_1 (i - n) (by omega)
  rw [h1]
  rcases Nat.lt_or_ge i n with h | h
  · simp [h, hi]; omega
  · simp [hi, Nat.not_lt.mpr h]; omega
theorem tb_shr {n : Nat} (hn : n < 32) (x : Int32) : tb (x >>> (zI (n : Int) &&& 31)) 0 = tb x n := by
  unfold tb
  rw [Int32.toBitVec_shiftRight]
  show (x.toBitVec.sshiftRight ((zI (n : Int) &&& 31).toBitVec.smod 32).toNat).getLsbD 0 = _
  rw [tb_s n hn, BitVec.getLsbD_sshiftRight]
  simp [hn]
theorem tb_test {n : Nat} (hn : n < 32) (x : Int32) : (((x >>> (zI (n : Int) &&& 31)) &&& 1) = 1) ↔ tb x n = true := by
  constructor
  · intro h
    have := congrArg (fun y => tb y 0) h
    simp only [tb_and, tb_1 0 (by omega), tb_shr hn] at this
    simpa using this
  · intro h
    refine tb_ext (fun i hi => ?_)
    rw [tb_and, tb_1 i hi]
    by_cases e : i = 0
    · subst e
      rw [tb_shr hn, h]; rfl
    · simp [e]
theorem tb_win : ∀ f, f < 24 → ∀ l, l < 24 → f ≤ l → ∀ k, k < 32 → tb ((1 <<< ((zI (l : Nat) + 1) &&& 31)) - (1 <<< (zI (f : Nat) &&& 31))) k = (decide (f ≤ k) && decide (k ≤ l)) := by decide +kernel
/-- the bits of a set -/
def Mk (b : Int32) (S : Nat → Bool) : Prop := ∀ k, k < 32 → tb b k = S k
theorem Mk.uq {b b' : Int32} {S S' : Nat → Bool} (h : Mk b S) (h' : Mk b' S') (e : ∀ k, k < 32 → S k = S' k) : b = b' := tb_ext (fun k hk => by rw [h k hk, h' k hk, e k hk])
theorem Mk_0 : Mk 0 (fun _ => false) := fun k _ => tb_0 k
theorem Mk.or {b b' : Int32} {S S' : Nat → Bool} (h : Mk b S) (h' : Mk b' S') : Mk (b ||| b') (fun k => S k || S' k) := fun k hk => by rw [tb_or, h k hk, h' k hk]
theorem Mk.or1 {b : Int32} {S : Nat → Bool} (h : Mk b S) {n : Nat} (hn : n < 32) : Mk (b ||| (1 <<< (zI (n : Int) &&& 31))) (fun k => S k || decide (k = n)) := fun k hk => by rw [tb_or, h k hk, tb_shl hn hk]
theorem Mk.cg {b : Int32} {S S' : Nat → Bool} (h : Mk b S) (e : ∀ k, k < 32 → S k = S' k) : Mk b S' := fun k hk => by rw [h k hk, e k hk]
theorem Mk.or0 {b : Int32} {S : Nat → Bool} (h : Mk b S) : Mk (b ||| 0) S := fun k hk => by rw [tb_or, h k hk, tb_0, Bool.or_false]
theorem Mk.test {b : Int32} {S : Nat → Bool} (h : Mk b S) {n : Nat} (hn : n < 32) : (((b >>> (zI (n : Int) &&& 31)) &&& 1) = 1) ↔ S n = true := by rw [tb_test hn, h n hn]
/-! ===== what is reached ===== -/
def inW (fi la : Nat → Int) (j k : Nat) : Bool := decide (fi j ≤ (k : Int)) && decide ((k : Int) ≤ la j)
theorem inW_iff {fi la : Nat → Int} {j k : Nat} : inW fi la j k = true ↔ fi j ≤ (k : Int) ∧ (k : Int) ≤ la j := by unfold inW; simp
def rW (J : Nat) (fi la : Nat → Int) (R : Nat → Bool) (k : Nat) : Bool := anyTo (fun j => R j && inW fi la j k) J
def rH (J F : Nat) (u : Nat → Nat → Int) (R : Nat → Bool) (j : Nat) : Bool := decide (j < J) && anyTo (fun k => R k && decide (0 < u j k)) F
section CUT
variable {h : jm_H} {f J F : Nat} {room : Int} {fi la c : Nat → Int} {lf sl : Nat → Int} {u : Nat → Nat → Int}
theorem s_window (S : FS h f J F room fi la c) {j : Nat} (hj : j < J) : ∃ b, m_Flow_window f (zI j) h b h ∧ Mk b (inW fi la j) := by
  have hE := s_isEmpty S hj
  have s1 := S.1
  have s2 := S.2.1
  have s7 := S.2.2.2.2.2.2.1 j hj
  have s8 := S.2.2.2.2.2.2.2.1 j hj
  have hi : jm_in (zI (j : Int)) 24 := zI_in (by omega) (by omega) (by omega)
  by_cases he : fi j ≤ la j
  · obtain ⟨a, ea⟩ : ∃ a : Nat, fi j = (a : Int) := ⟨(fi j).toNat, by omega⟩
    obtain ⟨b, eb⟩ : ∃ b : Nat, la j = (b : Int) := ⟨(la j).toNat, by omega⟩
    refine ⟨(1 <<< ((zI (b : Int) + 1) &&& 31)) - (1 <<< (zI (a : Int) &&& 31)), wp_Flow_window ⟨_, h, hE, fun _ => ⟨hi, hi, ?_⟩, fun hc => ?_⟩, fun k hk => ?_⟩
    · rw [zI_cn (by omega), s7.1, s8.1, ea, eb]
    · rw [if_pos he] at hc; exact absurd rfl hc
    · rw [tb_win a (by omega) b (by omega) (by omega) k hk]
      unfold inW
      rw [ea, eb]
      congr 1
      · exact decide_eq_decide.mpr (by omega)
      · exact decide_eq_decide.mpr (by omega)
  · refine ⟨0, wp_Flow_window ⟨_, h, hE, fun hc => ?_, fun _ => rfl⟩, fun k hk => ?_⟩
    · rw [if_neg he] at hc; exact absurd hc (by decide)
    · rw [tb_0]
      unfold inW
      symm
      rw [Bool.and_eq_false_iff]
      by_cases h1 : fi j ≤ (k : Int)
      · exact Or.inr (decide_eq_false (by omega))
      · exact Or.inl (decide_eq_false h1)
theorem s_windowsOf_4 (S : FS h f J F room fi la c) {bj : Int32} {R : Nat → Bool} (hb : Mk bj R) : ∀ (e n : Nat) (b : Int32), n + e = J → Mk b (fun k => anyTo (fun j => R j && inW fi la j k) n) → ∃ b', l_Flow_windowsOf_4 f bj b (zI n) h (some (jm_i b'), h) ∧ Mk b' (rW J fi la R) := by
  have s1 := S.1
  have s6 := S.2.2.2.2.2.1
  intro e
  induction e with
  | zero =>
    intro n b en hM
    have en : n = J := by omega
    subst en
    refine ⟨b, wp_Flow_windowsOf_4 ⟨fun _ => rfl, fun hc => ?_⟩, hM⟩
    rw [s6, zI_le (by omega) (by omega) (by omega) (by omega)] at hc; omega
  | succ e ih =>
    intro n b en hM
    obtain ⟨v, v1, v2⟩ := s_window S (j := n) (by omega)
    by_cases hr : R n = true
    · obtain ⟨b', r1, r2⟩ := ih (n + 1) (b ||| v) (by omega) ((hM.or v2).cg (fun k hk => by
        show _ = (_ || (R n && inW fi la n k))
        rw [hr, Bool.true_and]))
      refine ⟨b', wp_Flow_windowsOf_4 ⟨fun hc => ?_, fun _ => ⟨fun _ => ⟨v, h, v1, ?_⟩, fun hc => ?_⟩⟩, r2⟩
      · rw [s6, zI_le (by omega) (by omega) (by omega) (by omega)] at hc; omega
      · rw [zl_1, zI_add]; exact r1
      · rw [hb.test (by omega)] at hc; exact absurd hr hc
    · obtain ⟨b', r1, r2⟩ := ih (n + 1) b (by omega) (hM.cg (fun k hk => by
        show _ = (_ || (R n && inW fi la n k))
        rw [show R n = false by simpa using hr, Bool.false_and, Bool.or_false]))
      refine ⟨b', wp_Flow_windowsOf_4 ⟨fun hc => ?_, fun _ => ⟨fun hc => ?_, fun _ => ?_⟩⟩, r2⟩
      · rw [s6, zI_le (by omega) (by omega) (by omega) (by omega)] at hc; omega
      · rw [hb.test (by omega)] at hc; exact absurd hc hr
      · rw [zl_1, zI_add]; exact r1
theorem s_windowsOf (S : FS h f J F room fi la c) {bj : Int32} {R : Nat → Bool} (hb : Mk bj R) : ∃ b', m_Flow_windowsOf f bj h b' h ∧ Mk b' (rW J fi la R) := by
  obtain ⟨b', r1, r2⟩ := s_windowsOf_4 S hb J 0 0 (by omega) Mk_0
  exact ⟨b', wp_Flow_windowsOf r1, r2⟩
theorem s_holdersOf_13 (S : FS h f J F room fi la c) (D : FD h f J F lf sl u) (hu : ∀ j k, j < J → k < F → u j k ≠ 0 → fi j ≤ k ∧ (k : Int) ≤ la j) (ub : ∀ j k, j < J → k < F → 0 ≤ u j k ∧ u j k ≤ 100) {bf : Int32} {R : Nat → Bool} (hb : Mk bf R) {j : Nat} (hj : j < J) {T : Nat → Bool} {r : jm_Rs} : ∀ (e n : Nat) (b : Int32), (n : Int) + e = la j + 1 → fi j ≤ n → Mk b (fun i => T i || (decide (i = j) && anyTo (fun k => R k && decide (0 < u j k)) n)) → (∀ b', Mk b' (fun i => T i || (decide (i = j) && anyTo (fun k => R k && decide (0 < u j k)) F)) → l_Flow_holdersOf_4 f bf b' (zI j + 1) h r) → l_Flow_holdersOf_13 f bf b (zI j) (zI n) h r := by
  have s1 := S.1
  have s2 := S.2.1
  have s7 := S.2.2.2.2.2.2.1 j hj
  have s8 := S.2.2.2.2.2.2.2.1 j hj
  have hi : jm_in (zI (j : Int)) 24 := zI_in (by omega) (by omega) (by omega)
  intro e
  induction e with
  | zero =>
    intro n b en hf hM hk
    refine wp_Flow_holdersOf_13 ⟨hi, fun _ => ?_, fun hc => ?_⟩
    · refine hk b (hM.cg (fun i _ => ?_))
      have : anyTo (fun k => R k && decide (0 < u j k)) F = anyTo (fun k => R k && decide (0 < u j k)) n := by
        have key : ∀ e : Nat, n + e ≤ F → anyTo (fun k => R k && decide (0 < u j k)) (n + e) = anyTo (fun k => R k && decide (0 < u j k)) n := by
          intro e
          induction e with
          | zero => intro _; rfl
          | succ e ih =>
            intro he
            show (anyTo _ (n + e) || (R (n + e) && decide (0 < u j (n + e)))) = _
            rw [ih (by omega)]
            have : u j (n + e) = 0 := Classical.byContradiction (fun hne => by have := hu j (n + e) hj (by omega) hne; omega)
            rw [this]; simp
        have := key (F - n) (by omega)
        rwa [show n + (F - n) = F by omega] at this
      rw [this]
    · rw [zI_cn (by omega), s8.1, zI_lt (by omega) (by omega) (by omega) (by omega)] at hc; omega
  | succ e ih =>
    intro n b en hf hM hk
    have hnF : n < F := by omega
    have ubn := ub j n hj hnF
    have eu : h.1 21 (24 * f + (zI (j : Int)).toNatClampNeg) (zI (n : Int)).toNatClampNeg = zI (u j n) := by rw [zI_cn (by omega), zI_cn (by omega)]; exact D.2.2 j n hj (by omega)
    have go : ∀ X : Bool, (R n && decide (0 < u j n)) = X → ∀ b2, Mk b2 (fun i => (T i || (decide (i = j) && anyTo (fun k => R k && decide (0 < u j k)) n)) || (X && decide (i = j))) → l_Flow_holdersOf_13 f bf b2 (zI j) (zI n + 1) h r := by
      intro X hX b2 hb2
      rw [zl_1, zI_add]
      refine ih (n + 1) b2 (by omega) (by omega) (hb2.cg (fun i _ => ?_)) hk
      show _ = (T i || (decide (i = j) && (anyTo _ n || (R n && decide (0 < u j n)))))
      rw [hX]
      cases T i <;> cases X <;> cases decide (i = j) <;> simp
    refine wp_Flow_holdersOf_13 ⟨hi, fun hc => ?_, fun _ => ⟨fun hc => ⟨hi, zI_in (by omega) (by omega) (by omega), fun hc2 => ?_, fun hc2 => ?_⟩, fun hc => ?_⟩⟩
    · rw [zI_cn (by omega), s8.1, zI_lt (by omega) (by omega) (by omega) (by omega)] at hc; omega
    · rw [eu, zl_0, zI_le (by omega) (by omega) (by omega) (by omega)] at hc2
      refine go false (by rw [decide_eq_false (by omega), Bool.and_false]) b (hM.cg (fun i _ => ?_))
      rw [Bool.false_and, Bool.or_false]
    · rw [eu, zl_0, zI_le (by omega) (by omega) (by omega) (by omega)] at hc2
      rw [hb.test (by omega)] at hc
      refine go true (by rw [decide_eq_true (by omega), hc]; rfl) _ ((hM.or1 (n := j) (by omega)).cg (fun i _ => ?_))
      rw [Bool.true_and]
    · rw [hb.test (by omega)] at hc
      refine go false (by rw [show R n = false by simpa using hc, Bool.false_and]) b (hM.cg (fun i _ => ?_))
      rw [Bool.false_and, Bool.or_false]
theorem s_holdersOf_4 (S : FS h f J F room fi la c) (D : FD h f J F lf sl u) (hu : ∀ j k, j < J → k < F → u j k ≠ 0 → fi j ≤ k ∧ (k : Int) ≤ la j) (ub : ∀ j k, j < J → k < F → 0 ≤ u j k ∧ u j k ≤ 100) {bf : Int32} {R : Nat → Bool} (hb : Mk bf R) : ∀ (e n : Nat) (b : Int32), n + e = J → Mk b (fun j => decide (j < n) && anyTo (fun k => R k && decide (0 < u j k)) F) → ∃ b', l_Flow_holdersOf_4 f bf b (zI n) h (some (jm_i b'), h) ∧ Mk b' (rH J F u R) := by
  have s1 := S.1
  have s2 := S.2.1
  have s6 := S.2.2.2.2.2.1
  intro e
  induction e with
  | zero =>
    intro n b en hM
    have en : n = J := by omega
    subst en
    refine ⟨b, wp_Flow_holdersOf_4 ⟨fun _ => rfl, fun hc => ?_⟩, hM⟩
    rw [s6, zI_le (by omega) (by omega) (by omega) (by omega)] at hc; omega
  | succ e ih =>
    intro n b en hM
    have hn : n < J := by omega
    have s7 := S.2.2.2.2.2.2.1 n hn
    have s8 := S.2.2.2.2.2.2.2.1 n hn
    have hi : jm_in (zI (n : Int)) 24 := zI_in (by omega) (by omega) (by omega)
    -- the set behind this job
    obtain ⟨bx, hbx⟩ : ∃ bx, Mk bx (fun j => decide (j < n + 1) && anyTo (fun k => R k && decide (0 < u j k)) F) := by
      by_cases hx : anyTo (fun k => R k && decide (0 < u n k)) F = true
      · refine ⟨_, (hM.or1 (n := n) (by omega)).cg (fun i _ => ?_)⟩
        by_cases e2 : i = n
        · subst e2
          rw [hx]; simp
        · rw [decide_eq_false e2, Bool.or_false]
          congr 1
          exact decide_eq_decide.mpr (by omega)
      · refine ⟨b, hM.cg (fun i _ => ?_)⟩
        by_cases e2 : i = n
        · subst e2
          rw [show anyTo (fun k => R k && decide (0 < u i k)) F = false by simpa using hx]; simp
        · congr 1
          exact decide_eq_decide.mpr (by omega)
    obtain ⟨b', r1, r2⟩ := ih (n + 1) bx (by omega) hbx
    refine ⟨b', wp_Flow_holdersOf_4 ⟨fun hc => ?_, fun _ => ⟨hi, ?_⟩⟩, r2⟩
    · rw [s6, zI_le (by omega) (by omega) (by omega) (by omega)] at hc; omega
    · rw [zI_cn (by omega), s7.1]
      obtain ⟨a, ea⟩ : ∃ a : Nat, fi n = (a : Int) := ⟨(fi n).toNat, by omega⟩
      have fin : ∀ b'' : Int32, Mk b'' (fun i => (decide (i < n) && anyTo (fun k => R k && decide (0 < u i k)) F) || (decide (i = n) && anyTo (fun k => R k && decide (0 < u n k)) F)) → l_Flow_holdersOf_4 f bf b'' (zI n + 1) h (some (jm_i b'), h) := by
        intro b'' hb''
        have : b'' = bx := hb''.uq hbx (fun i _ => by
          by_cases e2 : i = n
          · subst e2; simp
          · rw [decide_eq_false e2, Bool.false_and, Bool.or_false]
            congr 1
            exact decide_eq_decide.mpr (by omega))
        rw [this, zl_1, zI_add]; exact r1
      by_cases hle : fi n ≤ la n + 1
      · have hz : anyTo (fun k => R k && decide (0 < u n k)) a = false := by
          refine anyTo_f.mpr (fun k hk => ?_)
          have : u n k = 0 := Classical.byContradiction (fun hne => by have := hu n k hn (by omega) hne; omega)
          rw [this]; simp
        rw [ea]
        refine s_holdersOf_13 S D hu ub hb hn (T := fun i => decide (i < n) && anyTo (fun k => R k && decide (0 < u i k)) F) (la n + 1 - a).toNat a b (by omega) (by omega) (hM.cg (fun i _ => ?_)) fin
        rw [hz, Bool.and_false, Bool.or_false]
      · have hz : anyTo (fun k => R k && decide (0 < u n k)) F = false := by
          refine anyTo_f.mpr (fun k hk => ?_)
          have : u n k = 0 := Classical.byContradiction (fun hne => by have := hu n k hn hk hne; omega)
          rw [this]; simp
        refine wp_Flow_holdersOf_13 ⟨hi, fun _ => fin b (hM.cg (fun i _ => ?_)), fun hc => ?_⟩
        · rw [hz, Bool.and_false, Bool.or_false]
        · rw [zI_cn (by omega), s8.1, zI_lt (by omega) (by omega) (by omega) (by omega)] at hc; omega
theorem s_holdersOf (S : FS h f J F room fi la c) (D : FD h f J F lf sl u) (hu : ∀ j k, j < J → k < F → u j k ≠ 0 → fi j ≤ k ∧ (k : Int) ≤ la j) (ub : ∀ j k, j < J → k < F → 0 ≤ u j k ∧ u j k ≤ 100) {bf : Int32} {R : Nat → Bool} (hb : Mk bf R) : ∃ b', m_Flow_holdersOf f bf h b' h ∧ Mk b' (rH J F u R) := by
  obtain ⟨b', r1, r2⟩ := s_holdersOf_4 S D hu ub hb J 0 0 (by omega) (Mk_0.cg (fun j _ => by simp))
  exact ⟨b', wp_Flow_holdersOf r1, r2⟩
/-- how many are in a set -/
def cnt (J : Nat) (R : Nat → Bool) : Int := sm J (fun j => if R j = true then 1 else 0)
theorem cnt_le (J : Nat) (R : Nat → Bool) : cnt J R ≤ J := by
  unfold cnt
  induction J with
  | zero => exact Int.le_refl _
  | succ n ih =>
    rw [sm_s]
    split <;> omega
theorem cnt_up {R R' : Nat → Bool} (hs : ∀ j, j < J → R j = true → R' j = true) {i : Nat} (hi : i < J) (h1 : R i = false) (h2 : R' i = true) : cnt J R + 1 ≤ cnt J R' := by
  unfold cnt
  have a : sm J (fun j => if R j = true then (1 : Int) else 0) + (1 - 0) ≤ sm J (fun j => if R' j = true then (1 : Int) else 0) := by
    have b := sm_up (n := J) (f := fun j => if R j = true then (1 : Int) else 0) (g := fun j => if j = i then 1 else if R j = true then (1 : Int) else 0) hi (fun k _ hne => by (try dsimp only); rw [if_neg hne])
    (try dsimp only at b)
    rw [if_pos rfl, h1] at b
    have c : sm J (fun j => if j = i then 1 else if R j = true then (1 : Int) else 0) ≤ sm J (fun j => if R' j = true then (1 : Int) else 0) := sm_le (fun j hj => by
      (try dsimp only)
      by_cases e : j = i
      · rw [if_pos e, e, if_pos h2]; exact Int.le_refl _
      · rw [if_neg e]
        by_cases hr : R j = true
        · rw [if_pos hr, if_pos (hs j hj hr)]; exact Int.le_refl _
        · rw [if_neg hr]; split <;> omega)
    simp at b
    omega
  omega
theorem cnt_0 {R : Nat → Bool} (hz : cnt J R ≤ 0) {j : Nat} (hj : j < J) : R j = false := by
  have nn : ∀ i, i < J → 0 ≤ (if R i = true then (1 : Int) else 0) := fun i _ => by split <;> omega
  have h0 : 0 ≤ cnt J R := sm_nn nn
  have := sm_z nn (by unfold cnt at h0 hz; omega) hj
  cases hr : R j with
  | false => rfl
  | true => rw [hr] at this; simp at this
/-- closed: holds all that is reached -/
def fl_cl (J F : Nat) (fi la : Nat → Int) (lf : Nat → Int) (u : Nat → Nat → Int) (S : Nat → Bool) : Prop :=
  (∀ j, j < J → 0 < lf j → ∀ k : Nat, fi j ≤ k → (k : Int) ≤ la j → S k = true) ∧ (∀ j k, j < J → k < F → S k = true → u j k ≠ 0 → ∀ k' : Nat, fi j ≤ k' → (k' : Int) ≤ la j → S k' = true)
def fl_mn (J F : Nat) (fi la : Nat → Int) (lf : Nat → Int) (u : Nat → Nat → Int) (R : Nat → Bool) : Prop := fl_cl J F fi la lf u R ∧ ∀ S, fl_cl J F fi la lf u S → ∀ k, R k = true → S k = true
theorem rW_iff {R : Nat → Bool} {k : Nat} : rW J fi la R k = true ↔ ∃ j, j < J ∧ R j = true ∧ fi j ≤ (k : Int) ∧ (k : Int) ≤ la j := by
  unfold rW
  rw [anyTo_iff]
  constructor
  · rintro ⟨j, h1, h2⟩
    rw [Bool.and_eq_true, inW_iff] at h2
    exact ⟨j, h1, h2.1, h2.2⟩
  · rintro ⟨j, h1, h2, h3⟩
    exact ⟨j, h1, by rw [Bool.and_eq_true, inW_iff]; exact ⟨h2, h3⟩⟩
theorem rH_iff {R : Nat → Bool} {j : Nat} : rH J F u R j = true ↔ j < J ∧ ∃ k, k < F ∧ R k = true ∧ 0 < u j k := by
  unfold rH
  rw [Bool.and_eq_true, decide_eq_true_iff, anyTo_iff]
  refine and_congr Iff.rfl ⟨?_, ?_⟩
  · rintro ⟨k, h1, h2⟩
    rw [Bool.and_eq_true, decide_eq_true_iff] at h2
    exact ⟨k, h1, h2⟩
  · rintro ⟨k, h1, h2⟩
    exact ⟨k, h1, by rw [Bool.and_eq_true, decide_eq_true_iff]; exact h2⟩
theorem s_cut_25 (S : FS h f J F room fi la c) (D : FD h f J F lf sl u) (hu : ∀ j k, j < J → k < F → u j k ≠ 0 → fi j ≤ k ∧ (k : Int) ≤ la j) (ub : ∀ j k, j < J → k < F → 0 ≤ u j k ∧ u j k ≤ 100) : ∀ (e n : Nat) (bj bf : Int32) (RJ RF : Nat → Bool), n + e = J → Mk bj RJ → Mk bf RF → (∀ j, j < J → 0 < lf j → RJ j = true) → (∀ j, j < J → rH J F u RF j = true → RJ j = true) → (∀ S, fl_cl J F fi la lf u S → (∀ j, j < J → RJ j = true → ∀ k : Nat, fi j ≤ k → (k : Int) ≤ la j → S k = true)) → ((∃ k, k < 32 ∧ rW J fi la RJ k ≠ RF k) → (n : Int) + 1 ≤ cnt J RJ) →
    ∃ b R, l_Flow_cut_25 f bj bf (zI n) h (some (jm_i b), h) ∧ Mk b R ∧ fl_mn J F fi la lf u R ∧ (∀ k, R k = true → k < F) := by
  have s1 := S.1
  have s2 := S.2.1
  have s6 := S.2.2.2.2.2.1
  intro e
  induction e with
  | zero =>
    intro n bj bf RJ RF en hj hf hl hh hs hc
    obtain ⟨bw, w1, w2⟩ := s_windowsOf S hj
    have heq : ∀ k, k < 32 → rW J fi la RJ k = RF k := fun k hk => Classical.byContradiction (fun hne => by have := hc ⟨k, hk, hne⟩; have := cnt_le J RJ; omega)
    have hbw : bw = bf := w2.uq hf heq
    have hlt : ∀ k, rW J fi la RJ k = true → k < F := fun k hk => by
      obtain ⟨j, j1, j2, j3, j4⟩ := rW_iff.mp hk
      have := (S.2.2.2.2.2.2.2.1 j j1).2
      omega
    refine ⟨bw, rW J fi la RJ, wp_Flow_cut_25 ⟨fun hc => ?_, fun _ => ⟨bw, h, w1, fun _ => rfl, fun hc => absurd hbw hc⟩⟩, w2, ⟨⟨fun j hj2 hlf k k1 k2 => rW_iff.mpr ⟨j, hj2, hl j hj2 hlf, k1, k2⟩, fun j k hj2 hk hs2 hu2 k' k1 k2 => ?_⟩, fun S' hS' k hk => ?_⟩, hlt⟩
    · rw [s6, zI_lt (by omega) (by omega) (by omega) (by omega)] at hc; omega
    · refine rW_iff.mpr ⟨j, hj2, hh j hj2 (rH_iff.mpr ⟨hj2, k, hk, ?_, ?_⟩), k1, k2⟩
      · rw [← heq k (by omega)]; exact hs2
      · have := ub j k hj2 hk; omega
    · obtain ⟨j, j1, j2, j3, j4⟩ := rW_iff.mp hk
      exact hs S' hS' j j1 j2 k j3 j4
  | succ e ih =>
    intro n bj bf RJ RF en hj hf hl hh hs hc
    obtain ⟨bw, w1, w2⟩ := s_windowsOf S hj
    have hlt : ∀ k, rW J fi la RJ k = true → k < F := fun k hk => by
      obtain ⟨j, j1, j2, j3, j4⟩ := rW_iff.mp hk
      have := (S.2.2.2.2.2.2.2.1 j j1).2
      omega
    by_cases hne : ∃ k, k < 32 ∧ rW J fi la RJ k ≠ RF k
    · have hcn := hc hne
      have hcl := cnt_le J RJ
      obtain ⟨bh, h1, h2⟩ := s_holdersOf S D hu ub w2
      obtain ⟨b, R, r1, r2, r3, r4⟩ := ih (n + 1) (bj ||| bh) bw (fun j => RJ j || rH J F u (rW J fi la RJ) j) (rW J fi la RJ) (by omega) (hj.or h2) w2 (fun j hj2 hlf => by (try dsimp only); rw [hl j hj2 hlf]; rfl) (fun j hj2 hr => by (try dsimp only); rw [hr, Bool.or_true]) (fun S' hS' j hj2 hr k k1 k2 => by
          (try dsimp only at hr)
          rw [Bool.or_eq_true] at hr
          rcases hr with hr | hr
          · exact hs S' hS' j hj2 hr k k1 k2
          · obtain ⟨_, k0, q1, q2, q3⟩ := rH_iff.mp hr
            obtain ⟨j', j1, j2, j3, j4⟩ := rW_iff.mp q2
            exact hS'.2 j k0 hj2 q1 (hs S' hS' j' j1 j2 k0 j3 j4) (by omega) k k1 k2) (fun ⟨k, hk, hkn⟩ => by
          -- more jobs are reached
          have hex : ∃ i, i < J ∧ RJ i = false ∧ rH J F u (rW J fi la RJ) i = true := Classical.byContradiction (fun hno => hkn (by
            have same : ∀ j, j < J → (RJ j || rH J F u (rW J fi la RJ) j) = RJ j := fun j hj2 => by
              cases hr : RJ j with
              | true => rfl
              | false =>
                cases hr2 : rH J F u (rW J fi la RJ) j with
                | false => rfl
                | true => exact absurd ⟨j, hj2, hr, hr2⟩ hno
            cases hx : rW J fi la RJ k with
            | true =>
              obtain ⟨j, j1, j2, j3⟩ := rW_iff.mp hx
              exact rW_iff.mpr ⟨j, j1, by (try dsimp only); rw [same j j1]; exact j2, j3⟩
            | false =>
              cases hy : rW J fi la (fun j => RJ j || rH J F u (rW J fi la RJ) j) k with
              | false => rfl
              | true =>
                obtain ⟨j, j1, j2, j3⟩ := rW_iff.mp hy
                (try dsimp only at j2)
                rw [same j j1] at j2
                rw [rW_iff.mpr ⟨j, j1, j2, j3⟩] at hx
                cases hx))
          obtain ⟨i, i1, i2, i3⟩ := hex
          have := cnt_up (J := J) (R := RJ) (R' := fun j => RJ j || rH J F u (rW J fi la RJ) j) (fun j _ hr => by (try dsimp only); rw [hr]; rfl) i1 i2 (by (try dsimp only); rw [i3, Bool.or_true])
          omega)
      refine ⟨b, R, wp_Flow_cut_25 ⟨fun hc => ?_, fun _ => ⟨bw, h, w1, fun hc => ?_, fun _ => ⟨bh, h, h1, ?_⟩⟩⟩, r2, r3, r4⟩
      · rw [s6, zI_lt (by omega) (by omega) (by omega) (by omega)] at hc; omega
      · obtain ⟨k, hk, hkn⟩ := hne
        exact absurd (by rw [← w2 k hk, ← hf k hk, hc]) hkn
      · rw [zl_1, zI_add]; exact r1
    · have heq : ∀ k, k < 32 → rW J fi la RJ k = RF k := fun k hk => Classical.byContradiction (fun hn => hne ⟨k, hk, hn⟩)
      have hbw : bw = bf := w2.uq hf heq
      refine ⟨bw, rW J fi la RJ, wp_Flow_cut_25 ⟨fun hc => ?_, fun _ => ⟨bw, h, w1, fun _ => rfl, fun hc => absurd hbw hc⟩⟩, w2, ⟨⟨fun j hj2 hlf k k1 k2 => rW_iff.mpr ⟨j, hj2, hl j hj2 hlf, k1, k2⟩, fun j k hj2 hk hs2 hu2 k' k1 k2 => ?_⟩, fun S' hS' k hk => ?_⟩, hlt⟩
      · rw [s6, zI_lt (by omega) (by omega) (by omega) (by omega)] at hc; omega
      · refine rW_iff.mpr ⟨j, hj2, hh j hj2 (rH_iff.mpr ⟨hj2, k, hk, ?_, ?_⟩), k1, k2⟩
        · rw [← heq k (by omega)]; exact hs2
        · have := ub j k hj2 hk; omega
      · obtain ⟨j, j1, j2, j3, j4⟩ := rW_iff.mp hk
        exact hs S' hS' j j1 j2 k j3 j4
theorem s_cut_4 (S : FS h f J F room fi la c) (D : FD h f J F lf sl u) (hu : ∀ j k, j < J → k < F → u j k ≠ 0 → fi j ≤ k ∧ (k : Int) ≤ la j) (ub : ∀ j k, j < J → k < F → 0 ≤ u j k ∧ u j k ≤ 100) (B : lfB J lf) : ∀ (e n : Nat) (b : Int32), n + e = J → Mk b (fun j => decide (j < n) && decide (0 < lf j)) → ∃ b' R, l_Flow_cut_4 f b (zI n) h (some (jm_i b'), h) ∧ Mk b' R ∧ fl_mn J F fi la lf u R ∧ (∀ k, R k = true → k < F) := by
  have s1 := S.1
  have s6 := S.2.2.2.2.2.1
  intro e
  induction e with
  | zero =>
    intro n b en hM
    have en : n = J := by omega
    subst en
    obtain ⟨b', R, r1, r2⟩ := s_cut_25 S D hu ub n 0 b 0 _ _ (by omega) hM Mk_0 (fun j hj hl => by simp [hj, hl]) (fun j hj hr => by
      obtain ⟨_, k, k1, k2, _⟩ := rH_iff.mp hr
      cases k2) (fun S' hS' j hj hr k k1 k2 => hS'.1 j hj (by simp at hr; exact hr.2) k k1 k2) (fun ⟨k, hk, hkn⟩ => by
      have hx : rW n fi la (fun j => decide (j < n) && decide (0 < lf j)) k = true := by
        cases hx : rW n fi la (fun j => decide (j < n) && decide (0 < lf j)) k with
        | true => rfl
        | false => exact absurd hx hkn
      obtain ⟨j, j1, j2, j3⟩ := rW_iff.mp hx
      have : ¬ cnt n (fun j => decide (j < n) && decide (0 < lf j)) ≤ 0 := fun hz => by
        have := cnt_0 hz j1
        (try dsimp only at this j2)
        rw [j2] at this
        cases this
      omega)
    refine ⟨b', R, wp_Flow_cut_4 ⟨fun _ => r1, fun hc => ?_⟩, r2⟩
    rw [s6, zI_le (by omega) (by omega) (by omega) (by omega)] at hc; omega
  | succ e ih =>
    intro n b en hM
    have hn : n < J := by omega
    have bn := B n hn
    have e1 : h.1 18 f (zI (n : Int)).toNatClampNeg = zI (lf n) := by rw [zI_cn (by omega)]; exact D.1 n hn
    have hi : jm_in (zI (n : Int)) 24 := zI_in (by omega) (by omega) (by omega)
    by_cases hl : 0 < lf n
    · obtain ⟨b', R, r1, r2⟩ := ih (n + 1) _ (by omega) ((hM.or1 (n := n) (by omega)).cg (fun i _ => by
        (try dsimp only)
        by_cases e2 : i = n
        · subst e2; simp [hl]
        · rw [decide_eq_false e2, Bool.or_false]
          congr 1
          exact decide_eq_decide.mpr (by omega)))
      refine ⟨b', R, wp_Flow_cut_4 ⟨fun hc => ?_, fun _ => ⟨hi, fun hc => ?_, fun _ => ?_⟩⟩, r2⟩
      · rw [s6, zI_le (by omega) (by omega) (by omega) (by omega)] at hc; omega
      · rw [e1, zl_0, zI_le (by omega) (by omega) (by omega) (by omega)] at hc; omega
      · rw [zl_1, zI_add]; exact r1
    · obtain ⟨b', R, r1, r2⟩ := ih (n + 1) b (by omega) (hM.cg (fun i _ => by
        (try dsimp only)
        by_cases e2 : i = n
        · subst e2; simp [hl]
        · congr 1
          exact decide_eq_decide.mpr (by omega)))
      refine ⟨b', R, wp_Flow_cut_4 ⟨fun hc => ?_, fun _ => ⟨hi, fun _ => ?_, fun hc => ?_⟩⟩, r2⟩
      · rw [s6, zI_le (by omega) (by omega) (by omega) (by omega)] at hc; omega
      · rw [zl_1, zI_add]; exact r1
      · rw [e1, zl_0, zI_le (by omega) (by omega) (by omega) (by omega)] at hc; omega
/-- a set of the greatest over -/
def isMax (J F : Nat) (fi la c : Nat → Int) (room : Int) (S : Nat → Bool) : Prop := ∀ S', ovr J F fi la c room S' ≤ ovr J F fi la c room S
theorem mn_iff (ok : fl_ok J F fi la c room lf sl u) (ed : fl_edf J F fi la c sl u) (hfi : ∀ j, j < J → 0 ≤ fi j) (hla : ∀ j, j < J → la j < F) {R : Nat → Bool} (hR : fl_mn J F fi la lf u R) (hF : ∀ k, R k = true → k < F) (k : Nat) : R k = true ↔ k < F ∧ ∀ S, isMax J F fi la c room S → S k = true := by
  have T0 := edf_tight ok ed hfi hla
  have m0 := (tight_iff ok _).mpr T0
  have mx : ∀ S, isMax J F fi la c room S → fl_tight J F fi la lf sl u S := fun S hS => (tight_iff ok S).mp (by
    have h1 := ovr_le ok S
    have h2 := hS (fl_S0 J fi la lf sl u)
    omega)
  have RT : fl_tight J F fi la lf sl u R := ⟨hR.1.1, hR.1.2, fun k hk hr => T0.2.2 k hk (hR.2 _ ⟨T0.1, T0.2.1⟩ k hr)⟩
  constructor
  · intro hr
    exact ⟨hF k hr, fun S hS => hR.2 S ⟨(mx S hS).1, (mx S hS).2.1⟩ k hr⟩
  · rintro ⟨_, hall⟩
    refine hall R (fun S' => ?_)
    have := ovr_le ok S'
    have := (tight_iff ok R).mpr RT
    omega
noncomputable def cutB (J F : Nat) (fi la c : Nat → Int) (room : Int) (k : Nat) : Bool := @decide (k < F ∧ ∀ S, isMax J F fi la c room S → S k = true) (Classical.propDecidable _)
theorem cutB_iff {k : Nat} : cutB J F fi la c room k = true ↔ k < F ∧ ∀ S, isMax J F fi la c room S → S k = true := by
  unfold cutB
  exact @decide_eq_true_iff _ (Classical.propDecidable _)
theorem s_cut (S : FS h f J F room fi la c) (D : FD h f J F lf sl u) (ok : fl_ok J F fi la c room lf sl u) (ed : fl_edf J F fi la c sl u) : ∃ b, m_Flow_cut f h b h ∧ Mk b (cutB J F fi la c room) := by
  have B : lfB J lf := fun j hj => by
    have a := ok.2.2.1 j hj
    have b := (S.2.2.2.2.2.2.2.2 j hj).2
    have : 0 ≤ sm F (u j) := sm_nn (fun k' hk' => ok.1 j k' hj hk')
    omega
  have ub : ∀ j k, j < J → k < F → 0 ≤ u j k ∧ u j k ≤ 100 := fun j k hj hk => by
    have a := ok.2.2.1 j hj
    have b := (S.2.2.2.2.2.2.2.2 j hj).2
    have d := sm_ge (n := F) (f := u j) (fun k' hk' => ok.1 j k' hj hk') hk
    have e := ok.1 j k hj hk
    omega
  obtain ⟨b, R, r1, r2, r3, r4⟩ := s_cut_4 S D ok.2.1 ub B J 0 0 (by omega) (Mk_0.cg (fun j _ => by simp))
  refine ⟨b, wp_Flow_cut r1, r2.cg (fun k _ => ?_)⟩
  have key : R k = true ↔ cutB J F fi la c room k = true := by rw [cutB_iff]; exact mn_iff ok ed S.fib S.lab r3 r4 k
  cases hr : R k with
  | true => exact (key.mp hr).symm
  | false =>
    cases hc : cutB J F fi la c room k with
    | false => rfl
    | true => rw [key.mpr hc] at hr; cases hr
/-- jobs whose windows lie in a set -/
noncomputable def witB (J : Nat) (fi la : Nat → Int) (R : Nat → Bool) (j : Nat) : Bool := @decide (j < J ∧ ∀ k : Nat, fi j ≤ k → (k : Int) ≤ la j → R k = true) (Classical.propDecidable _)
theorem witB_iff {R : Nat → Bool} {j : Nat} : witB J fi la R j = true ↔ j < J ∧ ∀ k : Nat, fi j ≤ k → (k : Int) ≤ la j → R k = true := by
  unfold witB
  exact @decide_eq_true_iff _ (Classical.propDecidable _)
theorem wit_up {R : Nat → Bool} {b : Int32} {n : Nat} (hn : n < J) (hJ : J ≤ 24) (hM : Mk b (fun j => decide (j < n) && witB J fi la R j)) : (witB J fi la R n = true → Mk (b ||| (1 <<< (zI (n : Int) &&& 31))) (fun j => decide (j < n + 1) && witB J fi la R j)) ∧ (¬ witB J fi la R n = true → Mk b (fun j => decide (j < n + 1) && witB J fi la R j)) := by
  constructor
  · intro hw
    refine (hM.or1 (n := n) (by omega)).cg (fun i _ => ?_)
    (try dsimp only)
    by_cases e2 : i = n
    · subst e2; simp [hw]
    · rw [decide_eq_false e2, Bool.or_false]
      congr 1
      exact decide_eq_decide.mpr (by omega)
  · intro hw
    refine hM.cg (fun i _ => ?_)
    (try dsimp only)
    by_cases e2 : i = n
    · subst e2; simp [hw]
    · congr 1
      exact decide_eq_decide.mpr (by omega)
theorem s_jobsWithin_4 (S : FS h f J F room fi la c) {bf : Int32} {R : Nat → Bool} (hb : Mk bf R) : ∀ (e n : Nat) (b : Int32), n + e = J → Mk b (fun j => decide (j < n) && witB J fi la R j) → ∃ b', l_Flow_jobsWithin_4 f bf b (zI n) h (some (jm_i b'), h) ∧ Mk b' (witB J fi la R) := by
  have s1 := S.1
  have s2 := S.2.1
  have s6 := S.2.2.2.2.2.1
  intro e
  induction e with
  | zero =>
    intro n b en hM
    have en : n = J := by omega
    subst en
    refine ⟨b, wp_Flow_jobsWithin_4 ⟨fun _ => rfl, fun hc => ?_⟩, hM.cg (fun j _ => ?_)⟩
    · rw [s6, zI_le (by omega) (by omega) (by omega) (by omega)] at hc; omega
    · (try dsimp only)
      by_cases hj : j < n
      · simp [hj]
      · have : ¬ witB n fi la R j = true := fun x => hj (witB_iff.mp x).1
        simp [hj, this]
  | succ e ih =>
    intro n b en hM
    have hn : n < J := by omega
    have s8 := S.2.2.2.2.2.2.2.1 n hn
    obtain ⟨v, v1, v2⟩ := s_window S hn
    have hup := wit_up hn s1 hM
    have key : (v &&& (bf ^^^ (-1))) = 0 ↔ witB J fi la R n = true := by
      rw [witB_iff]
      constructor
      · intro hz
        refine ⟨hn, fun k k1 k2 => ?_⟩
        have := congrArg (fun y => tb y k) hz
        (try dsimp only at this)
        rw [tb_and, tb_xor, tb_m1 k (by omega), tb_0, v2 k (by omega), hb k (by omega), inW_iff.mpr ⟨k1, k2⟩] at this
        cases hr : R k with
        | true => rfl
        | false => rw [hr] at this; simp at this
      · rintro ⟨_, hall⟩
        refine tb_ext (fun k hk => ?_)
        rw [tb_and, tb_xor, tb_m1 k hk, tb_0, v2 k hk, hb k hk]
        cases hi : inW fi la n k with
        | false => rfl
        | true =>
          have := inW_iff.mp hi
          rw [hall k this.1 this.2]; rfl
    by_cases hw : witB J fi la R n = true
    · obtain ⟨b', r1, r2⟩ := ih (n + 1) _ (by omega) (hup.1 hw)
      refine ⟨b', wp_Flow_jobsWithin_4 ⟨fun hc => ?_, fun _ => ⟨v, h, v1, fun _ => ?_, fun hc => absurd (key.mpr hw) hc⟩⟩, r2⟩
      · rw [s6, zI_le (by omega) (by omega) (by omega) (by omega)] at hc; omega
      · rw [zl_1, zI_add]; exact r1
    · obtain ⟨b', r1, r2⟩ := ih (n + 1) b (by omega) (hup.2 hw)
      refine ⟨b', wp_Flow_jobsWithin_4 ⟨fun hc => ?_, fun _ => ⟨v, h, v1, fun hc => absurd (key.mp hc) hw, fun _ => ?_⟩⟩, r2⟩
      · rw [s6, zI_le (by omega) (by omega) (by omega) (by omega)] at hc; omega
      · rw [zl_1, zI_add]; exact r1
theorem s_jobsWithin (S : FS h f J F room fi la c) {bf : Int32} {R : Nat → Bool} (hb : Mk bf R) : ∃ b', m_Flow_jobsWithin f bf h b' h ∧ Mk b' (witB J fi la R) := by
  obtain ⟨b', r1, r2⟩ := s_jobsWithin_4 S hb J 0 0 (by omega) (Mk_0.cg (fun j _ => by simp))
  exact ⟨b', wp_Flow_jobsWithin r1, r2⟩
end CUT
/-! ===== the reference's cut ===== -/
section CUTM
variable {J F : Nat} {room : Int} {fi la c : Nat → Int}
theorem MS.fib {h : jm_H} (S : MS h J F room fi la c) : ∀ j, j < J → 0 ≤ fi j := fun j hj => (S.2.2.2.2.2.2.1 j hj).2.1
theorem MS.lab {h : jm_H} (S : MS h J F room fi la c) : ∀ j, j < J → la j < F := fun j hj => (S.2.2.2.2.2.2.2.1 j hj).2.2
theorem MS.cb {h : jm_H} (S : MS h J F room fi la c) : ∀ j, j < J → 0 ≤ c j := fun j hj => (S.2.2.2.2.2.2.2.2 j hj).2.1
theorem s_cutOf_8 {M0 : Nat → Int} (d0 : dp_ok J F fi la c room (-1) M0) (b0 : 0 ≤ M0 F ∧ M0 F ≤ 36000) : ∀ (e n : Nat) (b : Int32) (h : jm_H), n + e = F → MS h J F room fi la c → Mk b (fun k => decide (k < n) && cutB J F fi la c room k) → ∃ h' b', l_M_cutOf_8 (zI (M0 F)) b (zI n) h (some (jm_i b'), h') ∧ Mk b' (cutB J F fi la c room) ∧ Ch c48 h h' := by
  intro e
  induction e with
  | zero =>
    intro n b h en S hM
    have en : n = F := by omega
    subst en
    have s2 := S.2.1
    have s5 := S.2.2.2.2.1
    refine ⟨h, b, wp_M_cutOf_8 ⟨fun _ => rfl, fun hc => ?_⟩, hM.cg (fun k _ => ?_), Ch.rf h⟩
    · rw [s5, zI_le (by omega) (by omega) (by omega) (by omega)] at hc; omega
    · (try dsimp only)
      by_cases hk : k < n
      · simp [hk]
      · have : ¬ cutB J n fi la c room k = true := fun x => hk (cutB_iff.mp x).1
        simp [hk, this]
  | succ e ih =>
    intro n b h en S hM
    have s2 := S.2.1
    have s5 := S.2.2.2.2.1
    have hn : n < F := by omega
    obtain ⟨h1, M, q1, q2, q3, q4, q5⟩ := s_over S (w := n) (by omega)
    have key : M0 F ≤ M F ↔ ¬ cutB J F fi la c room n = true := by
      rw [cutB_iff]
      constructor
      · rintro hle ⟨_, hall⟩
        obtain ⟨S', _, a2, a3⟩ := dp_at S.fib S.cb q3 F (Nat.le_refl _)
        have := hall S' (fun S2 => by
          have := dp_le S.fib S.lab S.cb d0 S2 (fun k hk => by omega)
          omega)
        rw [a2 n rfl] at this
        cases this
      · intro hno
        have : ∃ S', isMax J F fi la c room S' ∧ ¬ S' n = true := Classical.byContradiction (fun hx => hno ⟨hn, fun S' hS' => Classical.byContradiction (fun hy => hx ⟨S', hS', hy⟩)⟩)
        obtain ⟨S', a1, a2⟩ := this
        obtain ⟨S0, _, _, a3⟩ := dp_at S.fib S.cb d0 F (Nat.le_refl _)
        have h1 := a1 S0
        have h2 := dp_le S.fib S.lab S.cb q3 S' (fun k hk => by
          have : k = n := by omega
          rw [this]; simpa using a2)
        omega
    by_cases hw : cutB J F fi la c room n = true
    · obtain ⟨h', b', r1, r2, r3⟩ := ih (n + 1) _ h1 (by omega) (S.ch q2) ((hM.or1 (n := n) (by omega)).cg (fun i _ => by
        (try dsimp only)
        by_cases e2 : i = n
        · subst e2; simp [hw]
        · rw [decide_eq_false e2, Bool.or_false]
          congr 1
          exact decide_eq_decide.mpr (by omega)))
      refine ⟨h', b', wp_M_cutOf_8 ⟨fun hc => ?_, fun _ => ⟨_, h1, q1, fun hc => ?_, fun _ => ?_⟩⟩, r2, q2.tr r3⟩
      · rw [s5, zI_le (by omega) (by omega) (by omega) (by omega)] at hc; omega
      · rw [zI_le (by omega) (by omega) (by omega) (by omega)] at hc; exact absurd hw (key.mp hc)
      · rw [zl_1, zI_add]; exact r1
    · obtain ⟨h', b', r1, r2, r3⟩ := ih (n + 1) _ h1 (by omega) (S.ch q2) (hM.or0.cg (fun i _ => by
        (try dsimp only)
        by_cases e2 : i = n
        · subst e2; simp [hw]
        · congr 1
          exact decide_eq_decide.mpr (by omega)))
      refine ⟨h', b', wp_M_cutOf_8 ⟨fun hc => ?_, fun _ => ⟨_, h1, q1, fun _ => ?_, fun hc => ?_⟩⟩, r2, q2.tr r3⟩
      · rw [s5, zI_le (by omega) (by omega) (by omega) (by omega)] at hc; omega
      · rw [zl_1, zI_add]; exact r1
      · rw [zI_le (by omega) (by omega) (by omega) (by omega)] at hc; exact absurd (key.mpr hw) hc
theorem s_cutOf {h : jm_H} (S : MS h J F room fi la c) : ∃ h' b, m_M_cutOf h b h' ∧ Mk b (cutB J F fi la c room) ∧ Ch c48 h h' := by
  obtain ⟨h1, M, q1, q2, q3, q4, q5⟩ := s_over S (w := -1) (by omega)
  obtain ⟨h', b', r1, r2, r3⟩ := s_cutOf_8 q3 ⟨q4, q5⟩ F 0 0 h1 (by omega) (S.ch q2) (Mk_0.cg (fun j _ => by simp))
  exact ⟨h', b', wp_M_cutOf ⟨_, h1, q1, r1⟩, r2, q2.tr r3⟩
theorem s_cutJobs_35 {h : jm_H} (S : MS h J F room fi la c) {bf : Int32} {R : Nat → Bool} (hb : Mk bf R) {j : Nat} (hj : j < J) {b : Int32} {r : jm_Rs} (r1 : witB J fi la R j = true → l_M_cutJobs_24 bf (b ||| (1 <<< (zI (j : Int) &&& 31))) (zI j + 1) h r) (r2 : ¬ witB J fi la R j = true → l_M_cutJobs_24 bf (b ||| 0) (zI j + 1) h r) : ∀ (e n : Nat) (x : Int), la j + 1 ≤ (n : Int) + e → n ≤ 200 → fi j ≤ n → (x = 0 ∨ x = 1) → (x = 1 ↔ ∀ k : Nat, fi j ≤ k → k < n → (k : Int) ≤ la j → R k = true) → l_M_cutJobs_35 bf b (zI j) (zI x) (zI n) h r := by
  have s1 := S.1
  have s2 := S.2.1
  have s8 := S.2.2.2.2.2.2.2.1 j hj
  have s7 := S.2.2.2.2.2.2.1 j hj
  have hi : jm_in (zI (j : Int)) 24 := zI_in (by omega) (by omega) (by omega)
  have ela : h.1 46 0 (zI (j : Int)).toNatClampNeg = zI (la j) := by rw [zI_cn (by omega)]; exact s8.1
  have fin : ∀ (n : Nat) (x : Int), n ≤ 200 → la j < n → (x = 0 ∨ x = 1) → (x = 1 ↔ ∀ k : Nat, fi j ≤ k → k < n → (k : Int) ≤ la j → R k = true) → l_M_cutJobs_35 bf b (zI j) (zI x) (zI n) h r := by
    intro n x n2 hlt x01 hx
    refine wp_M_cutJobs_35 ⟨hi, fun hc => ⟨fun hc2 => r2 ?_, fun hc2 => r1 ?_⟩, fun hc => ?_⟩
    · intro hw
      have := hx.mpr (fun k k1 k2 k3 => (witB_iff.mp hw).2 k k1 k3)
      rw [this] at hc2
      exact absurd hc2 (by decide)
    · rcases x01 with e0 | e0
      · rw [e0] at hc2; exact absurd rfl hc2
      · exact witB_iff.mpr ⟨hj, fun k k1 k2 => hx.mp e0 k k1 (by omega) k2⟩
    · rw [ela, zI_lt (by omega) (by omega) (by omega) (by omega)] at hc; omega
  intro e
  induction e with
  | zero =>
    intro n x en n2 hn0 x01 hx
    exact fin n x n2 (by omega) x01 hx
  | succ e ih =>
    intro n x en n2 hn0 x01 hx
    by_cases hlt : la j < n
    · exact fin n x n2 hlt x01 hx
    · refine wp_M_cutJobs_35 ⟨hi, fun hc => ?_, fun _ => ⟨fun hc => ?_, fun hc => ⟨fun hc2 => ?_, fun hc2 => ?_⟩⟩⟩
      · rw [ela, zI_lt (by omega) (by omega) (by omega) (by omega)] at hc; omega
      · have x0 : x = 0 := by
          rcases x01 with e0 | e0
          · exact e0
          · rw [e0] at hc; exact absurd hc (by decide)
        have := ih (n + 1) 0 (by omega) (by omega) (by omega) (Or.inl rfl) ⟨fun hc => by omega, fun hall => by
          have := hx.mpr (fun k k1 k2 k3 => hall k k1 (by omega) k3)
          omega⟩
        rw [zl_1, zI_add]; exact this
      · have x1 : x = 1 := by
          rcases x01 with e0 | e0
          · rw [e0] at hc; exact absurd rfl hc
          · exact e0
        rw [hb.test (by omega)] at hc2
        have := ih (n + 1) 1 (by omega) (by omega) (by omega) (Or.inr rfl) ⟨fun _ k k1 k2 k3 => by
          by_cases e2 : k = n
          · rw [e2]; exact hc2
          · exact hx.mp x1 k k1 (by omega) k3, fun _ => rfl⟩
        rw [zl_1, zI_add]; exact this
      · rw [hb.test (by omega)] at hc2
        by_cases hfn : fi j ≤ (n : Int)
        · have := ih (n + 1) 0 (by omega) (by omega) (by omega) (Or.inl rfl) ⟨fun hc => by omega, fun hall => absurd (hall n hfn (by omega) (by omega)) hc2⟩
          rw [zl_1, zI_add]; exact this
        · exfalso
          exact hfn hn0
theorem s_cutJobs_24 {h : jm_H} (S : MS h J F room fi la c) {bf : Int32} {R : Nat → Bool} (hb : Mk bf R) : ∀ (e n : Nat) (b : Int32), n + e = J → Mk b (fun j => decide (j < n) && witB J fi la R j) → ∃ b', l_M_cutJobs_24 bf b (zI n) h (some (jm_i b'), h) ∧ Mk b' (witB J fi la R) := by
  have s1 := S.1
  have s2 := S.2.1
  have s6 := S.2.2.2.2.2.1
  intro e
  induction e with
  | zero =>
    intro n b en hM
    have en : n = J := by omega
    subst en
    refine ⟨b, wp_M_cutJobs_24 ⟨fun _ => rfl, fun hc => ?_⟩, hM.cg (fun j _ => ?_)⟩
    · rw [s6, zI_le (by omega) (by omega) (by omega) (by omega)] at hc; omega
    · (try dsimp only)
      by_cases hj : j < n
      · simp [hj]
      · have : ¬ witB n fi la R j = true := fun x => hj (witB_iff.mp x).1
        simp [hj, this]
  | succ e ih =>
    intro n b en hM
    have hn : n < J := by omega
    have s7 := S.2.2.2.2.2.2.1 n hn
    have s8 := S.2.2.2.2.2.2.2.1 n hn
    have hup := wit_up hn s1 hM
    obtain ⟨a, ea⟩ : ∃ a : Nat, fi n = (a : Int) := ⟨(fi n).toNat, by omega⟩
    by_cases hw : witB J fi la R n = true
    · obtain ⟨b', r1, r2⟩ := ih (n + 1) _ (by omega) (hup.1 hw)
      refine ⟨b', wp_M_cutJobs_24 ⟨fun hc => ?_, fun _ => ⟨zI_in (by omega) (by omega) (by omega), ?_⟩⟩, r2⟩
      · rw [s6, zI_le (by omega) (by omega) (by omega) (by omega)] at hc; omega
      · rw [zI_cn (by omega), s7.1, ea]
        refine s_cutJobs_35 S hb hn (fun _ => ?_) (fun x => absurd hw x) (la n + 1).toNat a 1 (by omega) (by omega) (by omega) (Or.inr rfl) ⟨fun _ k k1 k2 => by omega, fun _ => rfl⟩
        rw [zl_1, zI_add]; exact r1
    · obtain ⟨b', r1, r2⟩ := ih (n + 1) _ (by omega) (hup.2 hw).or0
      refine ⟨b', wp_M_cutJobs_24 ⟨fun hc => ?_, fun _ => ⟨zI_in (by omega) (by omega) (by omega), ?_⟩⟩, r2⟩
      · rw [s6, zI_le (by omega) (by omega) (by omega) (by omega)] at hc; omega
      · rw [zI_cn (by omega), s7.1, ea]
        refine s_cutJobs_35 S hb hn (fun x => absurd x hw) (fun _ => ?_) (la n + 1).toNat a 1 (by omega) (by omega) (by omega) (Or.inr rfl) ⟨fun _ k k1 k2 => by omega, fun _ => rfl⟩
        rw [zl_1, zI_add]; exact r1
end CUTM
