/-! ===== runs by rules ===== -/
def jm_R (z : Nat) (as : List jm_V) (h : jm_H) (r : jm_Rs) : Prop := ∃ d, jm_Rn jm_ms d z as h r
def jm_E (cd : List jm_I) (x : jm_S) (r : jm_Rs) : Prop := ∃ n, jm_ex jm_R cd n x.1 x.2.1 x.2.2.1 x.2.2.2 r
theorem jm_ex_mono {C C' : Nat → List jm_V → jm_H → jm_Rs → Prop} (hC : ∀ z as h r, C z as h r → C' z as h r) {cd : List jm_I} : ∀ (n k : Nat) (ls : jm_L) (st : List jm_V) (h : jm_H) (r : jm_Rs), jm_ex C cd n k ls st h r → jm_ex C' cd n k ls st h r := by
  intro n
  induction n with
  | zero => intro k ls st h r q; exact q.elim
  | succ n ih =>
    intro k ls st h r q
    unfold jm_ex at q ⊢
    rcases q with ⟨ls', hle, q⟩ | q
    · exact Or.inl ⟨ls', hle, ih _ _ _ _ _ q⟩
    · refine Or.inr ?_
      split at q
      · exact q.elim
      · split at q
        · exact q.elim
        · exact ih _ _ _ _ _ q
      · exact q
      · obtain ⟨q1, q2, q3, x, q4, q5, q6⟩ := q
        exact ⟨q1, q2, q3, x, hC _ _ _ _ q4, q5, ih _ _ _ _ _ q6⟩
theorem jm_Rn_succ {ms : List jm_M} : ∀ (d z : Nat) (as : List jm_V) (h : jm_H) (r : jm_Rs), jm_Rn ms d z as h r → jm_Rn ms (d + 1) z as h r := by
  intro d
  induction d with
  | zero => intro z as h r q; exact q.elim
  | succ d ih =>
    intro z as h r q
    obtain ⟨M, n, h1, h2, h3⟩ := q
    exact ⟨M, n, h1, h2, jm_ex_mono ih _ _ _ _ _ _ h3⟩
theorem jm_Rn_le {ms : List jm_M} {d d' z : Nat} {as : List jm_V} {h : jm_H} {r : jm_Rs} (hd : d ≤ d') (q : jm_Rn ms d z as h r) : jm_Rn ms d' z as h r := by
  induction hd with
  | refl => exact q
  | step _ ih => exact jm_Rn_succ _ _ _ _ _ ih
theorem jm_ex_depth {cd : List jm_I} : ∀ (n k : Nat) (ls : jm_L) (st : List jm_V) (h : jm_H) (r : jm_Rs), jm_ex jm_R cd n k ls st h r → ∃ d, jm_ex (jm_Rn jm_ms d) cd n k ls st h r := by
  intro n
  induction n with
  | zero => intro k ls st h r q; exact q.elim
  | succ n ih =>
    intro k ls st h r q
    unfold jm_ex at q
    rcases q with ⟨ls', hle, q⟩ | q
    · obtain ⟨d, hd⟩ := ih _ _ _ _ _ q
      exact ⟨d, by unfold jm_ex; exact Or.inl ⟨ls', hle, hd⟩⟩
    · split at q
      · exact q.elim
      · rename_i f hf
        split at q
        · exact q.elim
        · rename_i x hx
          obtain ⟨d, hd⟩ := ih _ _ _ _ _ q
          refine ⟨d, ?_⟩
          unfold jm_ex
          rw [hf]
          dsimp only
          rw [hx]
          exact Or.inr hd
      · rename_i f hf
        refine ⟨0, ?_⟩
        unfold jm_ex
        rw [hf]
        exact Or.inr q
      · rename_i c hf
        obtain ⟨q1, q2, q3, x, ⟨d1, q4⟩, q5, q6⟩ := q
        obtain ⟨d2, hd⟩ := ih _ _ _ _ _ q6
        refine ⟨max d1 d2, ?_⟩
        unfold jm_ex
        rw [hf]
        exact Or.inr ⟨q1, q2, q3, x, jm_Rn_le (Nat.le_max_left _ _) q4, q5, jm_ex_mono (fun z as h r w => jm_Rn_le (Nat.le_max_right _ _) w) _ _ _ _ _ _ hd⟩
section JME
variable {cd : List jm_I} {k : Nat} {ls : jm_L} {st : List jm_V} {h : jm_H} {r : jm_Rs}
theorem jm_R_of {z : Nat} {M : jm_M} {as : List jm_V} (hz : jm_ms[z]? = some M) (hl : (jm_enl as).length ≤ jm_mx M) (hE : jm_E (jm_cd M) (0, jm_ent (jm_mx M) as, [], h) r) : jm_R z as h r := by
  obtain ⟨n, hn⟩ := hE
  obtain ⟨d, hd⟩ := jm_ex_depth _ _ _ _ _ _ hn
  exact ⟨d + 1, M, n, hz, hl, hd⟩
def jm_nx (cd : List jm_I) : Nat → jm_S → Option jm_S
  | 0, x => some x
  | n + 1, x => match cd[x.1]? with
    | some (.inl f) => match f (x.1 + 1) x.2.1 x.2.2.1 x.2.2.2 with
      | some x' => jm_nx cd n x'
      | none => none
    | _ => none
theorem jm_E_1 {f : jm_F} {x x' : jm_S} (hcd : cd[x.1]? = some (.inl f)) (hf : f (x.1 + 1) x.2.1 x.2.2.1 x.2.2.2 = some x') (hE : jm_E cd x' r) : jm_E cd x r := by
  obtain ⟨n, hn⟩ := hE
  refine ⟨n + 1, ?_⟩
  unfold jm_ex
  rw [hcd]
  dsimp only
  rw [hf]
  exact Or.inr hn
theorem jm_E_n (n : Nat) {x x' : jm_S} (hx : jm_nx cd n x = some x') (hE : jm_E cd x' r) : jm_E cd x r := by
  induction n generalizing x with
  | zero => cases hx; exact hE
  | succ n ih =>
    unfold jm_nx at hx
    split at hx
    · rename_i f hf
      split at hx
      · rename_i x1 hx1
        exact jm_E_1 hf hx1 (ih hx)
      · cases hx
    · cases hx
theorem jm_E_eq {x0 x : jm_S} (e : x0 = x) (hE : jm_E cd x r) : jm_E cd x0 r := e ▸ hE
theorem jm_E_ite {c : Prop} [Decidable c] {a b : Nat} (ht : c → jm_E cd (a, ls, st, h) r) (hf : ¬ c → jm_E cd (b, ls, st, h) r) : jm_E cd (if c then a else b, ls, st, h) r := by
  by_cases hc : c
  · rw [if_pos hc]; exact ht hc
  · rw [if_neg hc]; exact hf hc
theorem jm_E_weak {ls' : jm_L} (hle : jm_le ls' ls) (hE : jm_E cd (k, ls', st, h) r) : jm_E cd (k, ls, st, h) r := by
  obtain ⟨n, hn⟩ := hE
  exact ⟨n + 1, by unfold jm_ex; exact Or.inl ⟨ls', hle, hn⟩⟩
theorem jm_le_nil : jm_le [] [] := trivial
theorem jm_le_n {w : Option jm_V} {a b : jm_L} (hl : jm_le a b) : jm_le (none :: a) (w :: b) := by cases w <;> exact hl
theorem jm_le_s {v : jm_V} {a b : jm_L} (hl : jm_le a b) : jm_le (some v :: a) (some v :: b) := ⟨rfl, hl⟩
theorem jm_E_ret {f : List jm_V → jm_H → Option jm_Rs} (hcd : cd[k]? = some (.inr (.inl f))) (hf : f st h = some r) : jm_E cd (k, ls, st, h) r := by
  refine ⟨1, ?_⟩
  unfold jm_ex
  dsimp only
  rw [hcd]
  exact Or.inr hf
theorem jm_E_call {z n rk : Nat} {q : jm_Rs} (hcd : cd[k]? = some (.inr (.inr (z, n, rk)))) (hn : n ≤ st.length) (hc : ((st.drop n).map jm_ct).sum ≤ 8) (hrc : jm_rcv rk (st.take n).reverse) (hR : jm_R z (st.take n).reverse h q) (hok : jm_okO q.1) (hE : jm_E cd (k + 1, ls, q.1.toList ++ st.drop n, q.2) r) : jm_E cd (k, ls, st, h) r := by
  obtain ⟨m, hm⟩ := hE
  refine ⟨m + 1, ?_⟩
  unfold jm_ex
  dsimp only
  rw [hcd]
  exact Or.inr ⟨hn, hc, hrc, q, hR, hok, hm⟩
theorem jm_E_iald {K i : Nat} {j : Int32} (hcd : cd[k]? = some (.inl jm_iald)) (h0 : (jm_el K).1 = 0) (hin : jm_in j (jm_ln K)) (hE : jm_E cd (k + 1, ls, .inl (.int (h.1 K i j.toNatClampNeg)) :: st, h) r) : jm_E cd (k, ls, .inl (.int j) :: .inr (K, i) :: st, h) r := jm_E_1 hcd (if_pos ⟨h0, hin⟩) hE
theorem jm_E_bald {K i : Nat} {j : Int32} (hcd : cd[k]? = some (.inl jm_bald)) (h0 : (jm_el K).1 = 1) (hin : jm_in j (jm_ln K)) (hE : jm_E cd (k + 1, ls, .inl (.int (h.1 K i j.toNatClampNeg)) :: st, h) r) : jm_E cd (k, ls, .inl (.int j) :: .inr (K, i) :: st, h) r := jm_E_1 hcd (if_pos ⟨h0, hin⟩) hE
theorem jm_E_lald {K i : Nat} {j : Int32} (hcd : cd[k]? = some (.inl jm_lald)) (h0 : (jm_el K).1 = 2) (hin : jm_in j (jm_ln K)) (hE : jm_E cd (k + 1, ls, .inl (.long h.2.2) :: st, h) r) : jm_E cd (k, ls, .inl (.int j) :: .inr (K, i) :: st, h) r := jm_E_1 hcd (if_pos ⟨h0, hin⟩) hE
theorem jm_E_aald {K i : Nat} {j : Int32} (hcd : cd[k]? = some (.inl jm_aald)) (h0 : (jm_el K).1 = 3) (hin : jm_in j (jm_ln K)) (hE : jm_E cd (k + 1, ls, .inr ((jm_el K).2.1, (jm_el K).2.2 * i + j.toNatClampNeg) :: st, h) r) : jm_E cd (k, ls, .inl (.int j) :: .inr (K, i) :: st, h) r := jm_E_1 hcd (if_pos ⟨h0, hin⟩) hE
theorem jm_E_iast {K i : Nat} {j x : Int32} (hcd : cd[k]? = some (.inl jm_iast)) (h0 : (jm_el K).1 = 0) (hin : jm_in j (jm_ln K)) (hE : jm_E cd (k + 1, ls, st, jm_sI h K i j.toNatClampNeg x) r) : jm_E cd (k, ls, .inl (.int x) :: .inl (.int j) :: .inr (K, i) :: st, h) r := jm_E_1 hcd (if_pos ⟨h0, hin⟩) hE
theorem jm_E_bast {K i : Nat} {j x : Int32} (hcd : cd[k]? = some (.inl jm_bast)) (h0 : (jm_el K).1 = 1) (hin : jm_in j (jm_ln K)) (hE : jm_E cd (k + 1, ls, st, jm_sI h K i j.toNatClampNeg x.toInt8.toInt32) r) : jm_E cd (k, ls, .inl (.int x) :: .inl (.int j) :: .inr (K, i) :: st, h) r := jm_E_1 hcd (if_pos ⟨h0, hin⟩) hE
theorem jm_E_pZ {K i j : Nat} {x : Int32} (hcd : cd[k]? = some (.inl (jm_pZ K j))) (hv : x = 0 ∨ x = 1) (hE : jm_E cd (k + 1, ls, st, jm_sI h K i j x) r) : jm_E cd (k, ls, .inl (.int x) :: .inr (K, i) :: st, h) r := jm_E_1 hcd (if_pos ⟨rfl, hv⟩) hE
theorem jm_E_idiv {a b : Int32} (hcd : cd[k]? = some (.inl jm_idiv)) (hb : ¬ b = 0) (hE : jm_E cd (k + 1, ls, .inl (.int (a / b)) :: st, h) r) : jm_E cd (k, ls, .inl (.int b) :: .inl (.int a) :: st, h) r := jm_E_1 hcd (if_neg hb) hE
theorem jm_E_irem {a b : Int32} (hcd : cd[k]? = some (.inl jm_irem)) (hb : ¬ b = 0) (hE : jm_E cd (k + 1, ls, .inl (.int (a - a / b * b)) :: st, h) r) : jm_E cd (k, ls, .inl (.int b) :: .inl (.int a) :: st, h) r := jm_E_1 hcd (if_neg hb) hE
theorem jm_E_dbin {f : UInt64 → UInt64 → UInt64} {a b : UInt64} (hcd : cd[k]? = some (.inl (jm_dbin f))) (hv : f a b &&& 0x7fffffffffffffff ≤ 0x7ff0000000000000) (hE : jm_E cd (k + 1, ls, .inl (.double (f a b)) :: st, h) r) : jm_E cd (k, ls, .inl (.double b) :: .inl (.double a) :: st, h) r := jm_E_1 hcd (if_pos hv) hE
theorem jm_E_d2f {a : UInt64} (hcd : cd[k]? = some (.inl jm_d2f)) (hv : FP.d2f a &&& 0x7fffffff ≤ 0x7f800000) (hE : jm_E cd (k + 1, ls, .inl (.float (FP.d2f a)) :: st, h) r) : jm_E cd (k, ls, .inl (.double a) :: st, h) r := jm_E_1 hcd (if_pos hv) hE
theorem jm_E_f2d {a : UInt32} (hcd : cd[k]? = some (.inl jm_f2d)) (hv : FP.f2d a &&& 0x7fffffffffffffff ≤ 0x7ff0000000000000) (hE : jm_E cd (k + 1, ls, .inl (.double (FP.f2d a)) :: st, h) r) : jm_E cd (k, ls, .inl (.float a) :: st, h) r := jm_E_1 hcd (if_pos hv) hE
theorem jm_E_schr {i : Nat} {j : Int32} (hcd : cd[k]? = some (.inl jm_schr)) (hin : jm_in j (jm_strl i)) (hs : (st.map jm_ct).sum ≤ 8) (hE : jm_E cd (k + 1, ls, .inl (.int ((jm_str i).getD j.toNatClampNeg 0).toInt32) :: st, h) r) : jm_E cd (k, ls, .inl (.int j) :: .inr (60, i) :: st, h) r := jm_E_1 hcd (if_pos ⟨rfl, hin, hs⟩) hE
theorem jm_E_tsw3 {a : Int32} {d t0 t1 t2 : Nat} (hD : a.toInt < 0 ∨ 3 ≤ a.toInt → jm_E cd (d, ls, st, h) r) (h0 : a = 0 → jm_E cd (t0, ls, st, h) r) (h1 : a = 1 → jm_E cd (t1, ls, st, h) r) (h2 : a = 2 → jm_E cd (t2, ls, st, h) r) : jm_E cd (if a.toInt < 0 ∨ 0 + (3 : Nat) ≤ a.toInt then d else ([t0, t1, t2] : List Nat).getD (a.toInt - 0).toNat 0, ls, st, h) r := by
  by_cases hc : a.toInt < 0 ∨ 0 + (3 : Nat) ≤ a.toInt
  · rw [if_pos hc]
    exact hD (by omega)
  · rw [if_neg hc]
    rcases (show a.toInt = 0 ∨ a.toInt = 1 ∨ a.toInt = 2 by omega) with e | e | e
    · have ea : a = 0 := Int32.toInt_inj.mp (e.trans (by decide))
      rw [e]
      exact h0 ea
    · have ea : a = 1 := Int32.toInt_inj.mp (e.trans (by decide))
      rw [e]
      exact h1 ea
    · have ea : a = 2 := Int32.toInt_inj.mp (e.trans (by decide))
      rw [e]
      exact h2 ea
theorem jm_E_tsw5 {a : Int32} {d t0 t1 t2 t3 t4 : Nat} (hD : a.toInt < 0 ∨ 5 ≤ a.toInt → jm_E cd (d, ls, st, h) r) (h0 : a = 0 → jm_E cd (t0, ls, st, h) r) (h1 : a = 1 → jm_E cd (t1, ls, st, h) r) (h2 : a = 2 → jm_E cd (t2, ls, st, h) r) (h3 : a = 3 → jm_E cd (t3, ls, st, h) r) (h4 : a = 4 → jm_E cd (t4, ls, st, h) r) : jm_E cd (if a.toInt < 0 ∨ 0 + (5 : Nat) ≤ a.toInt then d else ([t0, t1, t2, t3, t4] : List Nat).getD (a.toInt - 0).toNat 0, ls, st, h) r := by
  by_cases hc : a.toInt < 0 ∨ 0 + (5 : Nat) ≤ a.toInt
  · rw [if_pos hc]
    exact hD (by omega)
  · rw [if_neg hc]
    rcases (show a.toInt = 0 ∨ a.toInt = 1 ∨ a.toInt = 2 ∨ a.toInt = 3 ∨ a.toInt = 4 by omega) with e | e | e | e | e
    · have ea : a = 0 := Int32.toInt_inj.mp (e.trans (by decide))
      rw [e]
      exact h0 ea
    · have ea : a = 1 := Int32.toInt_inj.mp (e.trans (by decide))
      rw [e]
      exact h1 ea
    · have ea : a = 2 := Int32.toInt_inj.mp (e.trans (by decide))
      rw [e]
      exact h2 ea
    · have ea : a = 3 := Int32.toInt_inj.mp (e.trans (by decide))
      rw [e]
      exact h3 ea
    · have ea : a = 4 := Int32.toInt_inj.mp (e.trans (by decide))
      rw [e]
      exact h4 ea
theorem jm_E_tsw6 {a : Int32} {d t0 t1 t2 t3 t4 t5 : Nat} (hD : a.toInt < 0 ∨ 6 ≤ a.toInt → jm_E cd (d, ls, st, h) r) (h0 : a = 0 → jm_E cd (t0, ls, st, h) r) (h1 : a = 1 → jm_E cd (t1, ls, st, h) r) (h2 : a = 2 → jm_E cd (t2, ls, st, h) r) (h3 : a = 3 → jm_E cd (t3, ls, st, h) r) (h4 : a = 4 → jm_E cd (t4, ls, st, h) r) (h5 : a = 5 → jm_E cd (t5, ls, st, h) r) : jm_E cd (if a.toInt < 0 ∨ 0 + (6 : Nat) ≤ a.toInt then d else ([t0, t1, t2, t3, t4, t5] : List Nat).getD (a.toInt - 0).toNat 0, ls, st, h) r := by
  by_cases hc : a.toInt < 0 ∨ 0 + (6 : Nat) ≤ a.toInt
  · rw [if_pos hc]
    exact hD (by omega)
  · rw [if_neg hc]
    rcases (show a.toInt = 0 ∨ a.toInt = 1 ∨ a.toInt = 2 ∨ a.toInt = 3 ∨ a.toInt = 4 ∨ a.toInt = 5 by omega) with e | e | e | e | e | e
    · have ea : a = 0 := Int32.toInt_inj.mp (e.trans (by decide))
      rw [e]
      exact h0 ea
    · have ea : a = 1 := Int32.toInt_inj.mp (e.trans (by decide))
      rw [e]
      exact h1 ea
    · have ea : a = 2 := Int32.toInt_inj.mp (e.trans (by decide))
      rw [e]
      exact h2 ea
    · have ea : a = 3 := Int32.toInt_inj.mp (e.trans (by decide))
      rw [e]
      exact h3 ea
    · have ea : a = 4 := Int32.toInt_inj.mp (e.trans (by decide))
      rw [e]
      exact h4 ea
    · have ea : a = 5 := Int32.toInt_inj.mp (e.trans (by decide))
      rw [e]
      exact h5 ea
theorem jm_E_tsw7 {a : Int32} {d t0 t1 t2 t3 t4 t5 t6 : Nat} (hD : a.toInt < 0 ∨ 7 ≤ a.toInt → jm_E cd (d, ls, st, h) r) (h0 : a = 0 → jm_E cd (t0, ls, st, h) r) (h1 : a = 1 → jm_E cd (t1, ls, st, h) r) (h2 : a = 2 → jm_E cd (t2, ls, st, h) r) (h3 : a = 3 → jm_E cd (t3, ls, st, h) r) (h4 : a = 4 → jm_E cd (t4, ls, st, h) r) (h5 : a = 5 → jm_E cd (t5, ls, st, h) r) (h6 : a = 6 → jm_E cd (t6, ls, st, h) r) : jm_E cd (if a.toInt < 0 ∨ 0 + (7 : Nat) ≤ a.toInt then d else ([t0, t1, t2, t3, t4, t5, t6] : List Nat).getD (a.toInt - 0).toNat 0, ls, st, h) r := by
  by_cases hc : a.toInt < 0 ∨ 0 + (7 : Nat) ≤ a.toInt
  · rw [if_pos hc]
    exact hD (by omega)
  · rw [if_neg hc]
    rcases (show a.toInt = 0 ∨ a.toInt = 1 ∨ a.toInt = 2 ∨ a.toInt = 3 ∨ a.toInt = 4 ∨ a.toInt = 5 ∨ a.toInt = 6 by omega) with e | e | e | e | e | e | e
    · have ea : a = 0 := Int32.toInt_inj.mp (e.trans (by decide))
      rw [e]
      exact h0 ea
    · have ea : a = 1 := Int32.toInt_inj.mp (e.trans (by decide))
      rw [e]
      exact h1 ea
    · have ea : a = 2 := Int32.toInt_inj.mp (e.trans (by decide))
      rw [e]
      exact h2 ea
    · have ea : a = 3 := Int32.toInt_inj.mp (e.trans (by decide))
      rw [e]
      exact h3 ea
    · have ea : a = 4 := Int32.toInt_inj.mp (e.trans (by decide))
      rw [e]
      exact h4 ea
    · have ea : a = 5 := Int32.toInt_inj.mp (e.trans (by decide))
      rw [e]
      exact h5 ea
    · have ea : a = 6 := Int32.toInt_inj.mp (e.trans (by decide))
      rw [e]
      exact h6 ea
theorem jm_E_tsw9 {a : Int32} {d t0 t1 t2 t3 t4 t5 t6 t7 t8 : Nat} (hD : a.toInt < 0 ∨ 9 ≤ a.toInt → jm_E cd (d, ls, st, h) r) (h0 : a = 0 → jm_E cd (t0, ls, st, h) r) (h1 : a = 1 → jm_E cd (t1, ls, st, h) r) (h2 : a = 2 → jm_E cd (t2, ls, st, h) r) (h3 : a = 3 → jm_E cd (t3, ls, st, h) r) (h4 : a = 4 → jm_E cd (t4, ls, st, h) r) (h5 : a = 5 → jm_E cd (t5, ls, st, h) r) (h6 : a = 6 → jm_E cd (t6, ls, st, h) r) (h7 : a = 7 → jm_E cd (t7, ls, st, h) r) (h8 : a = 8 → jm_E cd (t8, ls, st, h) r) : jm_E cd (if a.toInt < 0 ∨ 0 + (9 : Nat) ≤ a.toInt then d else ([t0, t1, t2, t3, t4, t5, t6, t7, t8] : List Nat).getD (a.toInt - 0).toNat 0, ls, st, h) r := by
  by_cases hc : a.toInt < 0 ∨ 0 + (9 : Nat) ≤ a.toInt
  · rw [if_pos hc]
    exact hD (by omega)
  · rw [if_neg hc]
    rcases (show a.toInt = 0 ∨ a.toInt = 1 ∨ a.toInt = 2 ∨ a.toInt = 3 ∨ a.toInt = 4 ∨ a.toInt = 5 ∨ a.toInt = 6 ∨ a.toInt = 7 ∨ a.toInt = 8 by omega) with e | e | e | e | e | e | e | e | e
    · have ea : a = 0 := Int32.toInt_inj.mp (e.trans (by decide))
      rw [e]
      exact h0 ea
    · have ea : a = 1 := Int32.toInt_inj.mp (e.trans (by decide))
      rw [e]
      exact h1 ea
    · have ea : a = 2 := Int32.toInt_inj.mp (e.trans (by decide))
      rw [e]
      exact h2 ea
    · have ea : a = 3 := Int32.toInt_inj.mp (e.trans (by decide))
      rw [e]
      exact h3 ea
    · have ea : a = 4 := Int32.toInt_inj.mp (e.trans (by decide))
      rw [e]
      exact h4 ea
    · have ea : a = 5 := Int32.toInt_inj.mp (e.trans (by decide))
      rw [e]
      exact h5 ea
    · have ea : a = 6 := Int32.toInt_inj.mp (e.trans (by decide))
      rw [e]
      exact h6 ea
    · have ea : a = 7 := Int32.toInt_inj.mp (e.trans (by decide))
      rw [e]
      exact h7 ea
    · have ea : a = 8 := Int32.toInt_inj.mp (e.trans (by decide))
      rw [e]
      exact h8 ea
theorem jm_E_lsw2 {a : Int32} {d t0 t1 : Nat} (hD : ¬ a = 0 ∧ ¬ a = 1 → jm_E cd (d, ls, st, h) r) (h0 : a = 0 → jm_E cd (t0, ls, st, h) r) (h1 : a = 1 → jm_E cd (t1, ls, st, h) r) : jm_E cd (jm_lsf a.toInt d [(0, t0), (1, t1)], ls, st, h) r := by
  unfold jm_lsf
  by_cases e0 : a = 0
  · subst e0
    exact h0 rfl
  rw [if_neg (fun q => e0 (Int32.toInt_inj.mp (q.symm.trans (show (0 : Int) = Int32.toInt 0 by decide))))]
  unfold jm_lsf
  by_cases e1 : a = 1
  · subst e1
    exact h1 rfl
  rw [if_neg (fun q => e1 (Int32.toInt_inj.mp (q.symm.trans (show (1 : Int) = Int32.toInt 1 by decide))))]
  unfold jm_lsf
  exact hD ⟨e0, e1⟩
end JME
