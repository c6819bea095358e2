/-! ===== THE LAW's body in the small machine ===== -/
def jm_xlen (L : Nat) : jm_F := fun k ls st h => match st with
  | .inr q :: r => if q.1 = 62 then some (k, ls, .inl (.int L.toInt32) :: r, h) else none
  | _ => none
def jm_xld (L : Nat) (xs : Nat → Int32) : jm_F := fun k ls st h => match st with
  | .inl (.int j) :: .inr q :: r => if q.1 = 62 ∧ jm_in j L then some (k, ls, .inl (.int (xs j.toNatClampNeg)) :: r, h) else none
  | _ => none
/-- the script -/
def jm_Xs (L : Nat) (xs : Nat → Int32) (G : jm_G) (s : State) : Prop := va_X (G.1 62 0) L xs s s.heap ∧ G.1 62 0 < jm_bs G ∧ jm_bs G ≤ s.heap.size
def jm_SNx (L : Nat) (xs : Nat → Int32) (y : jm_M) (k : Nat) (f : jm_F) : Prop :=
  ∀ (G : jm_G) (p : Program) (l : Launch) (e : Env) (R : Room) (s : State) (m : MethodId) (args : Array Value) (below : List Frame) (meth : Method) (c : Code) (cells slots : Nat) (Q : State → Prop), jm_Cx G y p R s m args c cells slots → jm_Xs L xs G s →
    ∀ (ls : jm_L) (st : List jm_V) (h : jm_H) (k' : Nat) (ls' : jm_L) (st' : List jm_V) (h' : jm_H), f (k + 1) ls st h = some (k', ls', st', h') → jm_W G y p l e R s m args below meth c cells slots Q k' ls' st' h' → jm_W G y p l e R s m args below meth c cells slots Q k ls st h
theorem jm_SN.x {L : Nat} {xs : Nat → Int32} {y : jm_M} {k : Nat} {f : jm_F} (h : jm_SN y k f) : jm_SNx L xs y k f := fun G p l e R s m args below meth c cells slots Q C _ => h G p l e R s m args below meth c cells slots Q C
def jm_Sndx (L : Nat) (xs : Nat → Int32) (ms : List jm_M) (M : jm_M) (k : Nat) (i : jm_I) : Prop := match i with
  | .inl f => jm_SNx L xs M k f
  | .inr (.inl _) => True
  | .inr (.inr c) => ∀ M', ms[c.1]? = some M' → jm_SC (M'.1, M'.2.1) M k c.2.1 c.2.2
theorem jm_sx_call {L : Nat} {xs : Nat → Int32} {ms : List jm_M} {M : jm_M} {k : Nat} {c : Nat × Nat × Nat} (h : jm_Snd ms M k (.inr (.inr c))) : jm_Sndx L xs ms M k (.inr (.inr c)) := h
theorem jm_n_xld {L : Nat} {xs : Nat → Int32} {y : jm_M} {k : Nat} (hd : decode (jm_by y) (jm_pc y k) = .ok (.iaload, 1)) (hp : jm_pc y (k + 1) = jm_pc y k + 1) : jm_SNx L xs y k (jm_xld L xs) := by
  intro G p l e R s m args below meth c cells slots Q C X ls st h k' ls' st' h' hf hW
  obtain ⟨hx, hb, hml, hown, hts, hE, hAm, hfr, hlo, hce, hsl, hZ⟩ := C
  obtain ⟨hX, hbl, hbs⟩ := X
  unfold jm_xld at hf
  split at hf
  · rename_i j q r
    obtain ⟨K, i⟩ := q
    split at hf
    · rename_i e1
      obtain ⟨e1, e2⟩ := e1
      dsimp only at e1
      subst e1
      cases hf
      intro ok okL H locs A hR hS hL
      have hi0 : i = 0 := by
        have : i < 1 := ok.2.1
        omega
      subst hi0
      refine va_sld hx hb hX (by omega) (by show ¬ jm_bs G ≤ _; omega) hS (jm_in_vp e2) hd ?_
      have := hW ⟨trivial, ok.2.2⟩ okL H locs A hR hS hL
      rw [hp] at this
      exact this
    · cases hf
  · cases hf
theorem jm_n_xlen {L : Nat} {xs : Nat → Int32} {y : jm_M} {k : Nat} (hd : decode (jm_by y) (jm_pc y k) = .ok (.arraylength, 1)) (hp : jm_pc y (k + 1) = jm_pc y k + 1) : jm_SNx L xs y k (jm_xlen L) := by
  intro G p l e R s m args below meth c cells slots Q C X ls st h k' ls' st' h' hf hW
  obtain ⟨hx, hb, hml, hown, hts, hE, hAm, hfr, hlo, hce, hsl, hZ⟩ := C
  obtain ⟨hX, hbl, hbs⟩ := X
  unfold jm_xlen at hf
  split at hf
  · rename_i q r
    obtain ⟨K, i⟩ := q
    split at hf
    · rename_i e1
      dsimp only at e1
      subst e1
      cases hf
      intro ok okL H locs A hR hS hL
      have hi0 : i = 0 := by
        have : i < 1 := ok.1
        omega
      subst hi0
      refine va_slen (b := G.1 62 0) (L := L) (xs := xs) hx hb hX (by omega) (by show ¬ jm_bs G ≤ _; omega) hS hd ?_
      have := hW ⟨trivial, ok.2⟩ okL H locs A hR hS hL
      rw [hp] at this
      exact this
    · cases hf
  · cases hf
/-- a part of a run -/
def jm_pr (C : Nat → List jm_V → jm_H → jm_Rs → Prop) (cd : List jm_I) : Nat → jm_S → jm_S → Prop
  | 0, x, x' => x = x'
  | n + 1, x, x' => (∃ ls' : jm_L, jm_le ls' x.2.1 ∧ jm_pr C cd n (x.1, ls', x.2.2) x') ∨ match cd[x.1]? with
    | none => False
    | some (.inl f) => match f (x.1 + 1) x.2.1 x.2.2.1 x.2.2.2 with
      | none => False
      | some x1 => jm_pr C cd n x1 x'
    | some (.inr (.inl _)) => False
    | some (.inr (.inr c)) => c.2.1 ≤ x.2.2.1.length ∧ ((x.2.2.1.drop c.2.1).map jm_ct).sum ≤ 8 ∧ jm_rcv c.2.2 (x.2.2.1.take c.2.1).reverse ∧ ∃ q : jm_Rs, C c.1 (x.2.2.1.take c.2.1).reverse x.2.2.2 q ∧ jm_okO q.1 ∧ jm_pr C cd n (x.1 + 1, x.2.1, q.1.toList ++ x.2.2.1.drop c.2.1, q.2) x'
def jm_P (cd : List jm_I) (x x' : jm_S) : Prop := ∃ n, jm_pr jm_R cd n x x'
section JMP
variable {cd : List jm_I} {k : Nat} {ls : jm_L} {st : List jm_V} {h : jm_H} {x' : jm_S}
theorem jm_P_refl {x : jm_S} (e : x' = x) : jm_P cd x x' := ⟨0, e.symm⟩
theorem jm_P_1 {f : jm_F} {x x1 : jm_S} (hcd : cd[x.1]? = some (.inl f)) (hf : f (x.1 + 1) x.2.1 x.2.2.1 x.2.2.2 = some x1) (hE : jm_P cd x1 x') : jm_P cd x x' := by
  obtain ⟨n, hn⟩ := hE
  refine ⟨n + 1, ?_⟩
  unfold jm_pr
  rw [hcd]
  dsimp only
  rw [hf]
  exact Or.inr hn
theorem jm_P_n (n : Nat) {x x1 : jm_S} (hx : jm_nx cd n x = some x1) (hE : jm_P cd x1 x') : jm_P cd x x' := by
  induction n generalizing x with
  | zero => cases hx; exact hE
  | succ n ih =>
    unfold jm_nx at hx
    split at hx
    · rename_i f hf
      split at hx
      · rename_i x2 hx2
        exact jm_P_1 hf hx2 (ih hx)
      · cases hx
    · cases hx
theorem jm_P_eq {x0 x : jm_S} (e : x0 = x) (hE : jm_P cd x x') : jm_P cd x0 x' := e ▸ hE
theorem jm_P_ite {c : Prop} [Decidable c] {a b : Nat} (ht : c → jm_P cd (a, ls, st, h) x') (hf : ¬ c → jm_P cd (b, ls, st, h) x') : jm_P cd (if c then a else b, ls, st, h) x' := by
  by_cases hc : c
  · rw [if_pos hc]; exact ht hc
  · rw [if_neg hc]; exact hf hc
theorem jm_P_weak {ls' : jm_L} (hle : jm_le ls' ls) (hE : jm_P cd (k, ls', st, h) x') : jm_P cd (k, ls, st, h) x' := by
  obtain ⟨n, hn⟩ := hE
  exact ⟨n + 1, by unfold jm_pr; exact Or.inl ⟨ls', hle, hn⟩⟩
theorem jm_P_call {z n rk : Nat} {q : jm_Rs} (hcd : cd[k]? = some (.inr (.inr (z, n, rk)))) (hn : n ≤ st.length) (hc : ((st.drop n).map jm_ct).sum ≤ 8) (hrc : jm_rcv rk (st.take n).reverse) (hR : jm_R z (st.take n).reverse h q) (hok : jm_okO q.1) (hE : jm_P cd (k + 1, ls, q.1.toList ++ st.drop n, q.2) x') : jm_P cd (k, ls, st, h) x' := by
  obtain ⟨m, hm⟩ := hE
  refine ⟨m + 1, ?_⟩
  unfold jm_pr
  dsimp only
  rw [hcd]
  exact Or.inr ⟨hn, hc, hrc, q, hR, hok, hm⟩
theorem jm_P_xld {L : Nat} {xs : Nat → Int32} {i : Nat} {j : Int32} (hcd : cd[k]? = some (.inl (jm_xld L xs))) (hin : jm_in j L) (hE : jm_P cd (k + 1, ls, .inl (.int (xs j.toNatClampNeg)) :: st, h) x') : jm_P cd (k, ls, .inl (.int j) :: .inr (62, i) :: st, h) x' := jm_P_1 hcd (if_pos ⟨rfl, hin⟩) hE
theorem jm_P_lald {K i : Nat} {j : Int32} (hcd : cd[k]? = some (.inl jm_lald)) (h0 : (jm_el K).1 = 2) (hin : jm_in j (jm_ln K)) (hE : jm_P cd (k + 1, ls, .inl (.long h.2.2) :: st, h) x') : jm_P cd (k, ls, .inl (.int j) :: .inr (K, i) :: st, h) x' := jm_P_1 hcd (if_pos ⟨h0, hin⟩) hE
theorem jm_P_tsw49 {a : Int32} {d : Nat} {ts : List Nat} (hD : a.toInt < 0 ∨ 49 ≤ a.toInt → jm_P cd (d, ls, st, h) x') (hl : ts.length = 49) (hT : ∀ c : Nat, c < 49 → a = nI c → jm_P cd (ts.getD c 0, ls, st, h) x') : jm_P cd (if a.toInt < 0 ∨ 0 + (ts.length : Nat) ≤ a.toInt then d else ts.getD (a.toInt - 0).toNat 0, ls, st, h) x' := by
  rw [hl]
  by_cases hc : a.toInt < 0 ∨ 0 + (49 : Nat) ≤ a.toInt
  · rw [if_pos hc]
    exact hD (by omega)
  · rw [if_neg hc]
    refine hT _ (by omega) (Int32.toInt_inj.mp ?_)
    rw [nI_toInt (by omega)]
    omega
end JMP
