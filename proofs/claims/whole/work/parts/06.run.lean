/-! ===== returns, calls, runs of the small machine; that they are runs of the machine ===== -/
abbrev jm_Hd : Type := (MethodName × ByteArray × Nat × Option FieldType) × (Nat × Nat)
abbrev jm_Rs : Type := Option jm_V × jm_H
def jm_Pc (G : jm_G) (as : List jm_V) (h : jm_H) : Array Value → State → Prop := fun a U => a = (as.map (jm_sh G)).toArray ∧ jm_Rel G h U.heap ∧ jm_Env G U
def jm_Qc (G : jm_G) (r : jm_Rs) : Array Value → State → Outcome → State → Prop := fun _ st o t => o = .returned (r.1.map (jm_sh G)) ∧ jm_Rel G r.2 t.heap ∧ st.heap.size ≤ t.heap.size
def jm_met (l : Launch) (G : jm_G) (hd : jm_Hd) (as : List jm_V) (h : jm_H) (r : jm_Rs) : Prop :=
  Met l hd.1.1 (Cond.code hd.1.1 hd.1.2.1 hd.1.2.2.1 hd.1.2.2.2 :: jm_T) { frames := hd.2.1, cells := 0, slots := 0, locals := hd.2.2 } (jm_Pc G as h) (jm_Qc G r) 0 0 (fun q => jm_bs G ≤ q)
def jm_okO : Option jm_V → Prop
  | none => True
  | some v => jm_ok v
/-- the first value of a call is a thing of the kind (0: a static call) -/
def jm_rcv (rk : Nat) (as : List jm_V) : Prop := match rk with
  | 0 => True
  | K + 1 => match as with
    | .inr q :: _ => q.1 = K
    | _ => False
def jm_SR (y : jm_M) (k : Nat) (f : List jm_V → jm_H → Option jm_Rs) : Prop :=
  ∀ (G : jm_G) (p : Program) (l : Launch) (e : Env) (R : Room) (s : State) (m : MethodId) (args : Array Value) (below : List Frame) (meth : Method) (c : Code) (cells slots : Nat), jm_Cx G y p R s m args c cells slots → meth.sig.returnType = jm_rt y → meth.locks = false →
    ∀ (ls : jm_L) (st : List jm_V) (h : jm_H) (r : jm_Rs), f st h = some r → jm_W G y p l e R s m args below meth c cells slots (MQ below (jm_Qc G r) args s cells slots (fun q => jm_bs G ≤ q)) k ls st h
def jm_SC (hd : jm_Hd) (y : jm_M) (k : Nat) (n rk : Nat) : Prop :=
  ∀ (G : jm_G) (p : Program) (l : Launch) (e : Env) (R : Room) (s : State) (m : MethodId) (args : Array Value) (below : List Frame) (meth : Method) (c : Code) (cells slots : Nat) (Q : State → Prop), jm_Cx G y p R s m args c cells slots →
    ∀ (ls : jm_L) (st : List jm_V) (h : jm_H) (r : jm_Rs), n ≤ st.length → ((st.drop n).map jm_ct).sum ≤ 8 → jm_rcv rk (st.take n).reverse → jm_okO r.1 → (jm_okS (st.take n).reverse → jm_met l G hd (st.take n).reverse h r) → jm_W G y p l e R s m args below meth c cells slots Q (k + 1) ls (r.1.toList ++ st.drop n) r.2 → jm_W G y p l e R s m args below meth c cells slots Q k ls st h
theorem jm_okS_app {a b : List jm_V} : jm_okS (a ++ b) ↔ jm_okS a ∧ jm_okS b := by
  induction a with
  | nil => simp [jm_okS]
  | cons v r ih => simp [jm_okS, ih, and_assoc]
theorem jm_okS_rev {a : List jm_V} : jm_okS a.reverse ↔ jm_okS a := by
  induction a with
  | nil => simp
  | cons v r ih =>
    rw [List.reverse_cons, jm_okS_app, ih]
    simp [jm_okS, and_comm]
theorem jm_okS_take {a : List jm_V} (n : Nat) (h : jm_okS a) : jm_okS (a.take n).reverse ∧ jm_okS (a.drop n) := by
  have h1 : jm_okS (a.take n ++ a.drop n) := by rw [List.take_append_drop]; exact h
  obtain ⟨h2, h3⟩ := jm_okS_app.mp h1
  exact ⟨jm_okS_rev.mpr h2, h3⟩
theorem jm_okO_app {v : Option jm_V} {b : List jm_V} (hv : jm_okO v) (hb : jm_okS b) : jm_okS (v.toList ++ b) := by
  cases v with
  | none => exact hb
  | some v => exact ⟨hv, hb⟩
section JMR
variable {y : jm_M} {k : Nat}
def jm_iret : List jm_V → jm_H → Option jm_Rs := fun st h => match st with
  | [.inl (.int v)] => some (some (.inl (.int v)), h)
  | _ => none
def jm_nret (ty : FieldType) : List jm_V → jm_H → Option jm_Rs := fun st h => match st with
  | [.inl (.int v)] => if narrow ty (.int v) = .int v then some (some (.inl (.int v)), h) else none
  | _ => none
def jm_lret : List jm_V → jm_H → Option jm_Rs := fun st h => match st with
  | [.inl (.long v)] => some (some (.inl (.long v)), h)
  | _ => none
def jm_dret : List jm_V → jm_H → Option jm_Rs := fun st h => match st with
  | [.inl (.double v)] => some (some (.inl (.double v)), h)
  | _ => none
def jm_vret : List jm_V → jm_H → Option jm_Rs := fun st h => match st with
  | [] => some (none, h)
  | _ => none
theorem jm_Qc_of {G : jm_G} {r : jm_Rs} {a : Array Value} {s t : State} {H : Heap} {locs : List Loc} {o : Outcome} (ho : o = .returned (r.1.map (jm_sh G))) (hR : jm_Rel G r.2 H) (hS : va_S (fun q => jm_bs G ≤ q) s.heap H locs) (ht : t.heap = H) : jm_Qc G r a s o t := ⟨ho, by rw [ht]; exact hR, by rw [ht]; exact hS.1⟩
theorem jm_e_iret (hr0 : jm_rt y = some .int) (hd : decode (jm_by y) (jm_pc y k) = .ok (.ireturn, 1)) : jm_SR y k jm_iret := by
  intro G p l e R s m args below meth c cells slots C hr hlk ls st h r hf
  obtain ⟨hx, hb, hml, hown, hts, hE, hAm, -⟩ := C
  unfold jm_iret at hf
  split at hf
  · cases hf
    intro ok okL H locs A hR hS hL
    exact W.iret hx hb (hr.trans hr0) (fun t ht _ => jm_Qc_of rfl hR hS ht) hS.2.2 hd hlk
  · cases hf
theorem jm_e_nret {ty : FieldType} (hr0 : jm_rt y = some ty) (hd : decode (jm_by y) (jm_pc y k) = .ok (.ireturn, 1)) : jm_SR y k (jm_nret ty) := by
  intro G p l e R s m args below meth c cells slots C hr hlk ls st h r hf
  obtain ⟨hx, hb, hml, hown, hts, hE, hAm, -⟩ := C
  unfold jm_nret at hf
  split at hf
  · split at hf
    · rename_i hn
      cases hf
      intro ok okL H locs A hR hS hL
      exact W.zret hx hb (hr.trans hr0) hn (fun t ht _ => jm_Qc_of rfl hR hS ht) hS.2.2 hd hlk
    · cases hf
  · cases hf
theorem jm_e_lret (hr0 : jm_rt y = some .long) (hd : decode (jm_by y) (jm_pc y k) = .ok (.lreturn, 1)) : jm_SR y k jm_lret := by
  intro G p l e R s m args below meth c cells slots C hr hlk ls st h r hf
  obtain ⟨hx, hb, hml, hown, hts, hE, hAm, -⟩ := C
  unfold jm_lret at hf
  split at hf
  · cases hf
    intro ok okL H locs A hR hS hL
    exact W.lret hx hb (hr.trans hr0) (fun t ht _ => jm_Qc_of rfl hR hS ht) hS.2.2 hd hlk
  · cases hf
theorem jm_e_dret (hr0 : jm_rt y = some .double) (hd : decode (jm_by y) (jm_pc y k) = .ok (.dreturn, 1)) : jm_SR y k jm_dret := by
  intro G p l e R s m args below meth c cells slots C hr hlk ls st h r hf
  obtain ⟨hx, hb, hml, hown, hts, hE, hAm, -⟩ := C
  unfold jm_dret at hf
  split at hf
  · cases hf
    intro ok okL H locs A hR hS hL
    exact W.dret hx hb (hr.trans hr0) (fun t ht _ => jm_Qc_of rfl hR hS ht) hS.2.2 hd hlk
  · cases hf
theorem jm_e_vret (hr0 : jm_rt y = none) (hd : decode (jm_by y) (jm_pc y k) = .ok (.return_, 1)) : jm_SR y k jm_vret := by
  intro G p l e R s m args below meth c cells slots C hr hlk ls st h r hf
  obtain ⟨hx, hb, hml, hown, hts, hE, hAm, -⟩ := C
  unfold jm_vret at hf
  split at hf
  · cases hf
    intro ok okL H locs A hR hS hL
    exact W.vret hx hb (hr.trans hr0) (fun t ht _ => jm_Qc_of rfl hR hS ht) hS.2.2 hd hlk
  · cases hf
theorem jm_good {w : Cond} (hw : w ∈ jm_T) : GoodIn jm_T (w :: jm_T) := by
  intro v hv
  have h : v ∈ jm_T := by
    rcases List.mem_cons.mp hv with rfl | h
    · exact hw
    · exact h
  exact ⟨h, good_of_word (List.mem_filter.mp h).2⟩
theorem jm_blind (G : jm_G) (as : List jm_V) (h : jm_H) : FrameBlind (jm_Pc G as h) := by
  intro a U g mk q
  exact ⟨q.1, q.2.1, jm_Env.same (u := U) (U := U.calling g mk a) rfl q.2.2⟩
/-- behind a call -/
theorem jm_back {G : jm_G} {p : Program} {l : Launch} {e : Env} {R : Room} {s : State} {m : MethodId} {args : Array Value} {below : List Frame} {meth : Method} {c : Code} {cells slots : Nat} {Q : State → Prop} {H : Heap} {locs : List Loc} {g : JFrame} {rest : List Value} {h : jm_H} {r : jm_Rs} {a : Array Value}
    (hr : CallRun p l e R s m args below meth c H locs cells slots 0 0 g rest (jm_Qc G r a) (fun q => jm_bs G ≤ q)) (hR : jm_Rel G h H) (hS : va_S (fun q => jm_bs G ≤ q) s.heap H locs)
    (kk : ∀ (H1 : Heap) (locs1 : List Loc), jm_Rel G r.2 H1 → va_S (fun q => jm_bs G ≤ q) s.heap H1 locs1 → W p l e R s m args below meth c H1 locs1 cells slots Q { g with pc := g.pc + 3, stack := (r.1.map (jm_sh G)).toList ++ rest }) : W p l e R s m args below meth c H locs cells slots Q g := by
  intro T hT X
  obtain ⟨v, st₀, t, T', L, h0, X', hL, e1, ⟨hv, hR1, hz⟩, st⟩ := hr T hT X
  cases hv
  have hS1 : va_S (fun q => jm_bs G ≤ q) s.heap t.heap (locs ++ L) := by
    refine ⟨Nat.le_trans hS.1 (by rw [h0] at hz; exact hz), fun q h1 h2 => ?_, fun q hq => ?_⟩
    · rw [← hS.2.1 q h1 h2, hR1.2.1 q (by omega), hR.2.1 q (by omega)]
    · rcases List.mem_append.mp hq with h1 | h1
      · exact hS.2.2 q h1
      · exact hL q h1
  obtain ⟨t2, a1, b1⟩ := kk t.heap _ hR1 hS1 T' e1 X'
  exact ⟨t2, st t2 a1, b1⟩
theorem jm_map_cat (G : jm_G) (st : List jm_V) : ((st.map (jm_sh G)).map fun v => v.category).sum = (st.map jm_ct).sum := by
  rw [List.map_map, show (fun v : Value => v.category) ∘ jm_sh G = jm_ct from funext (jm_sh_cat G)]
theorem jm_split (G : jm_G) (st : List jm_V) (n : Nat) : st.map (jm_sh G) = ((st.take n).reverse.map (jm_sh G)).reverse ++ (st.drop n).map (jm_sh G) := by
  rw [List.map_reverse, List.reverse_reverse, ← List.map_append, List.take_append_drop]
theorem jm_opt (G : jm_G) (v : Option jm_V) (st : List jm_V) : (v.map (jm_sh G)).toList ++ st.map (jm_sh G) = (v.toList ++ st).map (jm_sh G) := by
  cases v <;> rfl
/-- a static call -/
theorem jm_c_static {hd : jm_Hd} {n idx : Nat} (hcode : Cond.code hd.1.1 hd.1.2.1 hd.1.2.2.1 hd.1.2.2.2 ∈ jm_T) (hini : Cond.initialized hd.1.1.cls ∈ jm_T) (hl : Cond.methodLink (jm_nm y).cls idx hd.1.1 ∈ jm_T) (hst0 : Cond.static hd.1.1 ∈ jm_T)
    (hd0 : hd.1.1.cls ≠ "java/lang/invoke/MethodHandle" ∧ hd.1.1.cls ≠ "java/lang/invoke/VarHandle" ∧ (parseMethodDescriptor hd.1.1.desc).map (fun d => d.parameters.length) = some n) (hRm : hd.2.1 + 1 ≤ jm_fr y ∧ 8 + (hd.1.2.2.1 + 11) + hd.2.2 ≤ jm_lo y) (hdc : decode (jm_by y) (jm_pc y k) = .ok (.invokestatic idx, 3)) (hp : jm_pc y (k + 1) = jm_pc y k + 3) : jm_SC hd y k n 0 := by
  intro G p l e R s m args below meth c cells slots Q C ls st h r hn hcat _ hok hM hW
  obtain ⟨hx, hb, hml, hown, hts, hE, hAm, hfr, hlo, hce, hsl, hZ⟩ := C
  intro ok okL H locs A hR hS hL
  obtain ⟨o1, o2⟩ := jm_okS_take n ok
  have cb : CallB R s args (jm_nm y).cls idx hd.1.1 hd.1.2.1 hd.1.2.2.1 hd.1.2.2.2 (Cond.code hd.1.1 hd.1.2.1 hd.1.2.2.1 hd.1.2.2.2 :: jm_T) { frames := hd.2.1, cells := 0, slots := 0, locals := hd.2.2 } 0 0 n :=
    callB_of n hts (jm_good hcode) rfl rfl rfl (hts _ hini) (hts _ hl) hd0 ⟨by have := hRm.1; show hd.2.1 + 1 ≤ _; omega, by have := hRm.2; show 8 + _ + hd.2.2 ≤ _; omega⟩
  have hlen : ((st.take n).reverse.map (jm_sh G)).length = n := by simp; omega
  have run := W.runS (l := l) (e := e) (below := below) (meth := meth) (H := H) (locs := locs) (cells := cells) (slots := slots) (nL := jm_mx y) (rest := (st.drop n).map (jm_sh G)) (g := F0 m (jm_pc y k) A (st.map (jm_sh G))) (As := (st.take n).reverse.map (jm_sh G)) ⟨hx, hb, hml, hown, hts⟩ (hM o1) ⟨cb, hts _ hst0⟩
    ⟨jm_blind G _ h, fun U hU hW => ⟨rfl, by rw [hU]; exact hR, hE.warm hW⟩⟩ rfl hlen hL.2.1 (jm_split G st n) (lv_room (m := m) (pc := 0) (ls := A) (rest := []) (by rw [jm_map_cat]; exact hcat)) hdc ⟨by omega, by omega⟩
  refine jm_back run hR hS (fun H1 locs1 hR1 hS1 => ?_)
  have := hW (jm_okO_app hok o2) okL H1 locs1 A hR1 hS1 hL
  rw [hp, ← jm_opt] at this
  exact this
/-- a call of an object -/
theorem jm_c_virtual {hd : jm_Hd} {n idx K : Nat} {q : vw_C} (hc : jm_cl[K]? = some q) (hq : q.1 = hd.1.1.cls) (hcode : Cond.code hd.1.1 hd.1.2.1 hd.1.2.2.1 hd.1.2.2.2 ∈ jm_T) (hini : Cond.initialized hd.1.1.cls ∈ jm_T) (hl : Cond.methodLink (jm_nm y).cls idx hd.1.1 ∈ jm_T) (hin : Cond.instanceMethod hd.1.1 ∈ jm_T) (hse : Cond.selects hd.1.1.cls hd.1.1 hd.1.1 ∈ jm_T)
    (hd0 : hd.1.1.cls ≠ "java/lang/invoke/MethodHandle" ∧ hd.1.1.cls ≠ "java/lang/invoke/VarHandle" ∧ (parseMethodDescriptor hd.1.1.desc).map (fun d => d.parameters.length) = some n) (hRm : hd.2.1 + 1 ≤ jm_fr y ∧ 8 + (hd.1.2.2.1 + 11) + hd.2.2 ≤ jm_lo y) (hdc : decode (jm_by y) (jm_pc y k) = .ok (.invokevirtual idx, 3)) (hp : jm_pc y (k + 1) = jm_pc y k + 3) : jm_SC hd y k (n + 1) (K + 1) := by
  intro G p l e R s m args below meth c cells slots Q C ls st h r hn hcat hrc hok hM hW
  obtain ⟨hx, hb, hml, hown, hts, hE, hAm, hfr, hlo, hce, hsl, hZ⟩ := C
  intro ok okL H locs A hR hS hL
  obtain ⟨o1, o2⟩ := jm_okS_take (n + 1) ok
  have hM := hM o1
  have hsp := jm_split G st (n + 1)
  have hlen0 : (st.take (n + 1)).reverse.length = n + 1 := by simp; omega
  generalize has : (st.take (n + 1)).reverse = as at *
  match as, hrc with
  | .inr (K1, i) :: as', hrc =>
    have e1 : K1 = K := hrc
    subst e1
    obtain ⟨hK, hins, -, -, hnf⟩ := jm_cf hc
    have hat := hR.1 K1 i (by omega) o1.1
    unfold jm_at at hat
    rw [if_pos hK] at hat
    obtain ⟨cell, q1, q2, q3, q4⟩ := hat
    obtain ⟨hS0, hfc, kC, hkC, hkind⟩ := hE.1 K1 q hc
    have cb : CallB R s args (jm_nm y).cls idx hd.1.1 hd.1.2.1 hd.1.2.2.1 hd.1.2.2.2 (Cond.code hd.1.1 hd.1.2.1 hd.1.2.2.1 hd.1.2.2.2 :: jm_T) { frames := hd.2.1, cells := 0, slots := 0, locals := hd.2.2 } 0 0 n :=
      callB_of n hts (jm_good hcode) rfl rfl rfl (hts _ hini) (hts _ hl) hd0 ⟨by have := hRm.1; show hd.2.1 + 1 ≤ _; omega, by have := hRm.2; show 8 + _ + hd.2.2 ≤ _; omega⟩
    have hlen : (as'.map (jm_sh G)).length = n := by simpa using hlen0
    have hstk : st.map (jm_sh G) = (as'.map (jm_sh G)).reverse ++ .ref (G.1 K1 i) :: (st.drop (n + 1)).map (jm_sh G) := by
      rw [hsp, List.map_cons, List.reverse_cons, List.append_assoc]
      rfl
    have run := W.runV (l := l) (e := e) (below := below) (meth := meth) (H := H) (locs := locs) (cells := cells) (slots := slots) (C := hd.1.1.cls) (nL := jm_mx y) (b := G.1 K1 i) (rest := (st.drop (n + 1)).map (jm_sh G)) (g := F0 m (jm_pc y k) A (st.map (jm_sh G))) (As := as'.map (jm_sh G)) ⟨hx, hb, hml, hown, hts⟩ hM ⟨cb, hts _ hin, hts _ hse⟩
      ⟨jm_blind G _ h, ⟨cell, q1, by rw [q3]; rfl, by rw [q2, ← hq]; exact hfc⟩, fun U hU hW => ⟨rfl, by rw [hU]; exact hR, hE.warm hW⟩⟩ rfl hlen hL.2.1 hstk (lv_room (m := m) (pc := 0) (ls := A) (rest := []) (by rw [jm_map_cat]; exact hcat)) hdc ⟨by omega, by omega⟩
    refine jm_back run hR hS (fun H1 locs1 hR1 hS1 => ?_)
    have := hW (jm_okO_app hok o2) okL H1 locs1 A hR1 hS1 hL
    rw [hp, ← jm_opt] at this
    exact this
end JMR
/-! runs -/
/-- fewer locals known -/
def jm_le : jm_L → jm_L → Prop
  | [], [] => True
  | none :: a, _ :: b => jm_le a b
  | some v :: a, some w :: b => v = w ∧ jm_le a b
  | _, _ => False
theorem jm_le_get : ∀ {a b : jm_L}, jm_le a b → a.length = b.length ∧ ∀ (i : Nat) (v : jm_V), a[i]? = some (some v) → b[i]? = some (some v)
  | [], [], _ => ⟨rfl, fun i v h => by simp at h⟩
  | none :: a, w :: b, h => by
    have h' : jm_le a b := by cases w <;> exact h
    obtain ⟨h1, h2⟩ := jm_le_get h'
    refine ⟨by simp [h1], fun i v hi => ?_⟩
    match i, hi with
    | 0, hi => cases hi
    | i + 1, hi => exact h2 i v hi
  | some v :: a, some w :: b, h => by
    obtain ⟨rfl, h⟩ := h
    obtain ⟨h1, h2⟩ := jm_le_get h
    refine ⟨by simp [h1], fun i u hi => ?_⟩
    match i, hi with
    | 0, hi => exact hi
    | i + 1, hi => exact h2 i u hi
  | some v :: a, none :: b, h => h.elim
  | [], _ :: _, h => h.elim
  | none :: _, [], h => h.elim
  | some _ :: _, [], h => h.elim
theorem jm_Lo.weak {G : jm_G} {n : Nat} {a b : jm_L} {A : Array Slot} (hle : jm_le a b) (h : jm_Lo G n b A) : jm_Lo G n a A :=
  ⟨(jm_le_get hle).1.trans h.1, h.2.1, h.2.2.1, fun i v hi => h.2.2.2 i v ((jm_le_get hle).2 i v hi)⟩
theorem jm_okL_weak {a b : jm_L} (hle : jm_le a b) (h : jm_okL b) : jm_okL a := fun i v hi => h i v ((jm_le_get hle).2 i v hi)
def jm_ex (C : Nat → List jm_V → jm_H → jm_Rs → Prop) (cd : List jm_I) : Nat → Nat → jm_L → List jm_V → jm_H → jm_Rs → Prop
  | 0, _, _, _, _, _ => False
  | n + 1, k, ls, st, h, r => (∃ ls' : jm_L, jm_le ls' ls ∧ jm_ex C cd n k ls' st h r) ∨ match cd[k]? with
    | none => False
    | some (.inl f) => match f (k + 1) ls st h with
      | none => False
      | some x => jm_ex C cd n x.1 x.2.1 x.2.2.1 x.2.2.2 r
    | some (.inr (.inl f)) => f st h = some r
    | some (.inr (.inr c)) => c.2.1 ≤ st.length ∧ ((st.drop c.2.1).map jm_ct).sum ≤ 8 ∧ jm_rcv c.2.2 (st.take c.2.1).reverse ∧ ∃ q : jm_Rs, C c.1 (st.take c.2.1).reverse h q ∧ jm_okO q.1 ∧ jm_ex C cd n (k + 1) ls (q.1.toList ++ st.drop c.2.1) q.2 r
def jm_enl : List jm_V → jm_L
  | [] => []
  | v :: r => if jm_ct v = 2 then some v :: none :: jm_enl r else some v :: jm_enl r
def jm_ent (n : Nat) (as : List jm_V) : jm_L := jm_enl as ++ List.replicate (n - (jm_enl as).length) none
def jm_Rn (ms : List jm_M) : Nat → Nat → List jm_V → jm_H → jm_Rs → Prop
  | 0, _, _, _, _ => False
  | d + 1, z, as, h, r => ∃ (M : jm_M) (n : Nat), ms[z]? = some M ∧ (jm_enl as).length ≤ jm_mx M ∧ jm_ex (jm_Rn ms d) (jm_cd M) n 0 (jm_ent (jm_mx M) as) [] h r
def jm_Snd (ms : List jm_M) (M : jm_M) (k : Nat) (i : jm_I) : Prop := match i with
  | .inl f => jm_SN M k f
  | .inr (.inl f) => jm_SR M k f
  | .inr (.inr c) => ∀ M', ms[c.1]? = some M' → jm_SC (M'.1, M'.2.1) M k c.2.1 c.2.2
def jm_Ms (ms : List jm_M) : Prop := ∀ (z : Nat) (M : jm_M), ms[z]? = some M → plainName (jm_nm M).cls = true ∧ jm_pc M 0 = 0 ∧ ∀ (k : Nat) (i : jm_I), (jm_cd M)[k]? = some i → jm_Snd ms M k i
theorem jm_enl_len (G : jm_G) (as : List jm_V) : (jm_enl as).length = (lg_sl (as.map (jm_sh G))).length := by
  induction as with
  | nil => rfl
  | cons v r ih =>
    rw [List.map_cons]
    simp only [lg_sl, List.flatMap_cons, List.length_append, jm_sh_cat] at ih ⊢
    rw [jm_enl]
    split
    · simp [ih]
      omega
    · simp [ih]
      omega
theorem jm_enl_args (G : jm_G) (as : List jm_V) : ∀ (b i : Nat) (v : jm_V), (jm_enl as)[i]? = some (some v) → (b + i, jm_sh G v) ∈ lv_args b (as.map (jm_sh G)) := by
  induction as with
  | nil => intro b i v h; simp [jm_enl] at h
  | cons w r ih =>
    intro b i v h
    rw [List.map_cons, lv_args, jm_sh_cat]
    rw [jm_enl] at h
    split at h
    · rename_i hc
      rw [if_pos hc]
      match i, h with
      | 0, h => cases h; exact List.mem_cons_self
      | 1, h => cases h
      | i + 2, h =>
        have := ih (b + 2) i v h
        rw [show b + 2 + i = b + (i + 2) by omega] at this
        exact List.mem_cons_of_mem _ this
    · rename_i hc
      rw [if_neg hc]
      match i, h with
      | 0, h => cases h; exact List.mem_cons_self
      | i + 1, h =>
        have := ih (b + 1) i v h
        rw [show b + 1 + i = b + (i + 1) by omega] at this
        exact List.mem_cons_of_mem _ this
theorem jm_ent_get {n i : Nat} {as : List jm_V} {v : jm_V} (h : (jm_ent n as)[i]? = some (some v)) : (jm_enl as)[i]? = some (some v) := by
  unfold jm_ent at h
  by_cases hl : i < (jm_enl as).length
  · rwa [List.getElem?_append_left hl] at h
  · rw [List.getElem?_append_right (by omega), List.getElem?_replicate] at h
    split at h <;> cases h
theorem jm_okL_ent {n : Nat} {as : List jm_V} (h : jm_okS as) : jm_okL (jm_ent n as) := by
  intro i v hi0
  have hi := jm_ent_get hi0
  clear hi0
  clear n
  induction as generalizing i with
  | nil => simp [jm_enl] at hi
  | cons w r ih =>
    rw [jm_enl] at hi
    split at hi
    · match i, hi with
      | 0, hi => cases hi; exact h.1
      | 1, hi => cases hi
      | i + 2, hi => exact ih h.2 i hi
    · match i, hi with
      | 0, hi => cases hi; exact h.1
      | i + 1, hi => exact ih h.2 i hi
theorem jm_ex_sound {ms : List jm_M} {d : Nat} {l : Launch} (hms : jm_Ms ms) {G : jm_G} (hAm : jm_Amb G) (hC : ∀ z as h r M, jm_Rn ms d z as h r → ms[z]? = some M → jm_okS as → jm_met l G (M.1, M.2.1) as h r)
    {z : Nat} {M : jm_M} (hz : ms[z]? = some M) {p : Program} {e : Env} {R : Room} {s : State} {m : MethodId} {args : Array Value} {below : List Frame} {meth : Method} {c : Code} {cells slots : Nat} (Cx : jm_Cx G M p R s m args c cells slots) (hr : meth.sig.returnType = jm_rt M) (hlk : meth.locks = false) (r : jm_Rs) :
    ∀ (n k : Nat) (ls : jm_L) (st : List jm_V) (h : jm_H), jm_ex (jm_Rn ms d) (jm_cd M) n k ls st h r → jm_W G M p l e R s m args below meth c cells slots (MQ below (jm_Qc G r) args s cells slots (fun q => jm_bs G ≤ q)) k ls st h := by
  intro n
  induction n with
  | zero => intro k ls st h q; exact q.elim
  | succ n ih =>
    intro k ls st h q
    unfold jm_ex at q
    rcases q with ⟨ls', hle, q⟩ | q
    · exact fun ok okL H locs A hR hS hL => ih k ls' st h q ok (jm_okL_weak hle okL) H locs A hR hS (hL.weak hle)
    split at q
    · exact q.elim
    · rename_i f hi
      have hs := (hms z M hz).2.2 k _ hi
      split at q
      · exact q.elim
      · rename_i x hx
        obtain ⟨k', ls', st', h'⟩ := x
        exact hs G p l e R s m args below meth c cells slots _ Cx ls st h k' ls' st' h' hx (ih _ _ _ _ q)
    · rename_i f hi
      have hs := (hms z M hz).2.2 k _ hi
      exact hs G p l e R s m args below meth c cells slots Cx hr hlk ls st h r q
    · rename_i cc hi
      have hs := (hms z M hz).2.2 k _ hi
      obtain ⟨q1, q2, q3, x, q4, q5, q6⟩ := q
      have hM' : ∃ M', ms[cc.1]? = some M' := by
        cases d with
        | zero => exact q4.elim
        | succ d => exact ⟨q4.choose, q4.choose_spec.choose_spec.1⟩
      obtain ⟨M', hM'⟩ := hM'
      exact hs M' hM' G p l e R s m args below meth c cells slots _ Cx ls st h x q1 q2 q3 q5 (fun ok => hC _ _ _ _ M' q4 hM' ok) (ih _ _ _ _ q6)
theorem jm_sound {ms : List jm_M} {l : Launch} (hms : jm_Ms ms) {G : jm_G} (hAm : jm_Amb G) : ∀ (d z : Nat) (as : List jm_V) (h : jm_H) (r : jm_Rs) (M : jm_M), jm_Rn ms d z as h r → ms[z]? = some M → jm_okS as → jm_met l G (M.1, M.2.1) as h r := by
  intro d
  induction d with
  | zero => intro z as h r M q; exact q.elim
  | succ d ih =>
    intro z as h r M q hz ok
    obtain ⟨M0, n, h1, hlen, hex⟩ := q
    cases h1.symm.trans hz
    have hp := (hms z M hz).1
    have hp0 := (hms z M hz).2.1
    refine Met.ofW (cc := jm_by M) (maxL := jm_mx M) (ret := jm_rt M) hp rfl ?_
    intro p e s m args below meth c s₁ B hml hv
    obtain ⟨rfl, hR, hE⟩ := hv
    have hts0 := atoms_spec (ws := Cond.code (jm_nm M) (jm_by M) (jm_mx M) (jm_rt M) :: jm_T) B.pre
    have hown : s.vm.findClass (jm_nm M).cls = some m.cls := findClass_of_methodNamed B.named
    have Cx : jm_Cx G M p { frames := M.2.1.1, cells := 0, slots := 0, locals := M.2.1.2 } s m (as.map (jm_sh G)).toArray c 0 0 := ⟨B.exec, B.bytes, hml, hown, fun w hw => hts0 w (List.mem_cons_of_mem _ hw), hE, hAm, Nat.le_refl _, Nat.le_refl _, Nat.le_refl _, Nat.le_refl _, hR.2.1⟩
    rw [lg_entry_eq]
    have hl := lv_entry (as.map (jm_sh G)) (n := jm_mx M) (by rw [← jm_enl_len]; exact hlen)
    have hLo : jm_Lo G (jm_mx M) (jm_ent (jm_mx M) as) ((lg_sl (as.map (jm_sh G)) ++ List.replicate (jm_mx M - (lg_sl (as.map (jm_sh G))).length) Slot.unset).toArray) := by
      refine ⟨?_, hl.1, hl.2.1, fun i v hi => ?_⟩
      · unfold jm_ent
        rw [List.length_append, List.length_replicate]
        omega
      · have := hl.2.2 _ (jm_enl_args G as 0 i v (jm_ent_get hi))
        simpa using this
    have := jm_ex_sound (e := e) (below := below) hms hAm ih hz Cx B.returns B.notSynchronized r n 0 _ _ h hex trivial (jm_okL_ent ok) s.heap [] _ hR va_S.rf hLo
    rw [hp0] at this
    exact this
