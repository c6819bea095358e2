/-! ===== MAKING THINGS: a block of new cells from an address on ===== -/
def jn_B (D : va_G) (o : Nat) (es : List va_E) (H : Heap) : Prop := H.size = o + es.length ∧ ∀ (k : Nat) (e : va_E), es[k]? = some e → va_at D jm_cl (o + k, e) H
def jn_Env (D : va_G) (aT : Nat → ClassId) (U : State) : Prop :=
  (∀ (c : Nat) (q : vw_C), jm_cl[c]? = some q → u_Kn U q.1 q.2.1 q.2.2 (D.1 c) (D.2 c)) ∧ U.vm.findClass "[I" = some (aT 0) ∧ U.vm.findClass "[B" = some (aT 1) ∧ U.vm.findClass "[J" = some (aT 2) ∧ U.vm.findClass "[LFrameRound$Mode;" = some (aT 3) ∧ U.vm.findClass "[LFrameRound$Table;" = some (aT 4) ∧ U.vm.findClass "[[I" = some (aT 5) ∧
  va_AO "FrameRound$Mode" U ∧ va_AO "FrameRound$Table" U ∧ ∃ kA : Class, U.vm.classes[aT 5]? = some kA ∧ kA.kind = .array (aT 0) (.array .int)
theorem jn_over {aT : Nat → ClassId} {u U : State} (hvm : u.vm.Alike U.vm) (h : ∃ kA : Class, u.vm.classes[aT 5]? = some kA ∧ kA.kind = .array (aT 0) (.array .int)) : ∃ kA : Class, U.vm.classes[aT 5]? = some kA ∧ kA.kind = .array (aT 0) (.array .int) := by
  obtain ⟨kA, h1, h2⟩ := h
  obtain ⟨k', hk', he⟩ := hvm.2.2 _ _ h1
  exact ⟨k', hk', by rw [he]; exact h2⟩
theorem jn_Env.moved {D : va_G} {aT : Nat → ClassId} {u U : State} (hvm : u.vm.Alike U.vm) (h : jn_Env D aT u) : jn_Env D aT U := by
  obtain ⟨h1, h2, h3, h4, h5, h6, h7, h8, h9, h10⟩ := h
  exact ⟨fun c q hq => u_Kn_moved hvm (h1 c q hq), by rw [hvm.findClass]; exact h2, by rw [hvm.findClass]; exact h3, by rw [hvm.findClass]; exact h4, by rw [hvm.findClass]; exact h5, by rw [hvm.findClass]; exact h6, by rw [hvm.findClass]; exact h7, h8.moved hvm, h9.moved hvm, jn_over hvm h10⟩
theorem jn_B.push {D : va_G} {o : Nat} {es : List va_E} {e : va_E} {H H1 : Heap} (hB : jn_B D o es H) (z : H1.size = H.size + 1) (oq : ∀ q : Nat, q < H.size → H1[q]? = H[q]?) (he : va_at D jm_cl (o + es.length, e) H1) : jn_B D o (es ++ [e]) H1 := by
  refine ⟨by rw [z, hB.1, List.length_append]; rfl, fun k x hx => ?_⟩
  by_cases hl : k < es.length
  · rw [List.getElem?_append_left hl] at hx
    exact (hB.2 k x hx).kept (oq _ ((hB.2 k x hx).lt))
  · rw [List.getElem?_append_right (by omega)] at hx
    have hz : k - es.length < 1 := (List.getElem?_eq_some_iff.mp hx).1
    have hk : k = es.length := by omega
    subst hk
    rw [Nat.sub_self] at hx
    cases hx
    exact he
theorem jn_B.set {D : va_G} {o k : Nat} {es : List va_E} {e0 e : va_E} {H H1 : Heap} (hB : jn_B D o es H) (hk : es[k]? = some e0) (z : H1.size = H.size) (oq : ∀ q : Nat, q ≠ o + k → H1[q]? = H[q]?) (he : va_at D jm_cl (o + k, e) H1) : jn_B D o (es.set k e) H1 := by
  have hl := (List.getElem?_eq_some_iff.mp hk).1
  refine ⟨by rw [z, hB.1, List.length_set], fun j x hx => ?_⟩
  by_cases hj : j = k
  · subst hj
    rw [List.getElem?_set_self hl] at hx
    cases hx
    exact he
  · rw [List.getElem?_set_ne (Ne.symm hj)] at hx
    exact (hB.2 j x hx).kept (oq _ (by show o + j ≠ o + k; omega))
/-- behind a constructor: its block in the place of the object that it was given -/
theorem jn_B.join {D : va_G} {o : Nat} {es es1 : List va_E} {e0 : va_E} {H H1 : Heap} (hB : jn_B D o (es ++ [e0]) H) (h1 : jn_B D (o + es.length) es1 H1) (oq : ∀ q : Nat, q < o + es.length → H1[q]? = H[q]?) : jn_B D o (es ++ es1) H1 := by
  refine ⟨by rw [h1.1, List.length_append]; omega, fun k x hx => ?_⟩
  by_cases hl : k < es.length
  · rw [List.getElem?_append_left hl] at hx
    have h2 := hB.2 k x (by rw [List.getElem?_append_left hl]; exact hx)
    exact h2.kept (oq _ (by show o + k < _; omega))
  · rw [List.getElem?_append_right (by omega)] at hx
    have h2 := h1.2 (k - es.length) x hx
    rwa [show o + es.length + (k - es.length) = o + k by omega] at h2
section JN
variable {p : Program} {l : Launch} {e : Env} {R : Room} {s : State} {m : MethodId} {args : Array Value} {below : List Frame} {meth : Method} {c : Code} {H : Heap} {locs : List Loc} {cells slots : Nat} {Q : State → Prop}
variable {cc : ByteArray} {pc : Nat} {ls : Array Slot} {rest : List Value} {D : va_G} {aT : Nat → ClassId} {o : Nat} {es : List va_E} {own : String}
theorem jn_S_new {H1 : Heap} (hS : va_S (fun q => o ≤ q) s.heap H locs) (z : H1.size = H.size + 1) (oq : ∀ q : Nat, q < H.size → H1[q]? = H[q]?) : va_S (fun q => o ≤ q) s.heap H1 locs :=
  ⟨by have := hS.1; omega, fun x h1 h2 => (oq x (Nat.lt_of_lt_of_le h1 hS.1)).trans (hS.2.1 x h1 h2), hS.2.2⟩
theorem jn_new (hx : p.tables.exec = Jvm.exec) (hb : c.code = cc) (hown : s.vm.findClass own = some m.cls) (hts : ∀ w ∈ jm_T, w.before args s = true) (hE : jn_Env D aT s) (hB : jn_B D o es H) (hS : va_S (fun q => o ≤ q) s.heap H locs) {ci index N : Nat} {C : String} {T : u_T} {fs : List Value} (hc : jm_cl[ci]? = some (C, T, N)) (ty : Nat → FieldType) (hty : ∀ k, k < N → parseFieldDescriptor (T k).2.2.1 = some (ty k)) (hcl : Cond.classLink own index C ∈ jm_T) (hinst : Cond.instantiable C N ∈ jm_T) (hini : Cond.initialized C ∈ jm_T) (hfs : ∀ j, j < N → defaultValue (ty j) = vp_V fs j) (hcells : cells + 1 ≤ R.cells) (hslots : slots + N ≤ R.slots) (hdg : decode cc pc = .ok (.new index, 3))
    (kk : ∀ H1 : Heap, jn_B D o (es ++ [.inr (ci, fs)]) H1 → va_S (fun q => o ≤ q) s.heap H1 locs → W p l e R s m args below meth c H1 locs (cells + 1) (slots + N) Q (F0 m (pc + 3) ls (.ref (o + es.length) :: rest))) : W p l e R s m args below meth c H locs cells slots Q (F0 m pc ls rest) := by
  have hKn := hE.1 ci _ hc
  obtain ⟨-, hins, -⟩ := jm_cf hc
  refine W.newcK hx hb hown (hts _ hcl) (hts _ hinst) (hts _ hini) rfl hdg hcells hslots hKn.2.1 hB.1 fun H1 kC hkC e1 z1 o1 => ?_
  exact kk H1 (hB.push (by rw [z1, hB.1]) (fun q hq => o1 q (by rw [← hB.1]; exact hq)) ⟨_, hc, (u_born ty hts hins hKn hkC e1 hty).to hfs⟩) (jn_S_new hS (by rw [z1, hB.1]) (fun q hq => o1 q (by rw [← hB.1]; exact hq)))
theorem jn_newa (hx : p.tables.exec = Jvm.exec) (hb : c.code = cc) (hts : ∀ w ∈ jm_T, w.before args s = true) {t : Nat} {atype : ArrayType} {ty : FieldType} (hty : newarray.typeOf atype = ty) (harr : Cond.arrayClass ty ∈ jm_T) (hfc : s.vm.findClass ("[" ++ ty.toString) = some (aT t)) (hB : jn_B D o es H) (hS : va_S (fun q => o ≤ q) s.heap H locs) {n : Int32} {N' : Nat} {a0 : vp_A} (ha : ∀ cA : ClassId, vp_cell cA a0 = arrV cA N' (fun _ => defaultValue ty)) (hn : ¬ n < 0) (hN : n.toNatClampNeg = N') (hbytes : N' * componentBytes ty ≤ 536870912) (hcells : cells + 1 ≤ R.cells) (hslots : slots + N' ≤ R.slots) (hdg : decode cc pc = .ok (.newarray atype, 2))
    (kk : ∀ H1 : Heap, jn_B D o (es ++ [.inl (aT t, a0)]) H1 → va_S (fun q => o ≤ q) s.heap H1 locs → W p l e R s m args below meth c H1 locs (cells + 1) (slots + N') Q (F0 m (pc + 2) ls (.ref (o + es.length) :: rest))) : W p l e R s m args below meth c H locs cells slots Q (F0 m pc ls (.int n :: rest)) := by
  subst hty
  refine va_newaK hx hb (hts _ harr) rfl hdg rfl hn hN hbytes hcells hslots hB.1 fun H1 cA e1 z1 o1 hAr hNm => ?_
  cases Option.some.inj (hNm.symm.trans hfc)
  refine kk H1 (hB.push (by rw [z1, hB.1]) (fun q hq => o1 q (by rw [← hB.1]; exact hq)) ?_) (jn_S_new hS (by rw [z1, hB.1]) (fun q hq => o1 q (by rw [← hB.1]; exact hq)))
  show H1[o + es.length]? = some (vp_cell _ _)
  rw [ha]
  exact e1
theorem jn_newq (hx : p.tables.exec = Jvm.exec) (hb : c.code = cc) (hown : s.vm.findClass own = some m.cls) (hts : ∀ w ∈ jm_T, w.before args s = true) {t index : Nat} {C : String} (hcl : Cond.classLink own index C ∈ jm_T) (hover : va_AO C s) (hfc : s.vm.findClass ("[" ++ (FieldType.object C).toString) = some (aT t)) (hB : jn_B D o es H) (hS : va_S (fun q => o ≤ q) s.heap H locs) {n : Int32} {N' : Nat} (hn : ¬ n < 0) (hN : n.toNatClampNeg = N') (hbytes : N' * 4 ≤ 536870912) (hcells : cells + 1 ≤ R.cells) (hslots : slots + N' ≤ R.slots) (hdg : decode cc pc = .ok (.anewarray index, 3))
    (kk : ∀ H1 : Heap, jn_B D o (es ++ [.inl (aT t, N', .inr (.inr (.inr (.inr (fun _ => none)))))]) H1 → va_S (fun q => o ≤ q) s.heap H1 locs → W p l e R s m args below meth c H1 locs (cells + 1) (slots + N') Q (F0 m (pc + 3) ls (.ref (o + es.length) :: rest))) : W p l e R s m args below meth c H locs cells slots Q (F0 m pc ls (.int n :: rest)) := by
  subst hN
  refine W.anew hx hb hown (hts _ hcl) (va_AO.use hover) rfl hdg rfl hn hbytes hcells hslots fun cA kA comp f1 f2 f3 f4 => ?_
  cases Option.some.inj (f1.symm.trans hfc)
  generalize hH1 : H.push ({ cls := aT t, slots := Array.replicate n.toNatClampNeg .null, vm := .none } : Cell) = H1
  have z1 : H1.size = H.size + 1 := by rw [← hH1, Array.size_push]
  have e1 : H1[H.size]? = some (arrV (aT t) n.toNatClampNeg (fun _ => .null)) := by rw [← hH1, Array.getElem?_push_size, ← arrV_new]
  have o1 : ∀ q : Nat, q < H.size → H1[q]? = H[q]? := fun q hq => by rw [← hH1, Array.getElem?_push, if_neg (Nat.ne_of_lt hq)]
  have := kk H1 (hB.push z1 o1 (by show H1[o + es.length]? = some (vp_cell _ _); rw [← hB.1, vp_cell_q]; exact e1)) (jn_S_new hS z1 o1)
  rw [← hB.1] at this
  exact this
/-- a field of an object of the block is set: the constructor's own, final or not -/
theorem jn_put (hx : p.tables.exec = Jvm.exec) (hb : c.code = cc) (hown : s.vm.findClass own = some m.cls) (hts : ∀ w ∈ jm_T, w.before args s = true) (hE : jn_Env D aT s) (hB : jn_B D o es H) (hS : va_S (fun q => o ≤ q) s.heap H locs) (hin2 : meth.name = "<init>") {ci k j index : Nat} {q : vw_C} {fs : List Value} (he : es[k]? = some (.inr (ci, fs))) (hc : jm_cl[ci]? = some q) (hj : j < q.2.2) (hw : Cond.fieldLink own index (q.2.1 j).1 (q.2.1 j).2.1 (q.2.1 j).2.2.1 ∈ jm_T) (hdecl : (q.2.1 j).1 = own) (hq1 : q.1 = own) {ty : FieldType} {v : Value} (hd : parseFieldDescriptor (q.2.1 j).2.2.1 = some ty) (hn : narrow ty v = v) (hfit : fits ty v = true) (hl : j < fs.length) (hdg : decode cc pc = .ok (.putfield index, 3))
    (kk : ∀ (H1 : Heap) (locs1 : List Loc), jn_B D o (es.set k (.inr (ci, fs.set j v))) H1 → va_S (fun q => o ≤ q) s.heap H1 locs1 → W p l e R s m args below meth c H1 locs1 cells slots Q (F0 m (pc + 3) ls rest)) : W p l e R s m args below meth c H locs cells slots Q (F0 m pc ls (v :: .ref (o + k) :: rest)) := by
  obtain ⟨hK, hins, ⟨ty0, hty0⟩, hnm, hnf⟩ := jm_cf hc
  have hKK : va_K D jm_cl [] s := ⟨hE.1, fun k q h => by simp at h⟩
  have hap := va_apart (own := own) hts hins ty0 hty0 hnm hKK hc
  obtain ⟨r, h1, cell, q1, q2, q3, q4⟩ := hB.2 k _ he
  have hr : r = q := Option.some.inj (h1.symm.trans hc)
  subst hr
  obtain ⟨hS0, hfc, kC, hkC, hkind⟩ := hE.1 ci _ hc
  obtain ⟨cf, kf, fi, f, hfi, hsl⟩ := hS0 j hj
  have hst := (u_facts hfc hkC (u_lays hts hins hj) hfi).1
  have fin : ∀ H' : Heap, H'[o + k]? = some (cell.setSlot f.slot v) → H'.size = H.size → (∀ q : Nat, q ≠ o + k → H'[q]? = H[q]?) → jn_B D o (es.set k (.inr (ci, fs.set j v))) H' := by
    intro H' e1 e2 e3
    rw [hsl] at e1
    exact hB.set he e2 e3 ⟨_, hc, t_OB.to (V := updV (vp_V fs) j v) ⟨_, e1, q2, q3, t_set q4 hap hj v⟩ (fun j _ => vp_updV_set hl v j)⟩
  by_cases hfin : (r.2.1 j).2.2.2 = true
  · have hlay := hts _ (hins _ (u_in_lay hj))
    unfold u_lay at hlay
    rw [if_pos hfin] at hlay
    have hcf : m.cls = cf := by
      rw [hq1, hdecl] at hlay
      rw [hdecl] at hfi
      exact laid_decl hown hlay hfi
    have h8 := u_fits hfc hkC hkind (u_lays hts hins hj) hfi hd hn hfit
    exact W.putFinK hx hb hown (hts _ hw) hfi hst hcf hin2 (by rw [q2]; exact h8) q1 q3 (by rw [hsl]; exact k2_hasslot (q4 j hj)) rfl rfl hdg fun H' e1 e2 e3 => kk H' _ (fin H' e1 e2 e3) (hS.put e2 e3 (Nat.le_add_right _ _))
  · have hlay := hts _ (hins _ (u_in_lay hj))
    unfold u_lay at hlay
    rw [if_neg hfin] at hlay
    have h6 := u_store hfc hkC hkind hlay hfi hd hn hfit
    exact W.putK hx hb (f := f) ⟨hown, hts _ hw, ⟨_, _, _, hfi⟩, hst⟩ (by rw [q2]; exact h6) q1 q3 (by rw [hsl]; exact k2_hasslot (q4 j hj)) rfl rfl hdg fun H' e1 e2 e3 => kk H' _ (fin H' e1 e2 e3) (hS.put e2 e3 (Nat.le_add_right _ _))
theorem jn_get (hx : p.tables.exec = Jvm.exec) (hb : c.code = cc) (hown : s.vm.findClass own = some m.cls) (hts : ∀ w ∈ jm_T, w.before args s = true) (hE : jn_Env D aT s) (hB : jn_B D o es H) {ci k j index : Nat} {q : vw_C} {fs : List Value} (he : es[k]? = some (.inr (ci, fs))) (hc : jm_cl[ci]? = some q) (hj : j < q.2.2) (hw : Cond.fieldLink own index (q.2.1 j).1 (q.2.1 j).2.1 (q.2.1 j).2.2.1 ∈ jm_T) (hdg : decode cc pc = .ok (.getfield index, 3)) {v : Value} (hv : vp_V fs j = v)
    (kk : W p l e R s m args below meth c H locs cells slots Q (F0 m (pc + 3) ls (v :: rest))) : W p l e R s m args below meth c H locs cells slots Q (F0 m pc ls (.ref (o + k) :: rest)) := by
  obtain ⟨hK, hins, -, -, hnf⟩ := jm_cf hc
  obtain ⟨r, h1, cell, q1, q2, q3, q4⟩ := hB.2 k _ he
  have hr : r = q := Option.some.inj (h1.symm.trans hc)
  subst hr
  obtain ⟨hS0, hfc, kC, hkC, hkind⟩ := hE.1 ci _ hc
  obtain ⟨cf, kf, fi, f, hfi, hsl⟩ := hS0 j hj
  refine W.getf hx hb hown (hts _ hw) hfi (u_facts hfc hkC (u_lays hts hins hj) hfi).1 q1 (by rw [q3]; exact fun h => by cases h) (v := v) ?_ rfl rfl hdg kk
  rw [hsl, q4 j hj, hv]
theorem jn_ast (hx : p.tables.exec = Jvm.exec) (hb : c.code = cc) (hE : jn_Env D aT s) (hB : jn_B D o es H) (hS : va_S (fun q => o ≤ q) s.heap H locs) {t ka kv ci n : Nat} {r : vw_C} {f : Nat → Option Nat} {vs : List Value} (hover : va_AO r.1 s) (hfc : s.vm.findClass ("[" ++ (FieldType.object r.1).toString) = some (aT t)) (ha : es[ka]? = some (.inl (aT t, n, .inr (.inr (.inr (.inr f)))))) (hv : es[kv]? = some (.inr (ci, vs))) (hc : jm_cl[ci]? = some r) {i : Int32} (hin : vp_in i n) (hdg : decode cc pc = .ok (.aastore, 1))
    (kk : ∀ (H1 : Heap) (locs1 : List Loc), jn_B D o (es.set ka (.inl (aT t, n, .inr (.inr (.inr (.inr (va_up f i.toNatClampNeg (some (o + kv))))))))) H1 → va_S (fun q => o ≤ q) s.heap H1 locs1 → W p l e R s m args below meth c H1 locs1 cells slots Q (F0 m (pc + 1) ls rest)) : W p l e R s m args below meth c H locs cells slots Q (F0 m pc ls (.ref (o + kv) :: .int i :: .ref (o + ka) :: rest)) := by
  have hlt : i.toNatClampNeg < n := Nat.not_le.mp fun q => hin (Or.inr q)
  have h0 : ¬ i < 0 := fun q => hin (Or.inl q)
  obtain ⟨r', hr', cellV, g1, g2, g3, -⟩ := hB.2 kv _ hv
  have hcls := (hE.1 ci r hc).2
  obtain ⟨comp, cA, kA, k3, -, k1, k2, k4⟩ := Cond.arrayOver_spec (args := #[]) hover
  cases Option.some.inj (k4.symm.trans hfc)
  have hcomp : comp = D.1 ci := Option.some.inj (k3.symm.trans hcls.1)
  subst hcomp
  obtain ⟨kC, hkC, -⟩ := hcls.2
  refine W.aast hx hb (hB.2 ka _ ha) (fun q h => by cases h) (fun h => by cases h) k1 k2 rfl hkC ⟨h0, by show _ < (arrV _ _ _).slots.size; rw [arrV_size]; exact hlt⟩ g1 (fun q h => by rw [g3] at h; cases h) (by rw [g2]; exact hkC) (by rw [g2]; exact va_assign hcls) rfl rfl hdg fun H1 e z oq => ?_
  refine kk H1 _ (hB.set ha z oq ?_) (hS.put z oq (Nat.le_add_right _ _))
  show H1[o + ka]? = some (vp_cell _ _)
  rw [e]
  rw [vp_cell_q, vp_cell_q, arrV_store]
  congr 2
  funext q
  by_cases hq : q = i.toNatClampNeg
  · subst hq
    simp [updV, va_up, va_rf]
  · simp [updV, va_up, hq]
end JN
/-- a constructor's start and end -/
def jn_Pc (D : va_G) (aT : Nat → ClassId) (o : Nat) (e0 : va_E) : Array Value → State → Prop := fun a U => a = #[Value.ref o] ∧ jn_B D o [e0] U.heap ∧ jn_Env D aT U
def jn_Qc (D : va_G) (o : Nat) (es : List va_E) : Array Value → State → Outcome → State → Prop := fun _ st r t => r = .returned none ∧ jn_B D o es t.heap ∧ ∀ q : Nat, q < o → t.heap[q]? = st.heap[q]?
theorem jn_blind (D : va_G) (aT : Nat → ClassId) (o : Nat) (e0 : va_E) : FrameBlind (jn_Pc D aT o e0) := fun a U g mk q => ⟨q.1, q.2.1, q.2.2.moved (Vm.Alike.refl U.vm)⟩
section JN2
variable {p : Program} {l : Launch} {e : Env} {R : Room} {s : State} {m : MethodId} {args : Array Value} {below : List Frame} {meth : Method} {c : Code} {H : Heap} {locs : List Loc} {cells slots : Nat} {Q : State → Prop}
variable {cc : ByteArray} {pc : Nat} {ls : Array Slot} {rest : List Value} {D : va_G} {aT : Nat → ClassId} {o : Nat} {es : List va_E} {own : String}
theorem jn_call (hx : p.tables.exec = Jvm.exec) (hb : c.code = cc) (hml : c.maxLocals = ls.size) (hown : s.vm.findClass own = some m.cls) (hts : ∀ w ∈ jm_T, w.before args s = true) (hE : jn_Env D aT s) {e0 : va_E} {es1 : List va_E} (h1 : 0 < es1.length) (hB : jn_B D o (es ++ [e0]) H) (hS : va_S (fun q => o ≤ q) s.heap H locs) {y : MethodName} {bytes : ByteArray} {maxL mc ms fr lo index : Nat} (hM : Met l y (Cond.code y bytes maxL none :: jm_T) { frames := fr, cells := mc, slots := ms, locals := lo } (jn_Pc D aT (o + es.length) e0) (jn_Qc D (o + es.length) es1) mc ms (fun q => o + es.length ≤ q))
    (hcode : Cond.code y bytes maxL none ∈ jm_T) (hini : Cond.initialized y.cls ∈ jm_T) (hl : Cond.methodLink own index y ∈ jm_T) (hin : Cond.instanceMethod y ∈ jm_T) (hy : y.name = "<init>") (hd : y.cls ≠ "java/lang/invoke/MethodHandle" ∧ y.cls ≠ "java/lang/invoke/VarHandle" ∧ (parseMethodDescriptor y.desc).map (fun d => d.parameters.length) = some 0) (hRm : fr + 1 ≤ R.frames ∧ 8 + (maxL + 11) + lo ≤ R.locals) (hst : (rest.map fun v => v.category).sum ≤ 8) (hf : cells + mc ≤ R.cells ∧ slots + ms ≤ R.slots) (hdg : decode cc pc = .ok (.invokespecial index, 3))
    (kk : ∀ (H1 : Heap) (locs1 : List Loc), jn_B D o (es ++ es1) H1 → va_S (fun q => o ≤ q) s.heap H1 locs1 → W p l e R s m args below meth c H1 locs1 (cells + mc) (slots + ms) Q (F0 m (pc + 3) ls rest)) : W p l e R s m args below meth c H locs cells slots Q (F0 m pc ls (.ref (o + es.length) :: rest)) := by
  have hB0 : jn_B D (o + es.length) [e0] H := by
    refine ⟨by rw [hB.1, List.length_append]; rfl, fun k x hx => ?_⟩
    have hk : k < 1 := (List.getElem?_eq_some_iff.mp hx).1
    have hk0 : k = 0 := by omega
    subst hk0
    cases hx
    exact hB.2 es.length e0 (by simp)
  have cb : CallB R s args own index y bytes maxL none (Cond.code y bytes maxL none :: jm_T) { frames := fr, cells := mc, slots := ms, locals := lo } mc ms 0 := callB_of 0 hts (jm_good hcode) rfl rfl rfl (hts _ hini) (hts _ hl) hd hRm
  have run := W.runI (l := l) (e := e) (below := below) (meth := meth) (locs := locs) (cells := cells) (slots := slots) (nL := ls.size) (b := o + es.length) (As := []) (rest := rest) (g := F0 m pc ls (.ref (o + es.length) :: rest)) ⟨hx, hb, hml, hown, hts⟩ hM ⟨cb, hy, hts _ hin⟩ ⟨jn_blind D aT _ e0, fun U hU hW => ⟨rfl, by rw [hU]; exact hB0, hE.moved hW.alike⟩⟩ rfl rfl rfl rfl (lv_room (m := m) (pc := 0) (ls := ls) (rest := []) hst) hdg hf
  intro T hT X
  obtain ⟨v, st₀, t, T', L, h0, X', hL, e1, ⟨hv, hB1, hq⟩, st⟩ := run T hT X
  cases hv
  have hS1 : va_S (fun q => o ≤ q) s.heap t.heap (locs ++ L) := by
    refine ⟨by rw [hB1.1]; have := hS.1; rw [hB.1, List.length_append, List.length_singleton] at this; omega, fun q h1 h2 => ?_, fun q hq1 => ?_⟩
    · rw [hq q (by omega), h0]
      exact hS.2.1 q h1 h2
    · rcases List.mem_append.mp hq1 with h1 | h1
      · exact hS.2.2 q h1
      · have := hL q h1
        show o ≤ q.base
        omega
  obtain ⟨t2, a1, b1⟩ := kk t.heap _ (hB.join hB1 (fun q hq1 => by rw [hq q hq1, h0])) hS1 T' e1 X'
  exact ⟨t2, st t2 a1, b1⟩
end JN2
