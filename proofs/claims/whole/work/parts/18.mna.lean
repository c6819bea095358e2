/-! ===== an array of arrays is made: what the machine does at 'multianewarray' of two dimensions ===== -/
/-- the outer array with its first i rows -/
def jn_oc (c N h0 i : Nat) : Cell := arrV c N (fun j => if j < i then .ref (h0 + 1 + j) else .null)
def jn_ic (c M : Nat) (v : Value) : Cell := { cls := c, slots := Array.replicate M v, vm := .none }
def jn_fl (T : State) (cA comp N M : Nat) (v : Value) : Nat → State
  | 0 => T.pushCell (jn_oc cA N T.heap.size 0)
  | i + 1 => ((jn_fl T cA comp N M v i).pushCell (jn_ic comp M v)).setCell T.heap.size (jn_oc cA N T.heap.size (i + 1))
theorem jn_oc_succ (c N h0 i : Nat) : (jn_oc c N h0 i).setSlot i (.ref (h0 + 1 + i)) = jn_oc c N h0 (i + 1) := by
  unfold jn_oc
  rw [arrV_store]
  congr 1
  funext j
  by_cases e : j = i
  · subst e
    simp [updV]
  · simp only [updV, e, if_false]
    by_cases h : j < i
    · rw [if_pos h, if_pos (by omega)]
    · rw [if_neg h, if_neg (by omega)]
theorem jn_oc_0 (c N h0 : Nat) : jn_oc c N h0 0 = { cls := c, slots := Array.replicate N .null, vm := .none } := by
  unfold jn_oc
  rw [arrV_new]
  rfl
theorem jn_oc_size (c N h0 i : Nat) : (jn_oc c N h0 i).slots.size = N := arrV_size c N _
theorem jn_fl_facts (T : State) (cA comp N M : Nat) (v : Value) : ∀ i, (jn_fl T cA comp N M v i).heap.size = T.heap.size + 1 + i ∧ (jn_fl T cA comp N M v i).heap[T.heap.size]? = some (jn_oc cA N T.heap.size i) ∧ (jn_fl T cA comp N M v i).vm = T.vm ∧ (jn_fl T cA comp N M v i).slotsUsed = T.slotsUsed + N + i * M ∧ (∀ q, q < T.heap.size → (jn_fl T cA comp N M v i).heap[q]? = T.heap[q]?) ∧ ∀ j, j < i → (jn_fl T cA comp N M v i).heap[T.heap.size + 1 + j]? = some (jn_ic comp M v)
  | 0 => by
    refine ⟨by simp [jn_fl, State.pushCell], by simp [jn_fl, State.pushCell], rfl, ?_, fun q hq => ?_, fun j hj => absurd hj (Nat.not_lt_zero j)⟩
    · show T.slotsUsed + (jn_oc cA N T.heap.size 0).slots.size = _
      rw [jn_oc_size]
      simp
    · show (T.heap.push _)[q]? = _
      rw [Array.getElem?_push, if_neg (Nat.ne_of_lt hq)]
  | i + 1 => by
    obtain ⟨h1, h2, h3, h4, h5, h6⟩ := jn_fl_facts T cA comp N M v i
    have hp : ∀ q : Nat, (jn_fl T cA comp N M v (i + 1)).heap[q]? = (((jn_fl T cA comp N M v i).heap.push (jn_ic comp M v)).setIfInBounds T.heap.size (jn_oc cA N T.heap.size (i + 1)))[q]? := fun q => rfl
    have hz : ((jn_fl T cA comp N M v i).heap.push (jn_ic comp M v)).size = T.heap.size + 1 + i + 1 := by rw [Array.size_push, h1]
    refine ⟨?_, ?_, h3, ?_, fun q hq => ?_, fun j hj => ?_⟩
    · show (((jn_fl T cA comp N M v i).heap.push (jn_ic comp M v)).setIfInBounds T.heap.size _).size = _
      rw [Array.size_setIfInBounds, hz]
      omega
    · rw [hp, Array.getElem?_setIfInBounds, if_pos rfl, if_pos (by rw [hz]; omega)]
    · show (jn_fl T cA comp N M v i).slotsUsed + (jn_ic comp M v).slots.size = _
      rw [h4]
      simp only [jn_ic, Array.size_replicate]
      rw [Nat.succ_mul]
      omega
    · rw [hp, Array.getElem?_setIfInBounds, if_neg (by omega), Array.getElem?_push, if_neg (by omega)]
      exact h5 q hq
    · rw [hp, Array.getElem?_setIfInBounds, if_neg (by omega), Array.getElem?_push]
      by_cases e : j = i
      · subst e
        rw [if_pos (by omega)]
      · rw [if_neg (by omega)]
        exact h6 j (by omega)
theorem jn_fl_top (T : State) (f : JFrame) (cA comp N M : Nat) (v : Value) : ∀ i, jn_fl (T.setTop f) cA comp N M v i = (jn_fl T cA comp N M v i).setTop f
  | 0 => rfl
  | i + 1 => by
    unfold jn_fl
    rw [jn_fl_top T f cA comp N M v i]
    rfl
section JNM
variable {p : Program} {l : Launch} {e : Env} {R : Room} {s : State} {m : MethodId} {args : Array Value} {below : List Frame} {meth : Method} {c : Code} {T : State} {locs : List Loc} {cells slots : Nat}
theorem jn_stand (X : Stand p l e R s m args below meth c T locs cells slots) (cA comp N M : Nat) (v : Value) : ∀ i, Stand p l e R s m args below meth c (jn_fl T cA comp N M v i) (locs ++ (List.range i).map fun j => ⟨T.heap.size, j⟩) (cells + 1 + i) (slots + N + i * M)
  | 0 => by
    have h := X.pushed (jn_oc cA N T.heap.size 0)
    rw [jn_oc_size] at h
    simpa [jn_fl] using h
  | i + 1 => by
    have Xi := jn_stand X cA comp N M v i
    obtain ⟨h1, h2, h3, h4, h5, h6⟩ := jn_fl_facts T cA comp N M v i
    have hcell : ((jn_fl T cA comp N M v i).pushCell (jn_ic comp M v)).heap[T.heap.size]? = some (jn_oc cA N T.heap.size i) := by
      show ((jn_fl T cA comp N M v i).heap.push _)[T.heap.size]? = _
      rw [Array.getElem?_push, if_neg (by omega)]
      exact h2
    have h := (Xi.pushed (jn_ic comp M v)).stored hcell i (.ref (T.heap.size + 1 + i))
    rw [jn_oc_succ] at h
    have e1 : (jn_ic comp M v).slots.size = M := by simp [jn_ic]
    rw [e1] at h
    have e2 : (locs ++ (List.range (i + 1)).map fun j => (⟨T.heap.size, j⟩ : Loc)) = (locs ++ (List.range i).map fun j => (⟨T.heap.size, j⟩ : Loc)) ++ [⟨T.heap.size, i⟩] := by simp [List.range_succ, List.append_assoc]
    have e3 : slots + N + (i + 1) * M = slots + N + i * M + M := by rw [Nat.succ_mul]; omega
    rw [e2, e3]
    exact h
end JNM
section JNW
variable {E : CtlPost} {e : Env} {d : Bool} {acts : List Action} {s : State}
theorem jn_wp_new {c comp : ClassId} {k : Class} {type : FieldType} {len : Nat} {v : Value} (hk : s.vm.classes[c]? = some k) (hkind : k.kind = .array comp type) (hlim : ¬ len > e.platform.arrayLengthLimit) (hheap : ¬ len * componentBytes type > e.platform.maxHeapBytes) (hfit : fits type v = true) (hdef : v.isDefault = true) {Q : Addr → Pre} (h1 : s.heap.size < e.platform.maxCells) (h2 : s.slotsUsed + len ≤ e.platform.maxSlots) (hq : Q s.heap.size d acts (s.pushCell { cls := c, slots := Array.replicate len v, vm := .none })) : wp (Jvm.newArray c len v) Q E e d acts s := by
  have hfits : ∀ i u, (Array.replicate len v)[i]? = some u → s.fitsSlot c .none i u = true := by
    intro i u hu
    simp only [Array.getElem?_replicate] at hu
    split at hu
    · cases hu
      simp [State.fitsSlot, State.slotType?, hk, hkind, hfit]
    · cases hu
  have hda : allocActs (Array.replicate len v) s.heap.size acts = acts := by
    have hall : ((Array.replicate len v).all (·.isDefault)) = true := by
      rw [Array.all_replicate]
      split <;> simp [hdef]
    unfold allocActs
    rw [if_pos hall]
  simp only [Jvm.newArray, Jvm.arrayFits, wp_bind', Jvm.W.ask, Jvm.W.ite, hlim, if_false, Sem.wp_pure', Jvm.W.theClass, hk, hkind, hheap, Jvm.W.alloc, Jvm.W.stop, Option.some.injEq, exists_eq_left', Array.size_replicate, hda]
  rw [if_neg (by omega)]
  exact ⟨h1, h2, hfits, hq⟩
end JNW
section JNV
variable {E : CtlPost} {e : Env} {d : Bool} {acts : List Action} {s : State}
theorem jn_wp_row {comp cc : ClassId} {kc : Class} {type : FieldType} {m : Int32} (hkc : s.vm.classes[comp]? = some kc) (hkindc : kc.kind = .array cc type) (hm : ¬ m < 0) (hl2 : ¬ m.toNatClampNeg > e.platform.arrayLengthLimit) (hh2 : ¬ m.toNatClampNeg * componentBytes type > e.platform.maxHeapBytes) (hdf : fits type (defaultValue type) = true) (hdd : (defaultValue type).isDefault = true) (h1 : s.heap.size < e.platform.maxCells) (h2 : s.slotsUsed + m.toNatClampNeg ≤ e.platform.maxSlots) {Q : Addr → Pre} (hq : Q s.heap.size d acts (s.pushCell (jn_ic comp m.toNatClampNeg (defaultValue type)))) : wp (Op.multianewarray.make comp [m]) Q E e d acts s := by
  rw [Op.multianewarray.make]
  simp only [wp_bind', Jvm.W.ite, hm, if_false, Sem.wp_pure', Jvm.W.theClass, hkc, hkindc, Option.some.injEq, exists_eq_left']
  exact jn_wp_new hkc hkindc hl2 hh2 hdf hdd h1 h2 hq
theorem jn_wp_all {c comp cc : ClassId} {k kc : Class} {type : FieldType} {n m : Int32} (hk : s.vm.classes[c]? = some k) (hkind : k.kind = .array comp (.array type)) (hkc : s.vm.classes[comp]? = some kc) (hkindc : kc.kind = .array cc type) (hn : ¬ n < 0) (hm : ¬ m < 0) (hl1 : ¬ n.toNatClampNeg > e.platform.arrayLengthLimit) (hh1 : ¬ n.toNatClampNeg * componentBytes (.array type) > e.platform.maxHeapBytes) (hl2 : ¬ m.toNatClampNeg > e.platform.arrayLengthLimit) (hh2 : ¬ m.toNatClampNeg * componentBytes type > e.platform.maxHeapBytes) (hdf : fits type (defaultValue type) = true) (hdd : (defaultValue type).isDefault = true) (hc : s.heap.size + 1 + n.toNatClampNeg ≤ e.platform.maxCells) (hs : s.slotsUsed + n.toNatClampNeg + n.toNatClampNeg * m.toNatClampNeg ≤ e.platform.maxSlots) {Q : Addr → Pre} (hq : ∀ d' acts', Q s.heap.size d' acts' (jn_fl s c comp n.toNatClampNeg m.toNatClampNeg (defaultValue type) n.toNatClampNeg)) : wp (Op.multianewarray.make c [n, m]) Q E e d acts s := by
  have hfind : ([m].find? (· < 0)) = none := by simp [hm]
  rw [Op.multianewarray.make]
  simp only [wp_bind', Jvm.W.ite, hn, if_false, Sem.wp_pure', Jvm.W.theClass, hk, hkind, Option.some.injEq, exists_eq_left']
  refine jn_wp_new hk hkind hl1 hh1 rfl rfl (by omega) (by have := Nat.zero_le (n.toNatClampNeg * m.toNatClampNeg); omega) ?_
  simp only [hfind]
  rw [ite_self, wp_bind', Std.Legacy.Range.forIn_eq_forIn_range']
  have hsz : ([:n.toNatClampNeg] : Std.Legacy.Range).size = n.toNatClampNeg := by simp [Std.Legacy.Range.size]
  rw [hsz]
  have e0 : s.pushCell { cls := c, slots := Array.replicate n.toNatClampNeg .null, vm := .none } = jn_fl s c comp n.toNatClampNeg m.toNatClampNeg (defaultValue type) 0 := by
    show _ = s.pushCell (jn_oc c n.toNatClampNeg s.heap.size 0)
    rw [jn_oc_0]
  rw [e0]
  refine wp_forIn_inv (fun rest s' => ∃ i, i ≤ n.toNatClampNeg ∧ rest = List.range' i (n.toNatClampNeg - i) ∧ s' = jn_fl s c comp n.toNatClampNeg m.toNatClampNeg (defaultValue type) i) _ _ ⟨0, Nat.zero_le _, rfl, rfl⟩ ?_ ?_
  · rintro x rest s' d' acts' Q' ⟨i, hi, hl, rfl⟩ hnext
    have hlt : i < n.toNatClampNeg := by
      rcases Nat.lt_or_ge i n.toNatClampNeg with h | h
      · exact h
      · rw [show n.toNatClampNeg - i = 0 from by omega] at hl
        simp at hl
    obtain ⟨rfl, hrest⟩ : x = i ∧ rest = List.range' (i + 1) (n.toNatClampNeg - (i + 1)) := by
      rw [show n.toNatClampNeg - i = (n.toNatClampNeg - (i + 1)) + 1 from by omega, List.range'_succ] at hl
      exact ⟨(List.cons.inj hl).1, (List.cons.inj hl).2⟩
    obtain ⟨f1, f2, f3, f4, f5, f6⟩ := jn_fl_facts s c comp n.toNatClampNeg m.toNatClampNeg (defaultValue type) x
    have hmul : x * m.toNatClampNeg + m.toNatClampNeg ≤ n.toNatClampNeg * m.toNatClampNeg := by
      have := Nat.mul_le_mul_right m.toNatClampNeg (show x + 1 ≤ n.toNatClampNeg from hlt)
      rw [Nat.succ_mul] at this
      exact this
    simp only [wp_bind']
    refine jn_wp_row (by rw [f3]; exact hkc) hkindc hm hl2 hh2 hdf hdd (by rw [f1]; omega) (by rw [f4]; omega) ?_
    simp only [wp_bind', Jvm.W.writeLoc, Sem.wp_pure']
    refine ⟨jn_oc c n.toNatClampNeg s.heap.size x, ?_, (fun h => by cases h), by rw [jn_oc_size]; exact hlt, ?_, hnext _ _ _ ⟨x + 1, hlt, hrest, ?_⟩⟩
    · show ((jn_fl s c comp n.toNatClampNeg m.toNatClampNeg (defaultValue type) x).heap.push _)[s.heap.size]? = _
      rw [Array.getElem?_push, if_neg (by omega)]
      exact f2
    · show State.fitsSlot _ c .none x _ = true
      simp [State.fitsSlot, State.slotType?, f3, hk, hkind, fits]
    · rw [f1, jn_oc_succ]
      rfl
  · rintro s' d' acts' ⟨i, hi, hl, rfl⟩
    have hiN : i = n.toNatClampNeg := by
      rcases Nat.lt_or_ge i n.toNatClampNeg with h | h
      · rw [show n.toNatClampNeg - i = (n.toNatClampNeg - (i + 1)) + 1 from by omega, List.range'_succ] at hl
        cases hl
      · omega
    subst hiN
    simp only [Sem.wp_pure']
    exact hq _ _
end JNV
section JNX
variable {p : Program} {l : Launch} {e : Env} {R : Room} {s : State} {m : MethodId} {args : Array Value} {below : List Frame} {meth : Method} {c : Code} {T : State} {locs : List Loc} {cells slots : Nat}
theorem jn_multi (X : Stand p l e R s m args below meth c T locs cells slots) (hexec : p.tables.exec = Jvm.exec) {own : String} {index cA comp cc : Nat} {kA kC : Class} (hown : s.vm.findClass own = some m.cls) (hclink : (Cond.classLink own index "[[I").before args s = true) (hfA : s.vm.findClass "[[I" = some cA) (hkA : s.vm.classes[cA]? = some kA) (hkindA : kA.kind = .array comp (.array .int)) (hkC : s.vm.classes[comp]? = some kC) (hkindC : kC.kind = .array cc .int)
    {g : JFrame} (hg : g.method = m) (hdg : decode c.code g.pc = .ok (.multianewarray index 2, 4)) {rest : List Value} (hstack : g.stack = .int 24 :: .int 24 :: rest) (hcells : cells + 25 ≤ R.cells) (hslots : slots + 600 ≤ R.slots) :
    ∃ vm₁ : Vm, s.WarmedH vm₁ ∧ Stand p l e R s m args below meth c (jn_fl (T.setVm vm₁) cA comp 24 24 (.int 0) 24) (locs ++ (List.range 24).map fun j => ⟨T.heap.size, j⟩) (cells + 1 + 24) (slots + 24 + 24 * 24) ∧
      ∀ target, Steps p.tables e below ((jn_fl (T.setVm vm₁) cA comp 24 24 (.int 0) 24).setTop { g with pc := g.pc + 4, stack := .ref T.heap.size :: rest }) target → Steps p.tables e below (T.setTop g) target := by
  subst hg
  have hpl : e.platform.magicAccessors = ({} : Platform).magicAccessors := by rw [X.admits.platform]
  obtain ⟨c0, hfc0, hcl⟩ := Cond.classLink_spec hown hclink e.platform hpl
  cases hfA.symm.trans hfc0
  obtain ⟨hg₁, hwarm₁, hready₁⟩ := State.classEntry (e := e) X.warmed hcl
  generalize T.vm.noted g.method.cls index (.cls cA) = vm₁ at hg₁ hwarm₁ hready₁
  have hal : s.vm.Alike vm₁ := hwarm₁.alike
  obtain ⟨kA₁, hkA₁, heA⟩ := hal.2.2 _ _ hkA
  obtain ⟨kC₁, hkC₁, heC⟩ := hal.2.2 _ _ hkC
  have hkindA₁ : kA₁.kind = .array comp (.array .int) := by rw [heA]; exact hkindA
  have hkindC₁ : kC₁.kind = .array cc .int := by rw [heC]; exact hkindC
  have X₁ := X.noted hwarm₁
  obtain ⟨hr1, hr2⟩ := X.roomAbove hcells hslots
  refine ⟨vm₁, hwarm₁, jn_stand X₁ cA comp 24 24 (.int 0) 24, fun target hrest => ?_⟩
  have hl1 : ¬ (24 : Int32).toNatClampNeg > e.platform.arrayLengthLimit := by rw [Launch.admits_arrayLengthLimit X.admits]; decide
  have hh1 : ¬ (24 : Int32).toNatClampNeg * componentBytes (.array .int) > e.platform.maxHeapBytes := by rw [Launch.admits_maxHeapBytes X.admits]; decide
  have hh2 : ¬ (24 : Int32).toNatClampNeg * componentBytes .int > e.platform.maxHeapBytes := by rw [Launch.admits_maxHeapBytes X.admits]; decide
  have h24 : (24 : Int32).toNatClampNeg = 24 := by decide
  jvm_step X.here [hexec, hdg]
  simp only [Op.multianewarray.sem, wp_bind', Jvm.W.resolveClassAt_links (State.method?_setTop g X.here.top) hg₁]
  rw [Jvm.W.popN, if_neg (by decide)]
  refine ⟨g, State.topJava?_setTop' (s := T.setVm vm₁) g X.here.top, [.int 24, .int 24], rest, rfl, hstack, ?_⟩
  simp only [List.mapM_cons, List.mapM_nil, wp_bind', Sem.wp_pure']
  refine jn_wp_all (k := kA₁) (kc := kC₁) (comp := comp) (cc := cc) (type := .int) hkA₁ hkindA₁ hkC₁ hkindC₁ (by decide) (by decide) hl1 hh1 hl1 hh2 rfl rfl (by rw [h24]; show T.heap.size + 1 + 24 ≤ _; omega) (by rw [h24]; show T.slotsUsed + 24 + 24 * 24 ≤ _; omega) (fun d' acts' => ?_)
  rw [h24]
  have XF := jn_stand X₁ cA comp 24 24 (defaultValue FieldType.int) 24
  have eS : ((T.setTop g).setVm vm₁).setTop { g with stack := rest } = (T.setVm vm₁).setTop { g with stack := rest } := by
    show ((T.setVm vm₁).setTop g).setTop _ = _
    rw [State.setTop_setTop]
  rw [eS, jn_fl_top]
  simp only [wp_bind', Jvm.W.mark, Jvm.W.pushRef, State.topJava?_setTop' _ XF.here.top, Option.some.injEq, exists_eq_left', State.setTop_setTop, State.heap_setTop]
  intro acts
  simp [jvm, XF.here.top]
  exact hrest
end JNX
section JN3
variable {p : Program} {l : Launch} {e : Env} {R : Room} {s : State} {m : MethodId} {args : Array Value} {below : List Frame} {meth : Method} {c : Code} {H : Heap} {locs : List Loc} {cells slots : Nat} {Q : State → Prop}
variable {cc : ByteArray} {pc : Nat} {ls : Array Slot} {rest : List Value} {D : va_G} {aT : Nat → ClassId} {o : Nat} {es : List va_E} {own : String}
theorem jn_mna (hx : p.tables.exec = Jvm.exec) (hb : c.code = cc) (hown : s.vm.findClass own = some m.cls) (hts : ∀ w ∈ jm_T, w.before args s = true) (hE : jn_Env D aT s) (hB : jn_B D o es H) (hS : va_S (fun q => o ≤ q) s.heap H locs) {index : Nat} (hcl : Cond.classLink own index "[[I" ∈ jm_T) (harr : Cond.arrayClass .int ∈ jm_T) (hcells : cells + 25 ≤ R.cells) (hslots : slots + 600 ≤ R.slots) (hdg : decode cc pc = .ok (.multianewarray index 2, 4))
    (kk : ∀ H1 : Heap, jn_B D o (es ++ (.inl (aT 5, 24, .inr (.inr (.inr (.inr (fun j => if j < 24 then some (o + es.length + 1 + j) else none))))) :: List.replicate 24 (.inl (aT 0, 24, .inl (fun _ => 0))))) H1 → va_S (fun q => o ≤ q) s.heap H1 locs → W p l e R s m args below meth c H1 locs (cells + 25) (slots + 600) Q (F0 m (pc + 4) ls (.ref (o + es.length) :: rest))) : W p l e R s m args below meth c H locs cells slots Q (F0 m pc ls (.int 24 :: .int 24 :: rest)) := by
  obtain ⟨cI, kC, cc0, hcI, hkC, hkindC⟩ := Cond.arrayClass_spec (hts _ harr)
  cases Option.some.inj (hcI.symm.trans hE.2.1)
  obtain ⟨kA, hkA, hkindA⟩ := hE.2.2.2.2.2.2.2.2.2
  intro T hT X
  obtain ⟨vm₁, hW, X', step⟩ := jn_multi X hx hown (hts _ hcl) hE.2.2.2.2.2.2.1 hkA hkindA hkC hkindC (g := F0 m pc ls (.int 24 :: .int 24 :: rest)) rfl (by rw [hb]; exact hdg) rfl hcells hslots
  obtain ⟨f1, f2, f3, f4, f5, f6⟩ := jn_fl_facts (T.setVm vm₁) (aT 5) (aT 0) 24 24 (.int 0) 24
  have hTh : (T.setVm vm₁).heap = H := hT
  rw [hTh] at f1 f2 f5 f6
  generalize hF : jn_fl (T.setVm vm₁) (aT 5) (aT 0) 24 24 (.int 0) 24 = F at X' step f1 f2 f5 f6
  have hB1 : jn_B D o (es ++ (.inl (aT 5, 24, .inr (.inr (.inr (.inr (fun j => if j < 24 then some (o + es.length + 1 + j) else none))))) :: List.replicate 24 (.inl (aT 0, 24, .inl (fun _ => 0))))) F.heap := by
    refine ⟨by rw [f1, hB.1]; simp; omega, fun k x hx => ?_⟩
    by_cases hl : k < es.length
    · rw [List.getElem?_append_left hl] at hx
      exact (hB.2 k x hx).kept (f5 _ ((hB.2 k x hx).lt))
    · rw [List.getElem?_append_right (by omega)] at hx
      by_cases h0 : k = es.length
      · subst h0
        rw [Nat.sub_self] at hx
        cases hx
        show F.heap[o + es.length]? = some (vp_cell _ _)
        rw [← hB.1, f2, vp_cell_q, hB.1]
        unfold jn_oc
        congr 2
        funext j
        by_cases hj : j < 24
        · rw [if_pos hj, if_pos hj]
          rfl
        · rw [if_neg hj, if_neg hj]
          rfl
      · obtain ⟨k', rfl⟩ : ∃ k', k = es.length + 1 + k' := ⟨k - es.length - 1, by omega⟩
        rw [show es.length + 1 + k' - es.length = k' + 1 by omega, List.getElem?_cons_succ, List.getElem?_replicate] at hx
        split at hx
        · rename_i hk'
          cases hx
          show F.heap[o + (es.length + 1 + k')]? = some (vp_cell _ _)
          have := f6 k' hk'
          rw [hB.1] at this
          rw [show o + (es.length + 1 + k') = o + es.length + 1 + k' by omega, this, vp_cell_i]
          unfold jn_ic
          rw [arrV_new]
        · cases hx
  have hS1 : va_S (fun q => o ≤ q) s.heap F.heap locs := ⟨by rw [f1]; have := hS.1; omega, fun q h1 h2 => (f5 q (Nat.lt_of_lt_of_le h1 hS.1)).trans (hS.2.1 q h1 h2), hS.2.2⟩
  obtain ⟨t, a1, b1⟩ := kk F.heap hB1 hS1 F rfl (Stand.forget X' (fun q hq => by
    obtain ⟨j, -, rfl⟩ := List.mem_map.mp hq
    exact X.heapGrown))
  refine ⟨t, step t ?_, b1⟩
  rw [hT, hB.1]
  exact a1
end JN3
