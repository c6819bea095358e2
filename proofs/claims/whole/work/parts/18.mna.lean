/-! ===== an array of arrays is made: what the machine does at 'multianewarray' of two dimensions ===== -/
/-- the outer array with its first i rows -/
def jn_oc (c N h0 i : Nat) : Cell := arrV c N (fun j => if j < i then .ref (h0 + 1 + j) else .null)
def jn_ic (c M : Nat) (v : Value) : Cell := { cls := c, slots := Array.replicate M v, vm := .none }
def jn_fl (T : State) (cA comp N M : Nat) (v : Value) : Nat → State
  | 0 => T.pushCell (jn_oc cA N T.heap.size 0)
  | i + 1 => ((jn_fl T cA comp N M v i).pushCell (jn_ic comp M v)).setCell T.heap.size (jn_oc cA N T.heap.size (i + 1))
theorem jn_oc_succ (c N h0 i : Nat) : (jn_oc c N h0 i).setSlot i (.ref (h0 + 1 + i)) = jn_oc c N h0 (i + 1) := by
  unfold jn_oc
  rw [arrV_store]
  congr 1
  funext j
  by_cases e : j = i
  · subst e
    simp [updV]
  · simp only [updV, e, if_false]
    by_cases h : j < i
    · rw [if_pos h, if_pos (by omega)]
    · rw [if_neg h, if_neg (by omega)]
theorem jn_oc_0 (c N h0 : Nat) : jn_oc c N h0 0 = { cls := c, slots := Array.replicate N .null, vm := .none } := by
  unfold jn_oc
  rw [arrV_new]
  rfl
theorem jn_oc_size (c N h0 i : Nat) : (jn_oc c N h0 i).slots.size = N := arrV_size c N _
theorem jn_fl_facts (T : State) (cA comp N M : Nat) (v : Value) : ∀ i, (jn_fl T cA comp N M v i).heap.size = T.heap.size + 1 + i ∧ (jn_fl T cA comp N M v i).heap[T.heap.size]? = some (jn_oc cA N T.heap.size i) ∧ (jn_fl T cA comp N M v i).vm = T.vm ∧ (jn_fl T cA comp N M v i).slotsUsed = T.slotsUsed + N + i * M ∧ (∀ q, q < T.heap.size → (jn_fl T cA comp N M v i).heap[q]? = T.heap[q]?) ∧ ∀ j, j < i → (jn_fl T cA comp N M v i).heap[T.heap.size + 1 + j]? = some (jn_ic comp M v)
  | 0 => by
    refine ⟨by simp [jn_fl, State.pushCell], by simp [jn_fl, State.pushCell], rfl, ?_, fun q hq => ?_, fun j hj => absurd hj (Nat.not_lt_zero j)⟩
    · show T.slotsUsed + (jn_oc cA N T.heap.size 0).slots.size = _
      rw [jn_oc_size]
      simp
    · show (T.heap.push _)[q]? = _
      rw [Array.getElem?_push, if_neg (Nat.ne_of_lt hq)]
  | i + 1 => by
    obtain ⟨h1, h2, h3, h4, h5, h6⟩ := jn_fl_facts T cA comp N M v i
    have hp : ∀ q : Nat, (jn_fl T cA comp N M v (i + 1)).heap[q]? = (((jn_fl T cA comp N M v i).heap.push (jn_ic comp M v)).setIfInBounds T.heap.size (jn_oc cA N T.heap.size (i + 1)))[q]? := fun q => rfl
    have hz : ((jn_fl T cA comp N M v i).heap.push (jn_ic comp M v)).size = T.heap.size + 1 + i + 1 := by rw [Array.size_push, h1]
    refine ⟨?_, ?_, h3, ?_, fun q hq => ?_, fun j hj => ?_⟩
    · show (((jn_fl T cA comp N M v i).heap.push (jn_ic comp M v)).setIfInBounds T.heap.size _).size = _
      rw [Array.size_setIfInBounds, hz]
      omega
    · rw [hp, Array.getElem?_setIfInBounds, if_pos rfl, if_pos (by rw [hz]; omega)]
    · show (jn_fl T cA comp N M v i).slotsUsed + (jn_ic comp M v).slots.size = _
      rw [h4]
      simp only [jn_ic, Array.size_replicate]
      rw [Nat.succ_mul]
      omega
    · rw [hp, Array.getElem?_setIfInBounds, if_neg (by omega), Array.getElem?_push, if_neg (by omega)]
      exact h5 q hq
    · rw [hp, Array.getElem?_setIfInBounds, if_neg (by omega), Array.getElem?_push]
      by_cases e : j = i
      · subst e
        rw [if_pos (by omega)]
      · rw [if_neg (by omega)]
        exact h6 j (by omega)
theorem jn_fl_top (T : State) (f : JFrame) (cA comp N M : Nat) (v : Value) : ∀ i, jn_fl (T.setTop f) cA comp N M v i = (jn_fl T cA comp N M v i).setTop f
  | 0 => rfl
  | i + 1 => by
    unfold jn_fl
    rw [jn_fl_top T f cA comp N M v i]
    rfl
section JNM
variable {p : Program} {l : Launch} {e : Env} {R : Room} {s : State} {m : MethodId} {args : Array Value} {below : List Frame} {meth : Method} {c : Code} {T : State} {locs : List Loc} {cells slots : Nat}
theorem jn_stand (X : Stand p l e R s m args below meth c T locs cells slots) (cA comp N M : Nat) (v : Value) : ∀ i, Stand p l e R s m args below meth c (jn_fl T cA comp N M v i) (locs ++ (List.range i).map fun j => ⟨T.heap.size, j⟩) (cells + 1 + i) (slots + N + i * M)
  | 0 => by
    have h := X.pushed (jn_oc cA N T.heap.size 0)
    rw [jn_oc_size] at h
    simpa [jn_fl] using h
  | i + 1 => by
    have Xi := jn_stand X cA comp N M v i
    obtain ⟨h1, h2, h3, h4, h5, h6⟩ := jn_fl_facts T cA comp N M v i
    have hcell : ((jn_fl T cA comp N M v i).pushCell (jn_ic comp M v)).heap[T.heap.size]? = some (jn_oc cA N T.heap.size i) := by
      show ((jn_fl T cA comp N M v i).heap.push _)[T.heap.size]? = _
      rw [Array.getElem?_push, if_neg (by omega)]
      exact h2
    have h := (Xi.pushed (jn_ic comp M v)).stored hcell i (.ref (T.heap.size + 1 + i))
    rw [jn_oc_succ] at h
    have e1 : (jn_ic comp M v).slots.size = M := by simp [jn_ic]
    rw [e1] at h
    have e2 : (locs ++ (List.range (i + 1)).map fun j => (⟨T.heap.size, j⟩ : Loc)) = (locs ++ (List.range i).map fun j => (⟨T.heap.size, j⟩ : Loc)) ++ [⟨T.heap.size, i⟩] := by simp [List.range_succ, List.append_assoc]
    have e3 : slots + N + (i + 1) * M = slots + N + i * M + M := by rw [Nat.succ_mul]; omega
    rw [e2, e3]
    exact h
end JNM
section JNW
variable {E : CtlPost} {e : Env} {d : Bool} {acts : List Action} {s : State}
theorem jn_wp_new {c comp : ClassId} {k : Class} {type : FieldType} {len : Nat} {v : Value} (hk : s.vm.classes[c]? = some k) (hkind : k.kind = .array comp type) (hlim : ¬ len > e.platform.arrayLengthLimit) (hheap : ¬ len * componentBytes type > e.platform.maxHeapBytes) (hfit : fits type v = true) (hdef : v.isDefault = true) {Q : Addr → Pre} (h1 : s.heap.size < e.platform.maxCells) (h2 : s.slotsUsed + len ≤ e.platform.maxSlots) (hq : Q s.heap.size d acts (s.pushCell { cls := c, slots := Array.replicate len v, vm := .none })) : wp (Jvm.newArray c len v) Q E e d acts s := by
  have hfits : ∀ i u, (Array.replicate len v)[i]? = some u → s.fitsSlot c .none i u = true := by
    intro i u hu
    simp only [Array.getElem?_replicate] at hu
    split at hu
    · cases hu
      simp [State.fitsSlot, State.slotType?, hk, hkind, hfit]
    · cases hu
  have hda : allocActs (Array.replicate len v) s.heap.size acts = acts := by
    have hall : ((Array.replicate len v).all (·.isDefault)) = true := by
      rw [Array.all_replicate]
      split <;> simp [hdef]
    unfold allocActs
    rw [if_pos hall]
  simp only [Jvm.newArray, Jvm.arrayFits, wp_bind', Jvm.W.ask, Jvm.W.ite, hlim, if_false, Sem.wp_pure', Jvm.W.theClass, hk, hkind, hheap, Jvm.W.alloc, Jvm.W.stop, Option.some.injEq, exists_eq_left', Array.size_replicate, hda]
  rw [if_neg (by omega)]
  exact ⟨h1, h2, hfits, hq⟩
end JNW
