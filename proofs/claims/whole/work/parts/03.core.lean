/-! ===== THE SMALL MACHINE: values, heap, steps ===== -/
/-- a number, or a thing: its kind and which of that kind -/
abbrev jm_V : Type := Value ⊕ (Nat × Nat)
abbrev jm_L : Type := List (Option jm_V)
/-- ints by kind, thing, place; the references that change; the law's long -/
abbrev jm_H : Type := (Nat → Nat → Nat → Int32) × (Nat → Nat → Nat → Nat) × Int64
abbrev jm_S : Type := Nat × jm_L × List jm_V × jm_H
/-- an instruction: one that goes on, one that returns, a call (which method, how many values, the kind of the first and 1, or 0) -/
abbrev jm_I : Type := (Nat → jm_L → List jm_V → jm_H → Option jm_S) ⊕ (List jm_V → jm_H → Option (Option jm_V × jm_H)) ⊕ (Nat × Nat × Nat)
abbrev jm_i (x : Int32) : jm_V := .inl (.int x)
abbrev jm_r (K i : Nat) : jm_V := .inr (K, i)
def jm_sI (h : jm_H) (K i j : Nat) (x : Int32) : jm_H := (fun a b c => if a = K ∧ c = j ∧ b = i then x else h.1 a b c, h.2)
def jm_sR (h : jm_H) (K i j : Nat) (x : Nat) : jm_H := (h.1, fun a b c => if a = K ∧ c = j ∧ b = i then x else h.2.1 a b c, h.2.2)
def jm_sL (h : jm_H) (x : Int64) : jm_H := (h.1, h.2.1, x)
/-- a method: name, code, locals, answer; frames and words that it needs; where its instructions lie; what they are -/
abbrev jm_M : Type := (MethodName × ByteArray × Nat × Option FieldType) × (Nat × Nat) × List Nat × List jm_I
def jm_nm (y : jm_M) : MethodName := y.1.1
def jm_by (y : jm_M) : ByteArray := y.1.2.1
def jm_mx (y : jm_M) : Nat := y.1.2.2.1
def jm_rt (y : jm_M) : Option FieldType := y.1.2.2.2
def jm_fr (y : jm_M) : Nat := y.2.1.1
def jm_lo (y : jm_M) : Nat := y.2.1.2
def jm_pc (y : jm_M) (k : Nat) : Nat := y.2.2.1.getD k 0
def jm_cd (y : jm_M) : List jm_I := y.2.2.2
/-- where things lie; classes and slots; classes of arrays; the heap at the law's entry -/
abbrev jm_G : Type := (Nat → Nat → Nat) × va_G × (Nat → ClassId) × Heap
def jm_bs (G : jm_G) : Nat := G.2.2.2.size
def jm_sh (G : jm_G) : jm_V → Value
  | .inl v => v
  | .inr q => .ref (G.1 q.1 q.2)
def jm_ct : jm_V → Nat
  | .inl v => v.category
  | .inr _ => 1
theorem jm_sh_cat (G : jm_G) (v : jm_V) : (jm_sh G v).category = jm_ct v := by cases v <;> rfl
def jm_ok : jm_V → Prop
  | .inl (.ref _) => False
  | .inl _ => True
  | .inr q => q.2 < jm_cnt q.1
def jm_okS : List jm_V → Prop
  | [] => True
  | v :: r => jm_ok v ∧ jm_okS r
def jm_okL (ls : jm_L) : Prop := ∀ (i : Nat) (v : jm_V), ls[i]? = some (some v) → jm_ok v
/-- the value of a field -/
def jm_fv (G : jm_G) (h : jm_H) (K i j : Nat) : Value := match (jm_ft K j).1 with
  | 0 => .int (h.1 K i j)
  | 1 => .ref (G.1 (jm_ft K j).2.1 ((jm_ft K j).2.2 i))
  | _ => .ref (G.1 (jm_ft K j).2.1 (h.2.1 K i j))
/-- the value in an array -/
def jm_av (G : jm_G) (h : jm_H) (K i j : Nat) : Value := match (jm_el K).1 with
  | 2 => .long (if j = 0 then h.2.2 else 0)
  | 3 => .ref (G.1 (jm_el K).2.1 ((jm_el K).2.2 * i + j))
  | _ => .int (h.1 K i j)
def jm_at (G : jm_G) (h : jm_H) (K i : Nat) (H : Heap) : Prop :=
  if K < 9 then t_OB (G.1 K i) (G.2.1.1 K) (jm_nf K) (G.2.1.2 K) H (jm_fv G h K i) else H[G.1 K i]? = some (arrV (G.2.2.1 K) (jm_ln K) (jm_av G h K i))
def jm_Rel (G : jm_G) (h : jm_H) (H : Heap) : Prop :=
  (∀ K i : Nat, K < 59 → i < jm_cnt K → jm_at G h K i H) ∧ (∀ q : Nat, q < jm_bs G → H[q]? = G.2.2.2[q]?) ∧ (∀ K i j : Nat, (jm_ft K j).1 = 2 → i < jm_cnt K → h.2.1 K i j < jm_cnt (jm_ft K j).2.1)
/-- things lie apart, and behind what was there at the law's entry -/
def jm_Amb (G : jm_G) : Prop :=
  (∀ K i K' i' : Nat, K < 59 → K' < 59 → i < jm_cnt K → i' < jm_cnt K' → G.1 K i = G.1 K' i' → K = K' ∧ i = i') ∧ ∀ K i : Nat, K < 59 → i < jm_cnt K → jm_bs G ≤ G.1 K i
/-- a nest mate's private method -/
def jm_nest : Cond := .methodLinkNest "FrameRound$Mode" 50 ⟨"FrameRound", "commonDivisor", "(II)I"⟩ "FrameRound"
/-- the signs of a text -/
def jm_str : Nat → List Nat := fun i => ([[109, 111, 100, 101], [116, 97, 115, 107], [102, 114, 97, 109, 101], [114, 101, 115, 101, 114, 118, 101], [112, 104, 97, 115, 101], [101, 118, 101, 114, 121], [99, 111, 115, 116, 115], [119, 105, 116, 104, 105, 110]] : List (List Nat)).getD i []
def jm_strl (i : Nat) : Nat := (jm_str i).length
def jm_stx : Nat → String := fun i => (["mode", "task", "frame", "reserve", "phase", "every", "costs", "within"] : List String).getD i ""
def jm_slens : List Nat := [4, 4, 5, 7, 5, 5, 5, 6]
def jm_sbyts : List (List Int32) := [[109, 111, 100, 101], [116, 97, 115, 107], [102, 114, 97, 109, 101], [114, 101, 115, 101, 114, 118, 101], [112, 104, 97, 115, 101], [101, 118, 101, 114, 121], [99, 111, 115, 116, 115], [119, 105, 116, 104, 105, 110]]
/-- which text a class's constant is -/
def jm_sref : List (String × Nat × Nat) := [("FrameRound$Reader", 101, 4), ("FrameRound$Reader", 103, 5), ("FrameRound$Reader", 115, 6), ("FrameRound$Reader", 121, 7), ("FrameRound$Reader", 47, 0), ("FrameRound$Reader", 57, 1), ("FrameRound$Reader", 83, 2), ("FrameRound$Reader", 92, 3), ("FrameRoundModel", 158, 2), ("FrameRoundModel", 163, 3), ("FrameRoundModel", 164, 4), ("FrameRoundModel", 165, 5), ("FrameRoundModel", 174, 6), ("FrameRoundModel", 176, 7), ("FrameRoundModel", 178, 0), ("FrameRoundModel", 183, 1)]
/-- words of the exception that no list keeps -/
def jm_x4 : List Cond := [.declares ⟨"java/lang/RuntimeException", "<init>", "()V"⟩, .declares ⟨"java/lang/Exception", "<init>", "()V"⟩, .declares ⟨"java/lang/Throwable", "<init>", "()V"⟩, .castable "java/util/NoSuchElementException" "java/util/NoSuchElementException"]
theorem jm_x4_warm {u U : State} (hW : u.WarmedH U.vm) (h : ∀ w ∈ jm_x4, va_Nw w u) : ∀ w ∈ jm_x4, va_Nw w U := by
  intro w hw
  have h0 := h w hw
  simp only [jm_x4, List.mem_cons, List.not_mem_nil, or_false] at hw
  rcases hw with rfl | rfl | rfl | rfl
  · exact va_Nw.warmD hW h0
  · exact va_Nw.warmD hW h0
  · exact va_Nw.warmD hW h0
  · exact va_Nw.warmC hW h0
theorem jm_x4_same {u U : State} (hv : u.vm = U.vm) (h : ∀ w ∈ jm_x4, va_Nw w u) : ∀ w ∈ jm_x4, va_Nw w U := by
  intro w hw
  have h0 := h w hw
  simp only [jm_x4, List.mem_cons, List.not_mem_nil, or_false] at hw
  rcases hw with rfl | rfl | rfl | rfl
  · exact va_Nw.same rfl hv h0
  · exact va_Nw.same rfl hv h0
  · exact va_Nw.same rfl hv h0
  · exact va_Nw.same rfl hv h0
/-- what else the tables say: a nest mate's private method; texts; two statics of the JDK; the exception's words and statics -/
def jm_X (G : jm_G) (U : State) : Prop :=
  va_Nw jm_nest U ∧ vk_S 8 jm_slens jm_sbyts (G.1 60) (G.1 61) (fun q => jm_bs G ≤ q) U G.2.2.2 ∧ (∀ q ∈ jm_sref, vk_R q.1 q.2.1 (jm_stx q.2.2) (G.1 60 q.2.2) U) ∧ va_Z "java/lang/String" "COMPACT_STRINGS" "Z" (.int 1) (fun q => jm_bs G ≤ q) U G.2.2.2 ∧ va_Zq "jdk/internal/util/Preconditions" "SIOOBE_FORMATTER" "Ljava/util/function/BiFunction;" (fun q => jm_bs G ≤ q) U G.2.2.2 ∧ (∀ w ∈ jm_x4, va_Nw w U) ∧ vx_Zq Bundle.tN "UNASSIGNED_STACK" Bundle.steD (fun q => jm_bs G ≤ q) U G.2.2.2 ∧ vx_Zq Bundle.tN "SUPPRESSED_SENTINEL" Bundle.listD (fun q => jm_bs G ≤ q) U G.2.2.2
theorem jm_X.warm {G : jm_G} {u U : State} (hW : u.WarmedH U.vm) (h : jm_X G u) : jm_X G U :=
  ⟨va_Nw.warmM hW h.1, h.2.1.moved hW.alike, fun q hq => vk_R.warm hW (h.2.2.1 q hq), h.2.2.2.1.moved hW.alike, h.2.2.2.2.1.moved hW.alike, jm_x4_warm hW h.2.2.2.2.2.1, h.2.2.2.2.2.2.1.moved hW.alike, h.2.2.2.2.2.2.2.moved hW.alike⟩
theorem jm_X.same {G : jm_G} {u U : State} (hvm : u.vm = U.vm) (h : jm_X G u) : jm_X G U :=
  ⟨va_Nw.same rfl hvm h.1, h.2.1.moved (hvm ▸ Vm.Alike.refl u.vm), fun q hq => vk_R.same hvm.symm (h.2.2.1 q hq), h.2.2.2.1.moved (hvm ▸ Vm.Alike.refl u.vm), h.2.2.2.2.1.moved (hvm ▸ Vm.Alike.refl u.vm), jm_x4_same hvm h.2.2.2.2.2.1, h.2.2.2.2.2.2.1.moved (hvm ▸ Vm.Alike.refl u.vm), h.2.2.2.2.2.2.2.moved (hvm ▸ Vm.Alike.refl u.vm)⟩
/-- what the tables say of classes -/
def jm_Env (G : jm_G) (U : State) : Prop :=
  (∀ (c : Nat) (q : vw_C), jm_cl[c]? = some q → u_Kn U q.1 q.2.1 q.2.2 (G.2.1.1 c) (G.2.1.2 c)) ∧ (∀ K : Nat, 9 < K → K < 59 → ArrOfT U (G.2.2.1 K) (jm_ety K)) ∧ jm_X G U
theorem jm_Env.warm {G : jm_G} {u U : State} (hW : u.WarmedH U.vm) (h : jm_Env G u) : jm_Env G U :=
  ⟨fun c q hq => u_Kn_moved hW.alike (h.1 c q hq), fun K h1 h2 => arrOfT_moved hW.alike (h.2.1 K h1 h2), h.2.2.warm hW⟩
theorem jm_Env.same {G : jm_G} {u U : State} (hvm : u.vm = U.vm) (h : jm_Env G u) : jm_Env G U :=
  ⟨fun c q hq => u_Kn_moved (hvm ▸ Vm.Alike.refl u.vm) (h.1 c q hq), fun K h1 h2 => arrOfT_moved (hvm ▸ Vm.Alike.refl u.vm) (h.2.1 K h1 h2), h.2.2.same hvm⟩
/-- the locals of the machine hold those of the small one -/
def jm_Lo (G : jm_G) (n : Nat) (ls : jm_L) (A : Array Slot) : Prop := ls.length = n ∧ A.size = n ∧ lv_wf A ∧ ∀ (i : Nat) (v : jm_V), ls[i]? = some (some v) → A[i]? = some (.val (jm_sh G v))
def jm_kl (ls : jm_L) (i : Nat) : jm_L := match i with
  | 0 => ls
  | j + 1 => match ls[j]? with
    | some (some w) => if jm_ct w = 2 then ls.set j none else ls
    | _ => ls
def jm_s1 (ls : jm_L) (i : Nat) (v : jm_V) : jm_L := (jm_kl ls i).set i (some v)
def jm_s2 (ls : jm_L) (i : Nat) (v : jm_V) : jm_L := ((jm_kl ls i).set i (some v)).set (i + 1) none
theorem jm_kl_len (ls : jm_L) (i : Nat) : (jm_kl ls i).length = ls.length := by
  unfold jm_kl
  split
  · rfl
  · split
    · split <;> simp
    · rfl
theorem jm_kl_get {ls : jm_L} {i j : Nat} {w : jm_V} (h : (jm_kl ls i)[j]? = some (some w)) : ls[j]? = some (some w) ∧ ¬ (j + 1 = i ∧ jm_ct w = 2) := by
  unfold jm_kl at h
  split at h
  · exact ⟨h, by omega⟩
  · rename_i j'
    split at h
    · rename_i w' hw'
      split at h
      · rename_i hc
        by_cases e : j = j'
        · subst e
          by_cases hl : j < ls.length
          · rw [List.getElem?_set_self hl] at h
            cases h
          · rw [List.getElem?_eq_none (by simp; omega)] at h
            cases h
        · rw [List.getElem?_set_ne (fun q => e q.symm)] at h
          exact ⟨h, by omega⟩
      · rename_i hc
        refine ⟨h, fun q => hc ?_⟩
        have e : j = j' := by omega
        subst e
        rw [hw'] at h
        cases h
        exact q.2
    · rename_i hn
      refine ⟨h, fun q => ?_⟩
      have e : j = j' := by omega
      subst e
      exact hn w h
/-- the pairs that are held -/
def jm_prs (G : jm_G) (ls : jm_L) : List (Nat × Value) := (List.range ls.length).filterMap fun i => match ls[i]? with
  | some (some v) => some (i, jm_sh G v)
  | _ => none
theorem jm_prs_mem {G : jm_G} {ls : jm_L} {i : Nat} {v : jm_V} (h : ls[i]? = some (some v)) : (i, jm_sh G v) ∈ jm_prs G ls := by
  refine List.mem_filterMap.mpr ⟨i, List.mem_range.mpr ?_, by rw [h]⟩
  exact (List.getElem?_eq_some_iff.mp h).1
theorem jm_prs_of {G : jm_G} {ls : jm_L} {q : Nat × Value} (h : q ∈ jm_prs G ls) : ∃ v : jm_V, ls[q.1]? = some (some v) ∧ q.2 = jm_sh G v := by
  obtain ⟨i, -, hi⟩ := List.mem_filterMap.mp h
  split at hi
  · rename_i v hv
    cases hi
    exact ⟨v, hv, rfl⟩
  · cases hi
theorem jm_Lo.has {G : jm_G} {n : Nat} {ls : jm_L} {A : Array Slot} (h : jm_Lo G n ls A) : lv_has A n (jm_prs G ls) := by
  refine ⟨h.2.1, h.2.2.1, fun q hq => ?_⟩
  obtain ⟨v, h1, h2⟩ := jm_prs_of hq
  rw [h2]
  exact h.2.2.2 _ _ h1
theorem jm_Lo.s1 {G : jm_G} {n i : Nat} {ls : jm_L} {A : Array Slot} {v : jm_V} (h : jm_Lo G n ls A) {w : Value} (hw : jm_sh G v = w) (A' : Array Slot) (h' : lv_has A' n ((i, w) :: (jm_prs G ls).filter (fun q => !(q.1 == i) && !(q.1 + 1 == i && q.2.category == 2)))) : jm_Lo G n (jm_s1 ls i v) A' := by
  subst hw
  refine ⟨by rw [jm_s1, List.length_set, jm_kl_len]; exact h.1, h'.1, h'.2.1, fun j u hj => ?_⟩
  by_cases e : j = i
  · subst e
    have hl : j < (jm_kl ls j).length := by
      have := (List.getElem?_eq_some_iff.mp hj).1
      simpa [jm_s1] using this
    rw [jm_s1, List.getElem?_set_self hl] at hj
    cases hj
    exact h'.2.2 (j, jm_sh G v) List.mem_cons_self
  · rw [jm_s1, List.getElem?_set_ne (fun q => e q.symm)] at hj
    obtain ⟨h1, h2⟩ := jm_kl_get hj
    refine h'.2.2 (j, jm_sh G u) (List.mem_cons_of_mem _ (List.mem_filter.mpr ⟨jm_prs_mem h1, ?_⟩))
    simp only [jm_sh_cat, Bool.and_eq_true, Bool.not_eq_true', beq_eq_false_iff_ne, ne_eq, Bool.and_eq_false_iff]
    refine ⟨e, ?_⟩
    by_cases e2 : j + 1 = i
    · exact Or.inr (fun q => h2 ⟨e2, q⟩)
    · exact Or.inl e2
theorem jm_Lo.s2 {G : jm_G} {n i : Nat} {ls : jm_L} {A : Array Slot} {v : jm_V} (h : jm_Lo G n ls A) {w : Value} (hw : jm_sh G v = w) (A' : Array Slot) (h' : lv_has A' n ((i, w) :: (jm_prs G ls).filter (fun q => !(q.1 == i) && (!(q.1 == i + 1) && !(q.1 + 1 == i && q.2.category == 2))))) : jm_Lo G n (jm_s2 ls i v) A' := by
  subst hw
  refine ⟨by rw [jm_s2, List.length_set, List.length_set, jm_kl_len]; exact h.1, h'.1, h'.2.1, fun j u hj => ?_⟩
  by_cases e0 : j = i + 1
  · subst e0
    have hl : i + 1 < ((jm_kl ls i).set i (some v)).length := by
      have := (List.getElem?_eq_some_iff.mp hj).1
      simpa [jm_s2] using this
    rw [jm_s2, List.getElem?_set_self hl] at hj
    cases hj
  · rw [jm_s2, List.getElem?_set_ne (fun q => e0 q.symm)] at hj
    by_cases e : j = i
    · subst e
      have hl : j < (jm_kl ls j).length := by
        have := (List.getElem?_eq_some_iff.mp hj).1
        simpa using this
      rw [List.getElem?_set_self hl] at hj
      cases hj
      exact h'.2.2 (j, jm_sh G v) List.mem_cons_self
    · rw [List.getElem?_set_ne (fun q => e q.symm)] at hj
      obtain ⟨h1, h2⟩ := jm_kl_get hj
      refine h'.2.2 (j, jm_sh G u) (List.mem_cons_of_mem _ (List.mem_filter.mpr ⟨jm_prs_mem h1, ?_⟩))
      simp only [jm_sh_cat, Bool.and_eq_true, Bool.not_eq_true', beq_eq_false_iff_ne, ne_eq, Bool.and_eq_false_iff]
      refine ⟨e, e0, ?_⟩
      by_cases e2 : j + 1 = i
      · exact Or.inr (fun q => h2 ⟨e2, q⟩)
      · exact Or.inl e2
theorem jm_okL_s1 {ls : jm_L} {i : Nat} {v : jm_V} (h : jm_okL ls) (hv : jm_ok v) : jm_okL (jm_s1 ls i v) := by
  intro j u hj
  by_cases e : j = i
  · subst e
    have hl : j < (jm_kl ls j).length := by
      have := (List.getElem?_eq_some_iff.mp hj).1
      simpa [jm_s1] using this
    rw [jm_s1, List.getElem?_set_self hl] at hj
    cases hj
    exact hv
  · rw [jm_s1, List.getElem?_set_ne (fun q => e q.symm)] at hj
    exact h j u (jm_kl_get hj).1
theorem jm_okL_s2 {ls : jm_L} {i : Nat} {v : jm_V} (h : jm_okL ls) (hv : jm_ok v) : jm_okL (jm_s2 ls i v) := by
  intro j u hj
  by_cases e0 : j = i + 1
  · subst e0
    have hl : i + 1 < ((jm_kl ls i).set i (some v)).length := by
      have := (List.getElem?_eq_some_iff.mp hj).1
      simpa [jm_s2] using this
    rw [jm_s2, List.getElem?_set_self hl] at hj
    cases hj
  · rw [jm_s2, List.getElem?_set_ne (fun q => e0 q.symm)] at hj
    exact jm_okL_s1 h hv j u hj
/-- the words that every method is given -/
def jm_T : List Cond := lw_tbl.filter goodWord
/-- what holds all through a method's body -/
def jm_Cx (G : jm_G) (y : jm_M) (p : Program) (R : Room) (s : State) (m : MethodId) (args : Array Value) (c : Code) (cells slots : Nat) : Prop :=
  p.tables.exec = Jvm.exec ∧ c.code = jm_by y ∧ c.maxLocals = jm_mx y ∧ s.vm.findClass (jm_nm y).cls = some m.cls ∧ (∀ w ∈ jm_T, w.before args s = true) ∧ jm_Env G s ∧ jm_Amb G ∧ jm_fr y ≤ R.frames ∧ jm_lo y ≤ R.locals ∧ cells ≤ R.cells ∧ slots ≤ R.slots ∧ ∀ q : Nat, q < jm_bs G → s.heap[q]? = G.2.2.2[q]?
def jm_W (G : jm_G) (y : jm_M) (p : Program) (l : Launch) (e : Env) (R : Room) (s : State) (m : MethodId) (args : Array Value) (below : List Frame) (meth : Method) (c : Code) (cells slots : Nat) (Q : State → Prop) (k : Nat) (ls : jm_L) (st : List jm_V) (h : jm_H) : Prop :=
  jm_okS st → jm_okL ls → ∀ (H : Heap) (locs : List Loc) (A : Array Slot), jm_Rel G h H → va_S (fun q => jm_bs G ≤ q) s.heap H locs → jm_Lo G (jm_mx y) ls A → W p l e R s m args below meth c H locs cells slots Q (F0 m (jm_pc y k) A (st.map (jm_sh G)))
/-- an instruction that goes on is sound -/
def jm_SN (y : jm_M) (k : Nat) (f : Nat → jm_L → List jm_V → jm_H → Option jm_S) : Prop :=
  ∀ (G : jm_G) (p : Program) (l : Launch) (e : Env) (R : Room) (s : State) (m : MethodId) (args : Array Value) (below : List Frame) (meth : Method) (c : Code) (cells slots : Nat) (Q : State → Prop), jm_Cx G y p R s m args c cells slots →
    ∀ (ls : jm_L) (st : List jm_V) (h : jm_H) (k' : Nat) (ls' : jm_L) (st' : List jm_V) (h' : jm_H), f (k + 1) ls st h = some (k', ls', st', h') → jm_W G y p l e R s m args below meth c cells slots Q k' ls' st' h' → jm_W G y p l e R s m args below meth c cells slots Q k ls st h
