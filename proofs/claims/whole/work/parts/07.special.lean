/-! ===== arraycopy, bits of doubles and floats, a nest mate's static method, lookupswitch ===== -/
section JMX
variable {y : jm_M} {k : Nat}
/-- the whole of an int array onto another of its length -/
def jm_cp (h : jm_H) (K i K' i' : Nat) : jm_H := (fun a b c => if a = K' ∧ b = i' ∧ c < jm_ln K' then h.1 K i c else h.1 a b c, h.2)
def jm_acopy : jm_F := fun k ls st h => match st with
  | .inl (.int n) :: .inl (.int dp) :: .inr q' :: .inl (.int sp) :: .inr q :: r => if (jm_el q.1).1 = 0 ∧ (jm_el q'.1).1 = 0 ∧ sp = 0 ∧ dp = 0 ∧ jm_ln q.1 = jm_ln q'.1 ∧ n.toInt = jm_ln q.1 ∧ (r.map jm_ct).sum ≤ 8 then some (k, ls, r, jm_cp h q.1 q.2 q'.1 q'.2) else none
  | _ => none
theorem jm_copyW {p : Program} {l : Launch} {e : Env} {R : Room} {s : State} {m : MethodId} {args : Array Value} {below : List Frame} {meth : Method} {c : Code} {cells slots : Nat} {Q : State → Prop} {H : Heap} {locs : List Loc} {ls : Array Slot} {rest : List Value} {pc : Nat} {cc : ByteArray} (hexec : p.tables.exec = Jvm.exec) (hb : c.code = cc) (hml : c.maxLocals = ls.size) {own : String} {index : Nat} (hown : s.vm.findClass own = some m.cls) (hlink : (Cond.methodLink own index arraycopyName).before args s = true) (hnat : (Cond.native arraycopyName).before args s = true) (hstat : (Cond.static arraycopyName).before args s = true) (hini : (Cond.initialized "java/lang/System").before args s = true)
    {a a0 : Nat} {c0 c1 : ClassId} {n0 n1 : Nat} {f g : Nat → Int32} (hc0 : H[a0]? = some (vp_cell c0 (n0, .inl f))) (hc1 : H[a]? = some (vp_cell c1 (n1, .inl g))) (ht0 : ArrOfT s c0 .int) (ht1 : ArrOfT s c1 .int)
    {sp dp n : Int32} (h1 : ¬ sp < 0) (h2 : ¬ dp < 0) (h3 : ¬ n < 0) (h4 : sp.toNatClampNeg + n.toNatClampNeg ≤ n0) (h5 : dp.toNatClampNeg + n.toNatClampNeg ≤ n1)
    (hframes : 1 ≤ R.frames) (hlocals : (rest.map fun v => v.category).sum + (nativeFrameWords "java/lang/System" "arraycopy" 5 + 11) ≤ R.locals) (hdg : decode cc pc = .ok (.invokestatic index, 3))
    (kk : ∀ (H1 : Heap) (L : List Loc), (∀ q ∈ L, q.base = a) → H1[a]? = some (vp_cell c1 (n1, .inl (va_cpy f g sp.toNatClampNeg dp.toNatClampNeg n.toNatClampNeg))) → H1.size = H.size → (∀ q : Nat, q ≠ a → H1[q]? = H[q]?) → W p l e R s m args below meth c H1 (locs ++ L) cells slots Q (F0 m (pc + 3) ls rest)) : W p l e R s m args below meth c H locs cells slots Q (F0 m pc ls (.int n :: .int dp :: .ref a :: .int sp :: .ref a0 :: rest)) := by
  have nn : ∀ z : Int32, ¬ z < 0 → z.toInt = (z.toNatClampNeg : Int) := by
    intro z hz
    have hz0 : (0 : Int) ≤ z.toInt := by
      have := Int32.not_lt.mp hz
      simpa using Int32.le_iff_toInt_le.mp this
    show z.toInt = ((z.toInt.toNat : Nat) : Int)
    omega
  intro T hT X
  obtain ⟨-, k0, hk0, cm0, hkk0⟩ := ht0 n0 (fun j => .int (f j))
  obtain ⟨-, k1, hk1, cm1, hkk1⟩ := ht1 n1 (fun j => .int (g j))
  obtain ⟨vm', X', step⟩ := X.arraycopy hexec hown hlink hnat hstat hini (src := a0) (dst := a) (cs := vp_cell c0 (n0, .inl f)) (cd := vp_cell c1 (n1, .inl g)) (srcPos := sp) (destPos := dp) (n := n) (by rw [hT]; exact hc0) (by rw [hT]; exact hc1)
    (fun _ h => by cases h) (fun _ h => by cases h) (fun h => by cases h) (fun h => by cases h) hk0 hk1 hkk0 hkk1 (by decide) h1 h2 h3
    (by rw [nn sp h1, nn n h3]; show ¬ _ > ((arrV c0 n0 (fun j => .int (f j))).slots.size : Int); rw [arrV_size]; omega)
    (by rw [nn dp h2, nn n h3]; show ¬ _ > ((arrV c1 n1 (fun j => .int (g j))).slots.size : Int); rw [arrV_size]; omega)
    (fun vm₁ _ i hi => by
      have e : (vp_cell c0 (n0, .inl f)).slots.getD (sp.toNatClampNeg + i) .null = .int (f (sp.toNatClampNeg + i)) := by
        show (arrV c0 n0 (fun j => .int (f j))).slots.getD _ _ = _
        rw [Array.getD_eq_getD_getElem?, arrV_read _ _ (by omega)]
        rfl
      refine ⟨?_, ?_⟩
      · rw [e]
        rfl
      · rw [e]
        exact trivial)
    (g := F0 m pc ls (.int n :: .int dp :: .ref a :: .int sp :: .ref a0 :: rest)) rfl (by rw [hml]) (rest := rest) rfl (by rw [hb]; exact hdg) hframes (by show 2 * 0 + _ + _ ≤ _; omega)
  have e1 : copied (vp_cell c0 (n0, .inl f)) (vp_cell c1 (n1, .inl g)) sp dp n = vp_cell c1 (n1, .inl (va_cpy f g sp.toNatClampNeg dp.toNatClampNeg n.toNatClampNeg)) := va_copied (fun z => .int z) c0 c1 f g h4
  rw [e1] at X' step
  have hl : a < H.size := (Array.getElem?_eq_some_iff.mp hc1).1
  have hheap : ((T.setVm vm').setCell a (vp_cell c1 (n1, .inl (va_cpy f g sp.toNatClampNeg dp.toNatClampNeg n.toNatClampNeg)))).heap = H.setIfInBounds a (vp_cell c1 (n1, .inl (va_cpy f g sp.toNatClampNeg dp.toNatClampNeg n.toNatClampNeg))) := by rw [← hT]; rfl
  have oq : ∀ q : Nat, q ≠ a → (H.setIfInBounds a (vp_cell c1 (n1, .inl (va_cpy f g sp.toNatClampNeg dp.toNatClampNeg n.toNatClampNeg))))[q]? = H[q]? := fun q hq => by simp [Array.getElem?_setIfInBounds, Ne.symm hq]
  obtain ⟨t, a1, b1⟩ := kk _ _ (fun q hq => by
      obtain ⟨z, -, hz⟩ := List.mem_map.mp hq
      rw [← hz]) (by simp [Array.getElem?_setIfInBounds, hl]) (by simp) oq _ hheap X'
  exact ⟨t, step t a1, b1⟩
theorem jm_n_acopy {n : Nat} (hf1 : 1 ≤ jm_fr y) (hl1 : 40 ≤ jm_lo y) (hl : Cond.methodLink (jm_nm y).cls n arraycopyName ∈ jm_T) (hna : Cond.native arraycopyName ∈ jm_T) (hs1 : Cond.static arraycopyName ∈ jm_T) (hi : Cond.initialized "java/lang/System" ∈ jm_T) (hd : decode (jm_by y) (jm_pc y k) = .ok (.invokestatic n, 3)) (hp : jm_pc y (k + 1) = jm_pc y k + 3) : jm_SN y k jm_acopy := by
  intro G p l e R s m args below meth c cells slots Q C ls st h k' ls' st' h' hf hW
  obtain ⟨hx, hb, hml, hown, hts, hE, hAm, hfr, hlo, hce, hsl, hZ⟩ := C
  unfold jm_acopy at hf
  split at hf
  · rename_i n dp q' sp q r
    obtain ⟨K, i⟩ := q
    obtain ⟨K', i'⟩ := q'
    split at hf
    · rename_i e1
      obtain ⟨e1, e2, e3, e4, e5, e6, e7⟩ := e1
      dsimp only at e1 e2 e5 e6
      subst e3
      subst e4
      cases hf
      intro ok okL H locs A hR hS hL
      have hK := jm_el_K (K := K) (by omega)
      have hK' := jm_el_K (K := K') (by omega)
      have oi : i < jm_cnt K := ok.2.2.2.2.1
      have oi' : i' < jm_cnt K' := ok.2.2.1
      have hv : ∀ (K i : Nat), (jm_el K).1 = 0 → jm_av G h K i = fun j => .int (h.1 K i j) := fun K i e => by
        funext j
        unfold jm_av
        rw [e]
        rfl
      have hn : n.toNatClampNeg = jm_ln K := by
        show n.toInt.toNat = _
        omega
      have c0 := hR.arr (K := K) (i := i) (by omega) oi
      have c1 := hR.arr (K := K') (i := i') (by omega) oi'
      rw [hv K i e1] at c0
      rw [hv K' i' e2] at c1
      have t0 := hE.2.1 K hK.1 hK.2
      have t1 := hE.2.1 K' hK'.1 hK'.2
      rw [jm_ety0 K hK.2 e1] at t0
      rw [jm_ety0 K' hK'.2 e2] at t1
      refine jm_copyW (c0 := G.2.2.1 K) (c1 := G.2.2.1 K') (n0 := jm_ln K) (n1 := jm_ln K') (f := h.1 K i) (g := h.1 K' i') hx hb (by rw [hml, hL.2.1]) hown (hts _ hl) (hts _ hna) (hts _ hs1) (hts _ hi) c0 c1 t0 t1 (by decide) (by decide) (by rw [Int32.lt_iff_toInt_lt, Int32.toInt_zero]; omega) (by rw [hn]; show 0 + _ ≤ _; omega) (by rw [hn]; show 0 + _ ≤ _; omega) (by omega) (by rw [jm_map_cat]; have hw : nativeFrameWords "java/lang/System" "arraycopy" 5 ≤ 21 := (by decide); omega) hd (fun H1 L hL1 g1 g2 g3 => ?_)
      have hR1 : jm_Rel G (jm_cp h K i K' i') H1 := by
        refine hR.put hAm hK'.2 oi' g3 ?_ (fun K2 i2 _ _ e => ?_) hR.2.2
        · unfold jm_at
          rw [if_neg (by omega), g1]
          rw [vp_cell_i]
          congr 2
          funext j
          have : jm_av G (jm_cp h K i K' i') K' i' j = .int ((jm_cp h K i K' i').1 K' i' j) := by
            unfold jm_av
            rw [e2]
            rfl
          rw [this, hn]
          show Value.int _ = Value.int _
          congr 1
          show va_cpy _ _ 0 0 _ j = if K' = K' ∧ i' = i' ∧ j < jm_ln K' then h.1 K i j else h.1 K' i' j
          unfold va_cpy
          rw [e5]
          simp
        · have h1 : ∀ j', (jm_cp h K i K' i').1 K2 i2 j' = h.1 K2 i2 j' := fun j' => if_neg (fun q => e ⟨q.1, q.2.1⟩)
          refine ⟨fun j' => ?_, fun j' => ?_⟩
          · unfold jm_fv
            rw [h1]
            rfl
          · unfold jm_av
            rw [h1]
            rfl
      have hS1 : va_S (fun q => jm_bs G ≤ q) s.heap H1 (locs ++ L) := by
        refine ⟨by rw [g2]; exact hS.1, fun q q1 q2 => ?_, fun q hq => ?_⟩
        · rw [g3 q (fun e => q2 (by rw [e]; exact hAm.2 K' i' hK'.2 oi'))]
          exact hS.2.1 q q1 q2
        · rcases List.mem_append.mp hq with h1 | h1
          · exact hS.2.2 q h1
          · rw [hL1 q h1]
            exact hAm.2 K' i' hK'.2 oi'
      have := hW ok.2.2.2.2.2 okL H1 _ A hR1 hS1 hL
      rw [hp] at this
      exact this
    · cases hf
  · cases hf
def jm_d2raw : jm_F := fun k ls st h => match st with
  | .inl (.double b) :: r => if (r.map jm_ct).sum ≤ 8 then some (k, ls, .inl (.long b.toInt64) :: r, h) else none
  | _ => none
theorem jm_n_d2raw {n : Nat} (hf1 : 1 ≤ jm_fr y) (hl1 : 40 ≤ jm_lo y) (hl : Cond.methodLink (jm_nm y).cls n ⟨"java/lang/Double", "doubleToRawLongBits", "(D)J"⟩ ∈ jm_T) (hna : Cond.native ⟨"java/lang/Double", "doubleToRawLongBits", "(D)J"⟩ ∈ jm_T) (hs1 : Cond.static ⟨"java/lang/Double", "doubleToRawLongBits", "(D)J"⟩ ∈ jm_T) (hi : Cond.initialized "java/lang/Double" ∈ jm_T) (hd : decode (jm_by y) (jm_pc y k) = .ok (.invokestatic n, 3)) (hp : jm_pc y (k + 1) = jm_pc y k + 3) : jm_SN y k jm_d2raw := by
  intro G p l e R s m args below meth c cells slots Q C ls st h k' ls' st' h' hf hW
  obtain ⟨hx, hb, hml, hown, hts, hE, hAm, hfr, hlo, hce, hsl, hZ⟩ := C
  unfold jm_d2raw at hf
  split at hf
  · split at hf
    · cases hf
      intro ok okL H locs A hR hS hL
      refine vn_d2l hx hb (by rw [hml, hL.2.1]) hown (hts _ hl) (hts _ hna) (hts _ hs1) (hts _ hi) (by omega) (by rw [jm_map_cat]; omega) hd ?_
      have := hW ⟨trivial, ok.2⟩ okL H locs A hR hS hL
      rw [hp] at this
      exact this
    · cases hf
  · cases hf
def jm_f2raw : jm_F := fun k ls st h => match st with
  | .inl (.float b) :: r => if (r.map jm_ct).sum ≤ 8 then some (k, ls, .inl (.int b.toInt32) :: r, h) else none
  | _ => none
theorem jm_n_f2raw {n : Nat} (hf1 : 1 ≤ jm_fr y) (hl1 : 40 ≤ jm_lo y) (hl : Cond.methodLink (jm_nm y).cls n ⟨"java/lang/Float", "floatToRawIntBits", "(F)I"⟩ ∈ jm_T) (hna : Cond.native ⟨"java/lang/Float", "floatToRawIntBits", "(F)I"⟩ ∈ jm_T) (hs1 : Cond.static ⟨"java/lang/Float", "floatToRawIntBits", "(F)I"⟩ ∈ jm_T) (hi : Cond.initialized "java/lang/Float" ∈ jm_T) (hd : decode (jm_by y) (jm_pc y k) = .ok (.invokestatic n, 3)) (hp : jm_pc y (k + 1) = jm_pc y k + 3) : jm_SN y k jm_f2raw := by
  intro G p l e R s m args below meth c cells slots Q C ls st h k' ls' st' h' hf hW
  obtain ⟨hx, hb, hml, hown, hts, hE, hAm, hfr, hlo, hce, hsl, hZ⟩ := C
  unfold jm_f2raw at hf
  split at hf
  · split at hf
    · cases hf
      intro ok okL H locs A hR hS hL
      refine vn_f2i hx hb (by rw [hml, hL.2.1]) hown (hts _ hl) (hts _ hna) (hts _ hs1) (hts _ hi) (by omega) (by rw [jm_map_cat]; omega) hd ?_
      have := hW ⟨trivial, ok.2⟩ okL H locs A hR hS hL
      rw [hp] at this
      exact this
    · cases hf
  · cases hf
def jm_fcmp (op : CmpOp) : jm_F := fun k ls st h => match st with
  | .inl (.float b) :: .inl (.float a) :: r => some (k, ls, .inl (.int (Op.cmpValue (FP.fcmp a b) op)) :: r, h)
  | _ => none
theorem jm_n_fcmp {op : CmpOp} (hd : decode (jm_by y) (jm_pc y k) = .ok (.fcmp op, 1)) (hp : jm_pc y (k + 1) = jm_pc y k + 1) : jm_SN y k (jm_fcmp op) := by
  intro G p l e R s m args below meth c cells slots Q C ls st h k' ls' st' h' hf hW
  obtain ⟨hx, hb, hml, hown, hts, hE, hAm, hfr, hlo, hce, hsl, hZ⟩ := C
  unfold jm_fcmp at hf
  split at hf
  · cases hf
    intro ok okL H locs A hR hS hL
    refine lv_fcmp hx hb hd ?_
    have := hW ⟨trivial, ok.2.2⟩ okL H locs A hR hS hL
    rw [hp] at this
    exact this
  · cases hf
theorem jm_n_fload_n {i : Nat} {n : Fin 4} (hn : (n : Nat) = i) (hd : decode (jm_by y) (jm_pc y k) = .ok (.fload_n n, 1)) (hp : jm_pc y (k + 1) = jm_pc y k + 1) : jm_SN y k (jm_fload i) := by
  intro G p l e R s m args below meth c cells slots Q C ls st h k' ls' st' h' hf hW
  obtain ⟨hx, hb, hml, hown, hts, hE, hAm, hfr, hlo, hce, hsl, hZ⟩ := C
  unfold jm_fload at hf
  split at hf
  · cases hf
    intro ok okL H locs A hR hS hL
    have hq := hL.2.2.2 _ _ (by assumption)
    refine lv_fload_n hx hb hd hn hq ?_
    have := hW ⟨trivial, ok⟩ okL H locs A hR hS hL
    rw [hp] at this
    exact this
  · cases hf
/-- what can't be told -/
def jm_stuck : jm_F := fun _ _ _ _ => none
theorem jm_n_stuck : jm_SN y k jm_stuck := by
  intro G p l e R s m args below meth c cells slots Q C ls st h k' ls' st' h' hf hW
  cases hf
theorem jm_n_lsw {dflt : Int} {ps : Array (Int × Int)} {len : Nat} {qs : List (Int × Nat)} {t : Nat} (hq : ps.toList = qs.map (fun q => (q.1, (jm_pc y q.2 : Int) - (jm_pc y k : Int)))) (hord : (ps.toList.zip (ps.toList.drop 1)).all (fun (a, next) => a.1 < next.1) = true) (ht : (jm_pc y k : Int) + dflt = (jm_pc y t : Int)) (hd : decode (jm_by y) (jm_pc y k) = .ok (.lookupswitch dflt ps, len)) : jm_SN y k (jm_lsw qs t) := by
  intro G p l e R s m args below meth c cells slots Q C ls st h k' ls' st' h' hf hW
  obtain ⟨hx, hb, hml, hown, hts, hE, hAm, hfr, hlo, hce, hsl, hZ⟩ := C
  unfold jm_lsw at hf
  split at hf
  · rename_i a r
    cases hf
    intro ok okL H locs A hR hS hL
    have := hW ok.2 okL H locs A hR hS hL
    refine lv_lookup (off := (jm_pc y (jm_lsf a.toInt t qs) : Int) - (jm_pc y k : Int)) hx hb hd hord ?_ (by omega) this
    rw [hq]
    clear hq hord hd this hW
    induction qs with
    | nil => simp [Op.lookupswitch.offset, jm_lsf]; omega
    | cons q qs ih =>
      simp only [List.map_cons, Op.lookupswitch.offset, jm_lsf]
      by_cases e : q.1 = a.toInt
      · simp [e]
      · simp [e]
        exact ih
  · cases hf
def jm_lcmp : jm_F := fun k ls st h => match st with
  | .inl (.long b) :: .inl (.long a) :: r => some (k, ls, .inl (.int (lg_cmp a b)) :: r, h)
  | _ => none
theorem jm_n_lcmp (hd : decode (jm_by y) (jm_pc y k) = .ok (.lcmp, 1)) (hp : jm_pc y (k + 1) = jm_pc y k + 1) : jm_SN y k jm_lcmp := by
  intro G p l e R s m args below meth c cells slots Q C ls st h k' ls' st' h' hf hW
  obtain ⟨hx, hb, hml, hown, hts, hE, hAm, hfr, hlo, hce, hsl, hZ⟩ := C
  unfold jm_lcmp at hf
  split at hf
  · cases hf
    intro ok okL H locs A hR hS hL
    refine W.lcmp hx hb hd ?_
    have := hW ⟨trivial, ok.2.2⟩ okL H locs A hR hS hL
    rw [hp] at this
    exact this
  · cases hf
/-- a nest mate's private static method -/
theorem jm_c_nest {hd : jm_Hd} {n idx : Nat} {host : String} (hcode : Cond.code hd.1.1 hd.1.2.1 hd.1.2.2.1 hd.1.2.2.2 ∈ jm_T) (hini : Cond.initialized hd.1.1.cls ∈ jm_T) (hl : jm_nest = Cond.methodLinkNest (jm_nm y).cls idx hd.1.1 host) (hst0 : Cond.static hd.1.1 ∈ jm_T)
    (hd0 : hd.1.1.cls ≠ "java/lang/invoke/MethodHandle" ∧ hd.1.1.cls ≠ "java/lang/invoke/VarHandle" ∧ (parseMethodDescriptor hd.1.1.desc).map (fun d => d.parameters.length) = some n) (hRm : hd.2.1 + 1 ≤ jm_fr y ∧ 8 + (hd.1.2.2.1 + 11) + hd.2.2 ≤ jm_lo y) (hdc : decode (jm_by y) (jm_pc y k) = .ok (.invokestatic idx, 3)) (hp : jm_pc y (k + 1) = jm_pc y k + 3) : jm_SC hd y k n 0 := by
  intro G p l e R s m args below meth c cells slots Q C ls st h r hn hcat _ hok hM hW
  obtain ⟨hx, hb, hml, hown, hts, hE, hAm, hfr, hlo, hce, hsl, hZ⟩ := C
  intro ok okL H locs A hR hS hL
  obtain ⟨o1, o2⟩ := jm_okS_take n ok
  have hnw : va_Nw (.methodLinkNest (jm_nm y).cls idx hd.1.1 host) s := hl ▸ hE.2.2.1
  have cb : va_CN R s args (jm_nm y).cls idx hd.1.1 host hd.1.2.1 hd.1.2.2.1 hd.1.2.2.2 (Cond.code hd.1.1 hd.1.2.1 hd.1.2.2.1 hd.1.2.2.2 :: jm_T) { frames := hd.2.1, cells := 0, slots := 0, locals := hd.2.2 } 0 0 n :=
    va_cnB n hts (jm_good hcode) rfl rfl rfl hnw (hts _ hini) hd0 ⟨by have := hRm.1; show hd.2.1 + 1 ≤ _; omega, by have := hRm.2; show 8 + _ + hd.2.2 ≤ _; omega⟩
  have hlen : ((st.take n).reverse.map (jm_sh G)).length = n := by simp; omega
  have run := va_runSN (l := l) (e := e) (below := below) (meth := meth) (H := H) (locs := locs) (cells := cells) (slots := slots) (nL := jm_mx y) (rest := (st.drop n).map (jm_sh G)) (g := F0 m (jm_pc y k) A (st.map (jm_sh G))) (As := (st.take n).reverse.map (jm_sh G)) ⟨hx, hb, hml, hown, hts⟩ (hM o1) ⟨cb, hts _ hst0, trivial⟩
    ⟨jm_blind G _ h, fun U hU hW => ⟨rfl, by rw [hU]; exact hR, hE.warm hW⟩⟩ rfl hlen hL.2.1 (jm_split G st n) (lv_room (m := m) (pc := 0) (ls := A) (rest := []) (by rw [jm_map_cat]; exact hcat)) hdc ⟨by omega, by omega⟩
  have run2 : CallRun p l e R s m args below meth c H locs cells slots 0 0 (F0 m (jm_pc y k) A (st.map (jm_sh G))) ((st.drop n).map (jm_sh G)) (jm_Qc G r ((st.take n).reverse.map (jm_sh G)).toArray) (fun q => jm_bs G ≤ q) := by
    intro T hT X
    obtain ⟨v, st₀, t, T', L, h1, h2, h3, h4, -, h6, h7⟩ := run T hT X
    exact ⟨v, st₀, t, T', L, h1, h2, h3, h4, h6, h7⟩
  refine jm_back run2 hR hS (fun H1 locs1 hR1 hS1 => ?_)
  have := hW (jm_okO_app hok o2) okL H1 locs1 A hR1 hS1 hL
  rw [hp, ← jm_opt] at this
  exact this
end JMX
