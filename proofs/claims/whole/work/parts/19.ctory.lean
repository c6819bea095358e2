section JN4
variable {p : Program} {l : Launch} {e : Env} {R : Room} {s : State} {m : MethodId} {args : Array Value} {below : List Frame} {meth : Method} {c : Code} {H : Heap} {locs : List Loc} {cells slots : Nat} {Q : State → Prop}
variable {cc : ByteArray} {pc : Nat} {ls : Array Slot} {rest : List Value} {D : va_G} {aT : Nat → ClassId} {o : Nat} {es : List va_E} {own : String}
/-- new, dup, the constructor -/
theorem jn_sub (hx : p.tables.exec = Jvm.exec) (hb : c.code = cc) (hml : c.maxLocals = ls.size) (hown : s.vm.findClass own = some m.cls) (hts : ∀ w ∈ jm_T, w.before args s = true) (hE : jn_Env D aT s) (hB : jn_B D o es H) (hS : va_S (fun q => o ≤ q) s.heap H locs) {n : Nat} (hn : es.length = n) {ci i1 N : Nat} {C : String} {T : u_T} {fs : List Value} (hc : jm_cl[ci]? = some (C, T, N)) (ty : Nat → FieldType) (hty : ∀ k, k < N → parseFieldDescriptor (T k).2.2.1 = some (ty k)) (hcl : Cond.classLink own i1 C ∈ jm_T) (hinst : Cond.instantiable C N ∈ jm_T) (hini : Cond.initialized C ∈ jm_T) (hfs : ∀ j, j < N → defaultValue (ty j) = vp_V fs j)
    {y : MethodName} {bytes : ByteArray} {maxL mc ms fr lo i2 : Nat} {es1 : Nat → List va_E} (h1 : 0 < (es1 (o + n)).length) (hM : ∀ o' : Nat, Met l y (Cond.code y bytes maxL none :: jm_T) { frames := fr, cells := mc, slots := ms, locals := lo } (jn_Pc D aT o' (.inr (ci, fs))) (jn_Qc D o' (es1 o')) mc ms (fun q => o' ≤ q)) (hcode : Cond.code y bytes maxL none ∈ jm_T) (hini2 : Cond.initialized y.cls ∈ jm_T) (hl : Cond.methodLink own i2 y ∈ jm_T) (hin : Cond.instanceMethod y ∈ jm_T) (hy : y.name = "<init>") (hd : y.cls ≠ "java/lang/invoke/MethodHandle" ∧ y.cls ≠ "java/lang/invoke/VarHandle" ∧ (parseMethodDescriptor y.desc).map (fun d => d.parameters.length) = some 0) (hRm : fr + 1 ≤ R.frames ∧ 8 + (maxL + 11) + lo ≤ R.locals) (hst : (rest.map fun v => v.category).sum + 1 ≤ 8) (hf : cells + 1 + mc ≤ R.cells ∧ slots + N + ms ≤ R.slots)
    (d1 : decode cc pc = .ok (.new i1, 3)) (d2 : decode cc (pc + 3) = .ok (.dup, 1)) (d3 : decode cc (pc + 3 + 1) = .ok (.invokespecial i2, 3))
    (kk : ∀ (H1 : Heap) (locs1 : List Loc), jn_B D o (es ++ es1 (o + n)) H1 → va_S (fun q => o ≤ q) s.heap H1 locs1 → W p l e R s m args below meth c H1 locs1 (cells + 1 + mc) (slots + N + ms) Q (F0 m (pc + 3 + 1 + 3) ls (.ref (o + n) :: rest))) : W p l e R s m args below meth c H locs cells slots Q (F0 m pc ls rest) := by
  subst hn
  refine jn_new hx hb hown hts hE hB hS hc ty hty hcl hinst hini hfs (by omega) (by omega) d1 (fun H1 hB1 hS1 => ?_)
  refine lv_dup hx hb d2 rfl ?_
  exact jn_call hx hb hml hown hts hE h1 hB1 hS1 (hM _) hcode hini2 hl hin hy hd hRm (by simp [Value.category]; simp [Value.category] at hst; omega) hf d3 kk
/-- a reference into an array that lies among others -/
theorem jn_astS (hx : p.tables.exec = Jvm.exec) (hb : c.code = cc) (hE : jn_Env D aT s) {pre S : List va_E} {t n : Nat} {f : Nat → Option Nat} (hB : jn_B D o (pre ++ .inl (aT t, n, .inr (.inr (.inr (.inr f)))) :: S) H) (hS : va_S (fun q => o ≤ q) s.heap H locs) {ka kv ci : Nat} (hka : pre.length = ka) {r : vw_C} {vs : List Value} (hover : va_AO r.1 s) (hfc : s.vm.findClass ("[" ++ (FieldType.object r.1).toString) = some (aT t)) (hv : va_at D jm_cl (o + kv, .inr (ci, vs)) H) (hc : jm_cl[ci]? = some r) {i : Int32} (hin : vp_in i n) (hdg : decode cc pc = .ok (.aastore, 1))
    (kk : ∀ (H1 : Heap) (locs1 : List Loc), jn_B D o (pre ++ .inl (aT t, n, .inr (.inr (.inr (.inr (va_up f i.toNatClampNeg (some (o + kv))))))) :: S) H1 → va_S (fun q => o ≤ q) s.heap H1 locs1 → W p l e R s m args below meth c H1 locs1 cells slots Q (F0 m (pc + 1) ls rest)) : W p l e R s m args below meth c H locs cells slots Q (F0 m pc ls (.ref (o + kv) :: .int i :: .ref (o + ka) :: rest)) := by
  subst hka
  have hlt : i.toNatClampNeg < n := Nat.not_le.mp fun q => hin (Or.inr q)
  have h0 : ¬ i < 0 := fun q => hin (Or.inl q)
  have ha : (pre ++ .inl (aT t, n, .inr (.inr (.inr (.inr f)))) :: S)[pre.length]? = some (.inl (aT t, n, .inr (.inr (.inr (.inr f))))) := by simp
  obtain ⟨r', hr', cellV, g1, g2, g3, -⟩ := hv
  have hcls := (hE.1 ci r hc).2
  obtain ⟨comp, cA, kA, k3, -, k1, k2, k4⟩ := Cond.arrayOver_spec (args := #[]) hover
  cases Option.some.inj (k4.symm.trans hfc)
  have hcomp : comp = D.1 ci := Option.some.inj (k3.symm.trans hcls.1)
  subst hcomp
  obtain ⟨kC, hkC, -⟩ := hcls.2
  refine W.aast hx hb (hB.2 pre.length _ ha) (fun q h => by cases h) (fun h => by cases h) k1 k2 rfl hkC ⟨h0, by show _ < (arrV _ _ _).slots.size; rw [arrV_size]; exact hlt⟩ g1 (fun q h => by rw [g3] at h; cases h) (by rw [g2]; exact hkC) (by rw [g2]; exact va_assign hcls) rfl rfl hdg fun H1 e z oq => ?_
  have hB1 := hB.set (e := .inl (aT t, n, .inr (.inr (.inr (.inr (va_up f i.toNatClampNeg (some (o + kv)))))))) ha z oq (by
    show H1[o + pre.length]? = some (vp_cell _ _)
    rw [e]
    rw [vp_cell_q, vp_cell_q, arrV_store]
    congr 2
    funext q
    by_cases hq : q = i.toNatClampNeg
    · subst hq
      simp [updV, va_up, va_rf]
    · simp [updV, va_up, hq])
  rw [List.set_append_right _ _ (Nat.le_refl _), Nat.sub_self, List.set_cons_zero] at hB1
  exact kk H1 _ hB1 (hS.put z oq (Nat.le_add_right _ _))
end JN4
theorem bl_Mode (aT : Nat → ClassId) (o : Nat) : (blk_Mode aT o).length = 7 := rfl
theorem bl_Flow (aT : Nat → ClassId) (o : Nat) : (blk_Flow aT o).length = 34 := rfl
theorem bl_Clock (aT : Nat → ClassId) (o : Nat) : (blk_Clock aT o).length = 3 := rfl
theorem bl_Supply (aT : Nat → ClassId) (o : Nat) : (blk_Supply aT o).length = 3 := rfl
theorem bl_Plan (aT : Nat → ClassId) (o : Nat) : (blk_Plan aT o).length = 23 := rfl
theorem bl_Table (aT : Nat → ClassId) (o : Nat) : (blk_Table aT o).length = 35 := rfl
theorem bl_Reader (aT : Nat → ClassId) (o : Nat) : (blk_Reader aT o).length = 25 := rfl
def blk_FR (aT : Nat → ClassId) (o : Nat) : List va_E := .inr (7, [.ref (o + 1), .ref (o + 26), .ref (o + 49), .ref (o + 155), .ref (o + 190), .ref (o + 193), .ref (o + 196), .int 0, .int 0, .int 0, .int (-1)]) :: (((((((blk_Reader aT (o + 1) ++ blk_Plan aT (o + 26)) ++ .inl (aT 4, 3, .inr (.inr (.inr (.inr (va_up (va_up (va_up (fun _ => none) 0 (some (o + 50))) 1 (some (o + 85))) 2 (some (o + 120))))))) :: ((([] ++ blk_Table aT (o + 50)) ++ blk_Table aT (o + 85)) ++ blk_Table aT (o + 120)))) ++ blk_Table aT (o + 155)) ++ blk_Supply aT (o + 190)) ++ blk_Clock aT (o + 193)) ++ blk_Clock aT (o + 196))
set_option maxHeartbeats 8000000 in
set_option maxRecDepth 100000 in
theorem jk_FR (l : Launch) (D : va_G) (aT : Nat → ClassId) (o : Nat) : Met l ⟨"FrameRound", "<init>", "()V"⟩ (Cond.code ⟨"FrameRound", "<init>", "()V"⟩ prog_1_method_1_code 2 none :: jm_T) { frames := 4, cells := 198, slots := 5318, locals := 73 } (jn_Pc D aT o (.inr (7, [.null, .null, .null, .null, .null, .null, .null, .int 0, .int 0, .int 0, .int 0]))) (jn_Qc D o (blk_FR aT o)) 198 5318 (fun q => o ≤ q) := by
  refine Met.ofW (cc := prog_1_method_1_code) (maxL := 2) (ret := none) (by decide) rfl ?_
  intro p e s m args below meth c s₁ B hml hv
  obtain ⟨rfl, hB, hE⟩ := hv
  have hx := B.exec
  have hb := B.bytes
  have hr := B.returns
  have hts := fun w (hw : w ∈ jm_T) => atoms_spec (ws := Cond.code ⟨"FrameRound", "<init>", "()V"⟩ prog_1_method_1_code 2 none :: jm_T) B.pre w (List.mem_cons_of_mem _ hw)
  have hown : s.vm.findClass "FrameRound" = some m.cls := findClass_of_methodNamed B.named
  have hlocks := B.notSynchronized
  have hin2 : meth.name = "<init>" := (name_of_methodNamed B.named B.method).1
  have hB0 := hB
  have hS : va_S (fun q => o ≤ q) s.heap s.heap [] := va_S.rf
  have hl := lv_entry ([.ref o]) (n := 2) (Nat.le_of_ble_eq_true rfl)
  show W p l e _ s m _ below meth c s.heap [] 0 0 _ (entryFrame m ([Value.ref o] : List Value).toArray 2)
  rw [lg_entry_eq]
  generalize (lg_sl ([.ref o]) ++ List.replicate (2 - (lg_sl ([.ref o])).length) Slot.unset).toArray = ls at hl ⊢
  refine lv_aload_n (i := 0) hx hb (k := 0) kd_FR_0 rfl (lv_at hl 0 rfl) ?_
  refine W.objInit hx hb hown (hts _ xw_30) (hts _ xw_31) (hts _ xw_obj) rfl (hl.1.trans hml.symm) rfl kd_FR_1 (Nat.le_of_ble_eq_true rfl) (Nat.le_of_ble_eq_true rfl) ?_
  refine lv_aload_n (i := 0) hx hb (k := 0) kd_FR_4 rfl (lv_at hl 0 rfl) ?_
  refine jn_sub hx hb (hml.trans hl.1.symm) hown hts hE hB hS (n := 1) rfl (ci := 4) (fs := [.null, .int 0, .int 0, .int 0, .int 0, .int 0, .int 0, .int 0, .int 0, .null]) (C := RX4) (T := TX4) (N := 10) rfl tyX4 (by decide +kernel) xw_33 xw_34 xw_2 (by decide +kernel) (es1 := blk_Reader aT) (Nat.le_of_ble_eq_true rfl) (jk_Reader l D aT) xw_37 xw_2 xw_35 xw_36 rfl ⟨by decide +kernel, by decide +kernel, by decide +kernel⟩ ⟨Nat.le_of_ble_eq_true rfl, Nat.le_of_ble_eq_true rfl⟩ (Nat.le_of_ble_eq_true rfl) ⟨Nat.le_of_ble_eq_true rfl, Nat.le_of_ble_eq_true rfl⟩ kd_FR_5 kd_FR_8 kd_FR_9 (fun H locs hB hS => ?_)
  obtain ⟨P1, hP1⟩ : ∃ P, P = blk_Reader aT (o + 1) := ⟨_, rfl⟩
  have lP1 : P1.length = 25 := by rw [hP1]; rfl
  have hB : jn_B D o (.inr (7, [.null, .null, .null, .null, .null, .null, .null, .int 0, .int 0, .int 0, .int 0]) :: P1) H := by rw [hP1]; exact hB
  refine jn_put hx hb hown hts hE hB hS hin2 (k := 0) (j := 0) (q := (RX8, TX8, 11)) rfl rfl (Nat.le_of_ble_eq_true rfl) xw_329 rfl rfl (ty := .object "FrameRound$Reader") (by decide +kernel) rfl rfl (Nat.le_of_ble_eq_true rfl) kd_FR_12 (fun H locs hB hS => ?_)
  have hB : jn_B D o (.inr (7, [.ref (o + 1), .null, .null, .null, .null, .null, .null, .int 0, .int 0, .int 0, .int 0]) :: P1) H := hB
  refine lv_aload_n (i := 0) hx hb (k := 0) kd_FR_15 rfl (lv_at hl 0 rfl) ?_
  refine jn_sub hx hb (hml.trans hl.1.symm) hown hts hE hB hS (n := 26) (by rw [List.length_cons, lP1]) (ci := 3) (fs := [.int 0, .null]) (C := RX3) (T := TX3) (N := 2) rfl tyX3 (by decide +kernel) xw_152 xw_40 xw_3 (by decide +kernel) (es1 := blk_Plan aT) (Nat.le_of_ble_eq_true rfl) (jk_Plan l D aT) xw_43 xw_3 xw_153 xw_42 rfl ⟨by decide +kernel, by decide +kernel, by decide +kernel⟩ ⟨Nat.le_of_ble_eq_true rfl, Nat.le_of_ble_eq_true rfl⟩ (Nat.le_of_ble_eq_true rfl) ⟨Nat.le_of_ble_eq_true rfl, Nat.le_of_ble_eq_true rfl⟩ kd_FR_16 kd_FR_19 kd_FR_20 (fun H locs hB hS => ?_)
  obtain ⟨P2, hP2⟩ : ∃ P, P = P1 ++ blk_Plan aT (o + 26) := ⟨_, rfl⟩
  have lP2 : P2.length = 48 := by rw [hP2, List.length_append, lP1, bl_Plan]
  have hB : jn_B D o (.inr (7, [.ref (o + 1), .null, .null, .null, .null, .null, .null, .int 0, .int 0, .int 0, .int 0]) :: P2) H := by rw [hP2]; exact hB
  refine jn_put hx hb hown hts hE hB hS hin2 (k := 0) (j := 1) (q := (RX8, TX8, 11)) rfl rfl (Nat.le_of_ble_eq_true rfl) xw_330 rfl rfl (ty := .object "FrameRound$Plan") (by decide +kernel) rfl rfl (Nat.le_of_ble_eq_true rfl) kd_FR_23 (fun H locs hB hS => ?_)
  have hB : jn_B D o (.inr (7, [.ref (o + 1), .ref (o + 26), .null, .null, .null, .null, .null, .int 0, .int 0, .int 0, .int 0]) :: P2) H := hB
  refine lv_aload_n (i := 0) hx hb (k := 0) kd_FR_26 rfl (lv_at hl 0 rfl) ?_
  refine lv_iconst (n := 3) (v := 3) hx hb kd_FR_27 (by decide) ?_
  refine jn_newq hx hb hown hts (t := 4) xw_154 hE.2.2.2.2.2.2.2.2.1 hE.2.2.2.2.2.1 hB hS (N' := 3) (by decide) (by decide) (by decide) (Nat.le_of_ble_eq_true rfl) (Nat.le_of_ble_eq_true rfl) kd_FR_28 (fun H hB hS => ?_)
  rw [show o + (Sum.inr (7, [.ref (o + 1), .ref (o + 26), .null, .null, .null, .null, .null, .int 0, .int 0, .int 0, .int 0]) :: P2 : List va_E).length = o + 49 by rw [List.length_cons, lP2]]
  have hB : jn_B D o (.inr (7, [.ref (o + 1), .ref (o + 26), .null, .null, .null, .null, .null, .int 0, .int 0, .int 0, .int 0]) :: (P2 ++ [.inl (aT 4, 3, .inr (.inr (.inr (.inr (fun _ => none)))))])) H := hB
  refine jn_put hx hb hown hts hE hB hS hin2 (k := 0) (j := 2) (q := (RX8, TX8, 11)) rfl rfl (Nat.le_of_ble_eq_true rfl) xw_331 rfl rfl (ty := .array (.object "FrameRound$Table")) (by decide +kernel) rfl rfl (Nat.le_of_ble_eq_true rfl) kd_FR_31 (fun H locs hB hS => ?_)
  have hB : jn_B D o ((.inr (7, [.ref (o + 1), .ref (o + 26), .ref (o + 49), .null, .null, .null, .null, .int 0, .int 0, .int 0, .int 0]) :: P2) ++ .inl (aT 4, 3, .inr (.inr (.inr (.inr (fun _ => none))))) :: []) H := hB
  refine lv_iconst (n := 0) (v := 0) hx hb kd_FR_34 (by decide) ?_
  refine lv_istore_n (i := 1) (lv' := [(1, .int 0), (0, .ref o)]) hx hb (k := 1) kd_FR_35 rfl hl (by decide) rfl (fun ls hl => ?_)
  obtain ⟨S0, hS0⟩ : ∃ S : List va_E, S = [] := ⟨_, rfl⟩
  have lS0 : S0.length = 0 := by rw [hS0]; rfl
  have hB : jn_B D o ((.inr (7, [.ref (o + 1), .ref (o + 26), .ref (o + 49), .null, .null, .null, .null, .int 0, .int 0, .int 0, .int 0]) :: P2) ++ .inl (aT 4, 3, .inr (.inr (.inr (.inr (fun _ => none))))) :: S0) H := by rw [hS0]; exact hB
  refine lv_iload_n (i := 1) hx hb (k := 1) kd_FR_36 rfl (lv_at hl 0 rfl) ?_
  refine lv_iconst (n := 3) (v := 3) hx hb kd_FR_37 (by decide) ?_
  refine lv_icmp_ge (tgt := 60) hx hb kd_FR_38 rfl (fun hc => absurd hc (by decide)) (fun _ => ?_)
  refine lv_aload_n (i := 0) hx hb (k := 0) kd_FR_41 rfl (lv_at hl 1 rfl) ?_
  refine jn_get hx hb hown hts hE hB (k := 0) (j := 2) (q := (RX8, TX8, 11)) rfl rfl (Nat.le_of_ble_eq_true rfl) xw_331 kd_FR_42 (v := .ref (o + 49)) rfl ?_
  refine lv_iload_n (i := 1) hx hb (k := 1) kd_FR_45 rfl (lv_at hl 0 rfl) ?_
  refine jn_sub hx hb (hml.trans hl.1.symm) hown hts hE hB hS (n := 50) (by rw [List.length_append, List.length_cons, List.length_cons, lP2, lS0]) (ci := 6) (fs := [.null, .int 0, .int 0, .int 0]) (C := RX6) (T := TX6) (N := 4) rfl tyX6 (by decide +kernel) xw_154 xw_156 xw_5 (by decide +kernel) (es1 := blk_Table aT) (Nat.le_of_ble_eq_true rfl) (jk_Table l D aT) xw_159 xw_5 xw_157 xw_158 rfl ⟨by decide +kernel, by decide +kernel, by decide +kernel⟩ ⟨Nat.le_of_ble_eq_true rfl, Nat.le_of_ble_eq_true rfl⟩ (Nat.le_of_ble_eq_true rfl) ⟨Nat.le_of_ble_eq_true rfl, Nat.le_of_ble_eq_true rfl⟩ kd_FR_46 kd_FR_49 kd_FR_50 (fun H locs hB hS => ?_)
  have hv0 : va_at D jm_cl (o + 50, .inr (6, [.ref (o + 50 + 1), .int 0, .int 0, .int 0])) H := hB.2 50 _ (by rw [List.getElem?_append_right (by rw [List.length_append, List.length_cons, List.length_cons, lP2, lS0]; decide), List.length_append, List.length_cons, List.length_cons, lP2, lS0]; rfl)
  obtain ⟨S1, hS1⟩ : ∃ S, S = S0 ++ blk_Table aT (o + 50) := ⟨_, rfl⟩
  have lS1 : S1.length = 35 := by rw [hS1, List.length_append, lS0, bl_Table]
  have hB : jn_B D o ((.inr (7, [.ref (o + 1), .ref (o + 26), .ref (o + 49), .null, .null, .null, .null, .int 0, .int 0, .int 0, .int 0]) :: P2) ++ .inl (aT 4, 3, .inr (.inr (.inr (.inr (fun _ => none))))) :: S1) H := by rw [hS1]; rw [List.append_assoc, List.cons_append] at hB; exact hB
  refine jn_astS hx hb hE hB hS (ka := 49) (kv := 50) (ci := 6) (r := (RX6, TX6, 4)) (by rw [List.length_cons, lP2]) hE.2.2.2.2.2.2.2.2.1 hE.2.2.2.2.2.1 hv0 rfl (i := 0) (jm_in_vp (by decide)) kd_FR_53 (fun H locs hB hS => ?_)
  have hB : jn_B D o ((.inr (7, [.ref (o + 1), .ref (o + 26), .ref (o + 49), .null, .null, .null, .null, .int 0, .int 0, .int 0, .int 0]) :: P2) ++ .inl (aT 4, 3, .inr (.inr (.inr (.inr (va_up (fun _ => none) 0 (some (o + 50))))))) :: S1) H := hB
  refine lv_iinc (v := 1) (lv' := [(1, .int 1), (0, .ref o)]) hx hb kd_FR_54 hl (k := 0) rfl (by decide) (by decide) rfl (fun ls hl => ?_)
  refine lv_goto (tgt := 36) hx hb kd_FR_57 rfl ?_
  refine lv_iload_n (i := 1) hx hb (k := 1) kd_FR_36 rfl (lv_at hl 0 rfl) ?_
  refine lv_iconst (n := 3) (v := 3) hx hb kd_FR_37 (by decide) ?_
  refine lv_icmp_ge (tgt := 60) hx hb kd_FR_38 rfl (fun hc => absurd hc (by decide)) (fun _ => ?_)
  refine lv_aload_n (i := 0) hx hb (k := 0) kd_FR_41 rfl (lv_at hl 1 rfl) ?_
  refine jn_get hx hb hown hts hE hB (k := 0) (j := 2) (q := (RX8, TX8, 11)) rfl rfl (Nat.le_of_ble_eq_true rfl) xw_331 kd_FR_42 (v := .ref (o + 49)) rfl ?_
  refine lv_iload_n (i := 1) hx hb (k := 1) kd_FR_45 rfl (lv_at hl 0 rfl) ?_
  refine jn_sub hx hb (hml.trans hl.1.symm) hown hts hE hB hS (n := 85) (by rw [List.length_append, List.length_cons, List.length_cons, lP2, lS1]) (ci := 6) (fs := [.null, .int 0, .int 0, .int 0]) (C := RX6) (T := TX6) (N := 4) rfl tyX6 (by decide +kernel) xw_154 xw_156 xw_5 (by decide +kernel) (es1 := blk_Table aT) (Nat.le_of_ble_eq_true rfl) (jk_Table l D aT) xw_159 xw_5 xw_157 xw_158 rfl ⟨by decide +kernel, by decide +kernel, by decide +kernel⟩ ⟨Nat.le_of_ble_eq_true rfl, Nat.le_of_ble_eq_true rfl⟩ (Nat.le_of_ble_eq_true rfl) ⟨Nat.le_of_ble_eq_true rfl, Nat.le_of_ble_eq_true rfl⟩ kd_FR_46 kd_FR_49 kd_FR_50 (fun H locs hB hS => ?_)
  have hv1 : va_at D jm_cl (o + 85, .inr (6, [.ref (o + 85 + 1), .int 0, .int 0, .int 0])) H := hB.2 85 _ (by rw [List.getElem?_append_right (by rw [List.length_append, List.length_cons, List.length_cons, lP2, lS1]; decide), List.length_append, List.length_cons, List.length_cons, lP2, lS1]; rfl)
  obtain ⟨S2, hS2⟩ : ∃ S, S = S1 ++ blk_Table aT (o + 85) := ⟨_, rfl⟩
  have lS2 : S2.length = 70 := by rw [hS2, List.length_append, lS1, bl_Table]
  have hB : jn_B D o ((.inr (7, [.ref (o + 1), .ref (o + 26), .ref (o + 49), .null, .null, .null, .null, .int 0, .int 0, .int 0, .int 0]) :: P2) ++ .inl (aT 4, 3, .inr (.inr (.inr (.inr (va_up (fun _ => none) 0 (some (o + 50))))))) :: S2) H := by rw [hS2]; rw [List.append_assoc, List.cons_append] at hB; exact hB
  refine jn_astS hx hb hE hB hS (ka := 49) (kv := 85) (ci := 6) (r := (RX6, TX6, 4)) (by rw [List.length_cons, lP2]) hE.2.2.2.2.2.2.2.2.1 hE.2.2.2.2.2.1 hv1 rfl (i := 1) (jm_in_vp (by decide)) kd_FR_53 (fun H locs hB hS => ?_)
  have hB : jn_B D o ((.inr (7, [.ref (o + 1), .ref (o + 26), .ref (o + 49), .null, .null, .null, .null, .int 0, .int 0, .int 0, .int 0]) :: P2) ++ .inl (aT 4, 3, .inr (.inr (.inr (.inr (va_up (va_up (fun _ => none) 0 (some (o + 50))) 1 (some (o + 85))))))) :: S2) H := hB
  refine lv_iinc (v := 2) (lv' := [(1, .int 2), (0, .ref o)]) hx hb kd_FR_54 hl (k := 0) rfl (by decide) (by decide) rfl (fun ls hl => ?_)
  refine lv_goto (tgt := 36) hx hb kd_FR_57 rfl ?_
  refine lv_iload_n (i := 1) hx hb (k := 1) kd_FR_36 rfl (lv_at hl 0 rfl) ?_
  refine lv_iconst (n := 3) (v := 3) hx hb kd_FR_37 (by decide) ?_
  refine lv_icmp_ge (tgt := 60) hx hb kd_FR_38 rfl (fun hc => absurd hc (by decide)) (fun _ => ?_)
  refine lv_aload_n (i := 0) hx hb (k := 0) kd_FR_41 rfl (lv_at hl 1 rfl) ?_
  refine jn_get hx hb hown hts hE hB (k := 0) (j := 2) (q := (RX8, TX8, 11)) rfl rfl (Nat.le_of_ble_eq_true rfl) xw_331 kd_FR_42 (v := .ref (o + 49)) rfl ?_
  refine lv_iload_n (i := 1) hx hb (k := 1) kd_FR_45 rfl (lv_at hl 0 rfl) ?_
  refine jn_sub hx hb (hml.trans hl.1.symm) hown hts hE hB hS (n := 120) (by rw [List.length_append, List.length_cons, List.length_cons, lP2, lS2]) (ci := 6) (fs := [.null, .int 0, .int 0, .int 0]) (C := RX6) (T := TX6) (N := 4) rfl tyX6 (by decide +kernel) xw_154 xw_156 xw_5 (by decide +kernel) (es1 := blk_Table aT) (Nat.le_of_ble_eq_true rfl) (jk_Table l D aT) xw_159 xw_5 xw_157 xw_158 rfl ⟨by decide +kernel, by decide +kernel, by decide +kernel⟩ ⟨Nat.le_of_ble_eq_true rfl, Nat.le_of_ble_eq_true rfl⟩ (Nat.le_of_ble_eq_true rfl) ⟨Nat.le_of_ble_eq_true rfl, Nat.le_of_ble_eq_true rfl⟩ kd_FR_46 kd_FR_49 kd_FR_50 (fun H locs hB hS => ?_)
  have hv2 : va_at D jm_cl (o + 120, .inr (6, [.ref (o + 120 + 1), .int 0, .int 0, .int 0])) H := hB.2 120 _ (by rw [List.getElem?_append_right (by rw [List.length_append, List.length_cons, List.length_cons, lP2, lS2]; decide), List.length_append, List.length_cons, List.length_cons, lP2, lS2]; rfl)
  obtain ⟨S3, hS3⟩ : ∃ S, S = S2 ++ blk_Table aT (o + 120) := ⟨_, rfl⟩
  have lS3 : S3.length = 105 := by rw [hS3, List.length_append, lS2, bl_Table]
  have hB : jn_B D o ((.inr (7, [.ref (o + 1), .ref (o + 26), .ref (o + 49), .null, .null, .null, .null, .int 0, .int 0, .int 0, .int 0]) :: P2) ++ .inl (aT 4, 3, .inr (.inr (.inr (.inr (va_up (va_up (fun _ => none) 0 (some (o + 50))) 1 (some (o + 85))))))) :: S3) H := by rw [hS3]; rw [List.append_assoc, List.cons_append] at hB; exact hB
  refine jn_astS hx hb hE hB hS (ka := 49) (kv := 120) (ci := 6) (r := (RX6, TX6, 4)) (by rw [List.length_cons, lP2]) hE.2.2.2.2.2.2.2.2.1 hE.2.2.2.2.2.1 hv2 rfl (i := 2) (jm_in_vp (by decide)) kd_FR_53 (fun H locs hB hS => ?_)
  have hB : jn_B D o ((.inr (7, [.ref (o + 1), .ref (o + 26), .ref (o + 49), .null, .null, .null, .null, .int 0, .int 0, .int 0, .int 0]) :: P2) ++ .inl (aT 4, 3, .inr (.inr (.inr (.inr (va_up (va_up (va_up (fun _ => none) 0 (some (o + 50))) 1 (some (o + 85))) 2 (some (o + 120))))))) :: S3) H := hB
  refine lv_iinc (v := 3) (lv' := [(1, .int 3), (0, .ref o)]) hx hb kd_FR_54 hl (k := 0) rfl (by decide) (by decide) rfl (fun ls hl => ?_)
  refine lv_goto (tgt := 36) hx hb kd_FR_57 rfl ?_
  refine lv_iload_n (i := 1) hx hb (k := 1) kd_FR_36 rfl (lv_at hl 0 rfl) ?_
  refine lv_iconst (n := 3) (v := 3) hx hb kd_FR_37 (by decide) ?_
  refine lv_icmp_ge (tgt := 60) hx hb kd_FR_38 rfl (fun _ => ?_) (fun hc => absurd (by decide) hc)
  obtain ⟨P3, hP3⟩ : ∃ P, P = P2 ++ .inl (aT 4, 3, .inr (.inr (.inr (.inr (va_up (va_up (va_up (fun _ => none) 0 (some (o + 50))) 1 (some (o + 85))) 2 (some (o + 120))))))) :: S3 := ⟨_, rfl⟩
  have lP3 : P3.length = 154 := by rw [hP3, List.length_append, List.length_cons, lP2, lS3]
  have hB : jn_B D o (.inr (7, [.ref (o + 1), .ref (o + 26), .ref (o + 49), .null, .null, .null, .null, .int 0, .int 0, .int 0, .int 0]) :: P3) H := by rw [hP3]; exact hB
  refine lv_aload_n (i := 0) hx hb (k := 0) kd_FR_60 rfl (lv_at hl 1 rfl) ?_
  refine jn_sub hx hb (hml.trans hl.1.symm) hown hts hE hB hS (n := 155) (by rw [List.length_cons, lP3]) (ci := 6) (fs := [.null, .int 0, .int 0, .int 0]) (C := RX6) (T := TX6) (N := 4) rfl tyX6 (by decide +kernel) xw_154 xw_156 xw_5 (by decide +kernel) (es1 := blk_Table aT) (Nat.le_of_ble_eq_true rfl) (jk_Table l D aT) xw_159 xw_5 xw_157 xw_158 rfl ⟨by decide +kernel, by decide +kernel, by decide +kernel⟩ ⟨Nat.le_of_ble_eq_true rfl, Nat.le_of_ble_eq_true rfl⟩ (Nat.le_of_ble_eq_true rfl) ⟨Nat.le_of_ble_eq_true rfl, Nat.le_of_ble_eq_true rfl⟩ kd_FR_61 kd_FR_64 kd_FR_65 (fun H locs hB hS => ?_)
  obtain ⟨P4, hP4⟩ : ∃ P, P = P3 ++ blk_Table aT (o + 155) := ⟨_, rfl⟩
  have lP4 : P4.length = 189 := by rw [hP4, List.length_append, lP3, bl_Table]
  have hB : jn_B D o (.inr (7, [.ref (o + 1), .ref (o + 26), .ref (o + 49), .null, .null, .null, .null, .int 0, .int 0, .int 0, .int 0]) :: P4) H := by rw [hP4]; exact hB
  refine jn_put hx hb hown hts hE hB hS hin2 (k := 0) (j := 3) (q := (RX8, TX8, 11)) rfl rfl (Nat.le_of_ble_eq_true rfl) xw_332 rfl rfl (ty := .object "FrameRound$Table") (by decide +kernel) rfl rfl (Nat.le_of_ble_eq_true rfl) kd_FR_68 (fun H locs hB hS => ?_)
  have hB : jn_B D o (.inr (7, [.ref (o + 1), .ref (o + 26), .ref (o + 49), .ref (o + 155), .null, .null, .null, .int 0, .int 0, .int 0, .int 0]) :: P4) H := hB
  refine lv_aload_n (i := 0) hx hb (k := 0) kd_FR_71 rfl (lv_at hl 1 rfl) ?_
  refine jn_sub hx hb (hml.trans hl.1.symm) hown hts hE hB hS (n := 190) (by rw [List.length_cons, lP4]) (ci := 5) (fs := [.null, .null, .int 0]) (C := RX5) (T := TX5) (N := 3) rfl tyX5 (by decide +kernel) xw_252 xw_253 xw_7 (by decide +kernel) (es1 := blk_Supply aT) (Nat.le_of_ble_eq_true rfl) (jk_Supply l D aT) xw_256 xw_7 xw_254 xw_255 rfl ⟨by decide +kernel, by decide +kernel, by decide +kernel⟩ ⟨Nat.le_of_ble_eq_true rfl, Nat.le_of_ble_eq_true rfl⟩ (Nat.le_of_ble_eq_true rfl) ⟨Nat.le_of_ble_eq_true rfl, Nat.le_of_ble_eq_true rfl⟩ kd_FR_72 kd_FR_75 kd_FR_76 (fun H locs hB hS => ?_)
  obtain ⟨P5, hP5⟩ : ∃ P, P = P4 ++ blk_Supply aT (o + 190) := ⟨_, rfl⟩
  have lP5 : P5.length = 192 := by rw [hP5, List.length_append, lP4, bl_Supply]
  have hB : jn_B D o (.inr (7, [.ref (o + 1), .ref (o + 26), .ref (o + 49), .ref (o + 155), .null, .null, .null, .int 0, .int 0, .int 0, .int 0]) :: P5) H := by rw [hP5]; exact hB
  refine jn_put hx hb hown hts hE hB hS hin2 (k := 0) (j := 4) (q := (RX8, TX8, 11)) rfl rfl (Nat.le_of_ble_eq_true rfl) xw_333 rfl rfl (ty := .object "FrameRound$Supply") (by decide +kernel) rfl rfl (Nat.le_of_ble_eq_true rfl) kd_FR_79 (fun H locs hB hS => ?_)
  have hB : jn_B D o (.inr (7, [.ref (o + 1), .ref (o + 26), .ref (o + 49), .ref (o + 155), .ref (o + 190), .null, .null, .int 0, .int 0, .int 0, .int 0]) :: P5) H := hB
  refine lv_aload_n (i := 0) hx hb (k := 0) kd_FR_82 rfl (lv_at hl 1 rfl) ?_
  refine jn_sub hx hb (hml.trans hl.1.symm) hown hts hE hB hS (n := 193) (by rw [List.length_cons, lP5]) (ci := 0) (fs := [.int 0, .int 0, .int 0, .int 0, .int 0, .int 0, .int 0, .int 0, .int 0, .int 0, .null, .null]) (C := RX0) (T := TX0) (N := 12) rfl tyX0 (by decide +kernel) xw_271 xw_272 xw_8 (by decide +kernel) (es1 := blk_Clock aT) (Nat.le_of_ble_eq_true rfl) (jk_Clock l D aT) xw_275 xw_8 xw_273 xw_274 rfl ⟨by decide +kernel, by decide +kernel, by decide +kernel⟩ ⟨Nat.le_of_ble_eq_true rfl, Nat.le_of_ble_eq_true rfl⟩ (Nat.le_of_ble_eq_true rfl) ⟨Nat.le_of_ble_eq_true rfl, Nat.le_of_ble_eq_true rfl⟩ kd_FR_83 kd_FR_86 kd_FR_87 (fun H locs hB hS => ?_)
  obtain ⟨P6, hP6⟩ : ∃ P, P = P5 ++ blk_Clock aT (o + 193) := ⟨_, rfl⟩
  have lP6 : P6.length = 195 := by rw [hP6, List.length_append, lP5, bl_Clock]
  have hB : jn_B D o (.inr (7, [.ref (o + 1), .ref (o + 26), .ref (o + 49), .ref (o + 155), .ref (o + 190), .null, .null, .int 0, .int 0, .int 0, .int 0]) :: P6) H := by rw [hP6]; exact hB
  refine jn_put hx hb hown hts hE hB hS hin2 (k := 0) (j := 5) (q := (RX8, TX8, 11)) rfl rfl (Nat.le_of_ble_eq_true rfl) xw_334 rfl rfl (ty := .object "FrameRound$Clock") (by decide +kernel) rfl rfl (Nat.le_of_ble_eq_true rfl) kd_FR_90 (fun H locs hB hS => ?_)
  have hB : jn_B D o (.inr (7, [.ref (o + 1), .ref (o + 26), .ref (o + 49), .ref (o + 155), .ref (o + 190), .ref (o + 193), .null, .int 0, .int 0, .int 0, .int 0]) :: P6) H := hB
  refine lv_aload_n (i := 0) hx hb (k := 0) kd_FR_93 rfl (lv_at hl 1 rfl) ?_
  refine jn_sub hx hb (hml.trans hl.1.symm) hown hts hE hB hS (n := 196) (by rw [List.length_cons, lP6]) (ci := 0) (fs := [.int 0, .int 0, .int 0, .int 0, .int 0, .int 0, .int 0, .int 0, .int 0, .int 0, .null, .null]) (C := RX0) (T := TX0) (N := 12) rfl tyX0 (by decide +kernel) xw_271 xw_272 xw_8 (by decide +kernel) (es1 := blk_Clock aT) (Nat.le_of_ble_eq_true rfl) (jk_Clock l D aT) xw_275 xw_8 xw_273 xw_274 rfl ⟨by decide +kernel, by decide +kernel, by decide +kernel⟩ ⟨Nat.le_of_ble_eq_true rfl, Nat.le_of_ble_eq_true rfl⟩ (Nat.le_of_ble_eq_true rfl) ⟨Nat.le_of_ble_eq_true rfl, Nat.le_of_ble_eq_true rfl⟩ kd_FR_94 kd_FR_97 kd_FR_98 (fun H locs hB hS => ?_)
  obtain ⟨P7, hP7⟩ : ∃ P, P = P6 ++ blk_Clock aT (o + 196) := ⟨_, rfl⟩
  have lP7 : P7.length = 198 := by rw [hP7, List.length_append, lP6, bl_Clock]
  have hB : jn_B D o (.inr (7, [.ref (o + 1), .ref (o + 26), .ref (o + 49), .ref (o + 155), .ref (o + 190), .ref (o + 193), .null, .int 0, .int 0, .int 0, .int 0]) :: P7) H := by rw [hP7]; exact hB
  refine jn_put hx hb hown hts hE hB hS hin2 (k := 0) (j := 6) (q := (RX8, TX8, 11)) rfl rfl (Nat.le_of_ble_eq_true rfl) xw_335 rfl rfl (ty := .object "FrameRound$Clock") (by decide +kernel) rfl rfl (Nat.le_of_ble_eq_true rfl) kd_FR_101 (fun H locs hB hS => ?_)
  have hB : jn_B D o (.inr (7, [.ref (o + 1), .ref (o + 26), .ref (o + 49), .ref (o + 155), .ref (o + 190), .ref (o + 193), .ref (o + 196), .int 0, .int 0, .int 0, .int 0]) :: P7) H := hB
  refine lv_aload_n (i := 0) hx hb (k := 0) kd_FR_104 rfl (lv_at hl 1 rfl) ?_
  refine lv_iconst (n := (-1)) (v := (-1)) hx hb kd_FR_105 (by decide) ?_
  refine jn_put hx hb hown hts hE hB hS hin2 (k := 0) (j := 10) (q := (RX8, TX8, 11)) rfl rfl (Nat.le_of_ble_eq_true rfl) xw_339 rfl rfl (ty := .int) (by decide +kernel) rfl rfl (Nat.le_of_ble_eq_true rfl) kd_FR_106 (fun H locs hB hS => ?_)
  have hB : jn_B D o (.inr (7, [.ref (o + 1), .ref (o + 26), .ref (o + 49), .ref (o + 155), .ref (o + 190), .ref (o + 193), .ref (o + 196), .int 0, .int 0, .int 0, .int (-1)]) :: P7) H := hB
  rw [hP7, hP6, hP5, hP4, hP3, hP2, hP1, hS3, hS2, hS1, hS0] at hB
  exact W.vret hx hb hr (fun t ht _ => ⟨rfl, by rw [ht]; exact hB, fun q hq => by rw [ht]; exact hS.2.1 q (by rw [hB0.1]; exact Nat.lt_add_right _ hq) (by omega)⟩) hS.2.2 kd_FR_109 hlocks
