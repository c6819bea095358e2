theorem jx_li_code : (Jvm.Cond.codeWith ({ cls := "FrameRoundLaw", name := "idle", desc := "(LFrameRound;I[J)I" } : Jvm.MethodName) method_3_code (4 : Nat) (Option.some Jvm.ClassFile.FieldType.int) [((0 : Nat), (9 : Nat), (12 : Nat), (13 : Nat))]) ∈ jm_T := jm_inT' (List.mem_append_right _ (List.mem_of_getElem? (i := 1062) (by decide +kernel))) (by decide +kernel)
theorem jx_fr_link : (Jvm.Cond.methodLink "FrameRoundLaw" (7 : Nat) ({ cls := "FrameRound", name := "idle", desc := "(I)I" } : Jvm.MethodName)) ∈ jm_T := jm_inT' (List.mem_append_right _ (List.mem_of_getElem? (i := 1064) (by decide +kernel))) (by decide +kernel)
theorem jx_fr_inst : (Jvm.Cond.instanceMethod ({ cls := "FrameRound", name := "idle", desc := "(I)I" } : Jvm.MethodName)) ∈ jm_T := jm_inT' (List.mem_append_right _ (List.mem_of_getElem? (i := 1065) (by decide +kernel))) (by decide +kernel)
theorem jx_fr_sel : (Jvm.Cond.selects "FrameRound" ({ cls := "FrameRound", name := "idle", desc := "(I)I" } : Jvm.MethodName) ({ cls := "FrameRound", name := "idle", desc := "(I)I" } : Jvm.MethodName)) ∈ jm_T := jm_inT' (List.mem_append_right _ (List.mem_of_getElem? (i := 1066) (by decide +kernel))) (by decide +kernel)
theorem jx_fr_code : (Jvm.Cond.code ({ cls := "FrameRound", name := "idle", desc := "(I)I" } : Jvm.MethodName) prog_1_method_77_code (3 : Nat) (Option.some Jvm.ClassFile.FieldType.int)) ∈ jm_T := jm_inT' (List.mem_append_right _ (List.mem_of_getElem? (i := 1067) (by decide +kernel))) (by decide +kernel)
theorem jx_fr_ini : (Jvm.Cond.initialized "FrameRound") ∈ jm_T := jm_inT' (List.mem_append_right _ (List.mem_of_getElem? (i := 1) (by decide +kernel))) (by decide +kernel)
theorem jx_li_cls : (Jvm.Cond.classLink "FrameRoundLaw" (13 : Nat) "java/util/NoSuchElementException") ∈ jm_T := jm_inT' (List.mem_append_right _ (List.mem_of_getElem? (i := 1063) (by decide +kernel))) (by decide +kernel)
/-! ===== the law's own idle ===== -/
theorem jx_ofWH {l : Launch} {y : MethodName} {ws ws' : List Cond} {rm : Room} {Pc : Array Value → State → Prop} {Qc : Array Value → State → Outcome → State → Prop} {mc ms : Nat} {free : Addr → Prop} {cc : ByteArray} {maxL : Nat} {ret : Option FieldType} {hh : List (Nat × Nat × Nat × Nat)}
    (hy : plainName y.cls = true) (hw : ws = Cond.codeWith y cc maxL ret hh :: ws')
    (body : ∀ p e s m args below meth c s₁, BodyLoose p l y (headSpec ws rm) cc maxL ret e s m args below meth c s₁ → c.maxLocals = maxL → Pc args s →
      W p l e (headSpec ws rm).room s m args below meth c s.heap [] 0 0 (MQ below Qc args s mc ms free) (entryFrame m args maxL)) : Met l y ws rm Pc Qc mc ms free := by
  refine MetFree.of_bodyS (code := cc) (maxLocals := maxL) (ret := ret) hy ?_ ?_
  · intro args s m h hn
    obtain ⟨m9, meth, c, hn9, h1, h2, h3, h4, -, h5, h6, -⟩ := Cond.codeWith_spec (atoms_spec (ws := ws) h _ (by rw [hw]; exact List.mem_cons_self))
    cases hn.symm.trans hn9
    exact ⟨meth, c, h1, h2, h3, h4, h5, h6⟩
  · intro p e s m args below meth c s₁ B hml hP _
    have hh0 : s₁.heap = s.heap := by rw [B.state]; rfl
    obtain ⟨t, a1, o, b1, b2, b3⟩ := body p e s m args below meth c s₁ B hml hP s₁ hh0 (Stand.of_body B)
    exact ⟨t, o, a1, b1, b2, ⟨b3.1, b3.2⟩⟩
abbrev jx_ly : MethodName := ⟨"FrameRoundLaw", "idle", "(LFrameRound;I[J)I"⟩
abbrev cod_li : List jm_I := [.inl (jm_aload 2), .inl (jm_ic 0), .inl (jm_aload 0), .inl (jm_iload 1), .inr (.inr (80, 2, 8)), .inl jm_i2l, .inl jm_last, .inl (jm_goto 11), .inl jm_stuck, .inl (jm_ic 1), .inl jm_stuck, .inl (jm_ic 0), .inl jm_stuck]
def met_li : jm_M := ((jx_ly, method_3_code, 4, some .int), (8, 160), [0, 1, 2, 3, 4, 7, 8, 9, 12, 13, 14, 15, 16], cod_li)
set_option maxRecDepth 100000 in
theorem snd_li : jm_All (jm_Snd jm_ms met_li) 0 cod_li := jm_all_cons (jm_n_aload_n (n := 2) rfl (by decide +kernel) rfl) (jm_all_cons (jm_n_iconst (n := 0) (by decide) (by decide +kernel) rfl) (jm_all_cons (jm_n_aload_n (n := 0) rfl (by decide +kernel) rfl) (jm_all_cons (jm_n_iload_n (n := 1) rfl (by decide +kernel) rfl) (jm_all_cons (jm_call_of hz_80 (jm_c_virtual (hd := hdr_80) (n := 1) (q := (RX8, TX8, 11)) rfl rfl jx_fr_code jx_fr_ini jx_fr_link jx_fr_inst jx_fr_sel ⟨by decide +kernel, by decide +kernel, by decide +kernel⟩ ⟨Nat.le_of_ble_eq_true rfl, Nat.le_of_ble_eq_true rfl⟩ (by decide +kernel) rfl)) (jm_all_cons (jm_n_i2l (by decide +kernel) rfl) (jm_all_cons (jm_n_last (by decide +kernel) rfl) (jm_all_cons (jm_n_goto (off := 6) (by decide +kernel) (by decide +kernel)) (jm_all_cons jm_n_stuck (jm_all_cons (jm_n_iconst (n := 1) (by decide) (by decide +kernel) rfl) (jm_all_cons jm_n_stuck (jm_all_cons (jm_n_iconst (n := 0) (by decide) (by decide +kernel) rfl) (jm_all_cons jm_n_stuck jm_all_nil))))))))))))
theorem jx_li_run {a v : Int32} {h h1 : jm_H} (hR : jm_R 80 [jm_r 7 0, jm_i a] h (some (jm_i v), h1)) : jm_P cod_li (0, [some (jm_r 7 0), some (jm_i a), some (jm_r 58 0), none], [], h) (12, [some (jm_r 7 0), some (jm_i a), some (jm_r 58 0), none], [jm_i 0], jm_sL h1 v.toInt64) := by
  refine jm_P_n 4 (x1 := (4, [some (jm_r 7 0), some (jm_i a), some (jm_r 58 0), none], [jm_i a, jm_r 7 0, jm_i 0, jm_r 58 0], h)) rfl ?_
  refine jm_P_call rfl (Nat.le_of_ble_eq_true rfl) (Nat.le_of_ble_eq_true rfl) rfl hR trivial ?_
  refine jm_P_n 1 (x1 := (6, [some (jm_r 7 0), some (jm_i a), some (jm_r 58 0), none], [.inl (.long v.toInt64), jm_i 0, jm_r 58 0], h1)) rfl ?_
  refine jm_P_1 (f := jm_last) (x1 := (7, [some (jm_r 7 0), some (jm_i a), some (jm_r 58 0), none], [], jm_sL h1 v.toInt64)) rfl (if_pos (c := (jm_el 58).1 = 2 ∧ jm_in 0 (jm_ln 58)) (e := none) ⟨rfl, by decide⟩) ?_
  exact jm_P_n 2 (x1 := (12, [some (jm_r 7 0), some (jm_i a), some (jm_r 58 0), none], [jm_i 0], jm_sL h1 v.toInt64)) rfl (jm_P_refl rfl)
/-- what holds at its entry -/
theorem jx_li_start {l : Launch} {G : jm_G} (hAm : jm_Amb G) {a : Int32} {h : jm_H} {p : Program} {e : Env} {s : State} {m : MethodId} {below : List Frame} {meth : Method} {c : Code} {s₁ : State} {Q : State → Prop} (B : BodyLoose p l jx_ly (headSpec (Cond.codeWith jx_ly method_3_code 4 (some .int) [(0, 9, 12, 13)] :: jm_T) { frames := 8, cells := 1, slots := 6, locals := 160 }) method_3_code 4 (some .int) e s m ([jm_r 7 0, jm_i a, jm_r 58 0].map (jm_sh G)).toArray below meth c s₁) (hml : c.maxLocals = 4) (hR : jm_Rel G h s.heap) (hE : jm_Env G s) {x' : jm_S} (hP : jm_P cod_li (0, [some (jm_r 7 0), some (jm_i a), some (jm_r 58 0), none], [], h) x')
    (kk : jm_Cx G met_li p { frames := 8, cells := 1, slots := 6, locals := 160 } s m ([jm_r 7 0, jm_i a, jm_r 58 0].map (jm_sh G)).toArray c 0 0 → jm_W G met_li p l e { frames := 8, cells := 1, slots := 6, locals := 160 } s m ([jm_r 7 0, jm_i a, jm_r 58 0].map (jm_sh G)).toArray below meth c 0 0 Q x'.1 x'.2.1 x'.2.2.1 x'.2.2.2) :
    W p l e { frames := 8, cells := 1, slots := 6, locals := 160 } s m ([jm_r 7 0, jm_i a, jm_r 58 0].map (jm_sh G)).toArray below meth c s.heap [] 0 0 Q (entryFrame m ([jm_r 7 0, jm_i a, jm_r 58 0].map (jm_sh G)).toArray 4) := by
  have hts0 := atoms_spec (ws := Cond.codeWith jx_ly method_3_code 4 (some .int) [(0, 9, 12, 13)] :: jm_T) B.pre
  have hts : ∀ w ∈ jm_T, w.before ([jm_r 7 0, jm_i a, jm_r 58 0].map (jm_sh G)).toArray s = true := fun w hw => hts0 w (List.mem_cons_of_mem _ hw)
  have hown : s.vm.findClass (jm_nm met_li).cls = some m.cls := findClass_of_methodNamed B.named
  have Cx : jm_Cx G met_li p { frames := 8, cells := 1, slots := 6, locals := 160 } s m ([jm_r 7 0, jm_i a, jm_r 58 0].map (jm_sh G)).toArray c 0 0 := ⟨B.exec, B.bytes, hml, hown, hts, hE, hAm, Nat.le_of_ble_eq_true rfl, Nat.le_of_ble_eq_true rfl, Nat.zero_le _, Nat.zero_le _, hR.2.1⟩
  have hS0 : ∀ (k : Nat) (i : jm_I), cod_li[k]? = some i → jm_Snd jm_ms met_li k i := fun k i hi => by
    have := jm_all_get snd_li k i hi
    rwa [Nat.zero_add] at this
  rw [lg_entry_eq]
  have hl2 := lv_entry ([jm_r 7 0, jm_i a, jm_r 58 0].map (jm_sh G)) (n := 4) (by rw [← jm_enl_len]; exact Nat.le_of_ble_eq_true rfl)
  have hLo : jm_Lo G 4 [some (jm_r 7 0), some (jm_i a), some (jm_r 58 0), none] ((lg_sl ([jm_r 7 0, jm_i a, jm_r 58 0].map (jm_sh G)) ++ List.replicate (4 - (lg_sl ([jm_r 7 0, jm_i a, jm_r 58 0].map (jm_sh G))).length) Slot.unset).toArray) := by
    refine ⟨rfl, hl2.1, hl2.2.1, fun i v hi => ?_⟩
    have := hl2.2.2 _ (jm_enl_args G [jm_r 7 0, jm_i a, jm_r 58 0] 0 i v (jm_ent_get (n := 4) hi))
    simpa using this
  obtain ⟨n, hn⟩ := hP
  have okA : jm_okS [jm_r 7 0, jm_i a, jm_r 58 0] := ⟨(by decide : (0 : Nat) < jm_cnt 7), trivial, (by decide : (0 : Nat) < jm_cnt 58), trivial⟩
  exact jm_pr_sound (l := l) (e := e) (below := below) (meth := meth) (Q := Q) jm_all_ok hAm (y := met_li) (cd := cod_li) (fun k f hi => hS0 k _ hi G p l e _ s m _ below meth c 0 0 _ Cx) (fun k c0 hi => hS0 k _ hi) Cx n _ _ hn (kk Cx) trivial (jm_okL_ent (n := 4) okA) s.heap [] _ hR va_S.rf hLo
set_option maxHeartbeats 4000000 in
set_option maxRecDepth 100000 in
/-- it answers 0, and what FrameRound.idle answered is kept -/
theorem jx_li_A (l : Launch) {G : jm_G} (hAm : jm_Amb G) {a v : Int32} {h h1 : jm_H} (hRn : jm_R 80 [jm_r 7 0, jm_i a] h (some (jm_i v), h1)) : Met l jx_ly (Cond.codeWith jx_ly method_3_code 4 (some .int) [(0, 9, 12, 13)] :: jm_T) { frames := 8, cells := 1, slots := 6, locals := 160 } (jm_Pc G [jm_r 7 0, jm_i a, jm_r 58 0] h) (jm_Qc G (some (jm_i 0), jm_sL h1 v.toInt64)) 1 6 (fun q => jm_bs G ≤ q) := by
  refine jx_ofWH (cc := method_3_code) (maxL := 4) (ret := some .int) (hh := [(0, 9, 12, 13)]) (by decide) rfl ?_
  intro p e s m args below meth c s₁ B hml hv
  obtain ⟨rfl, hR, hE⟩ := hv
  refine jx_li_start hAm B hml hR hE (jx_li_run hRn) (fun Cx => ?_)
  intro ok okL H locs A hR1 hS hL
  refine W.widen (k := 1) (n := 6) (by decide) (by decide) ?_
  exact W.iret B.exec B.bytes B.returns (fun t ht _ => jm_Qc_of rfl hR1 hS ht) hS.2.2 (show decode method_3_code (jm_pc met_li 12) = Except.ok (Instr.ireturn, 1) by decide +kernel) B.notSynchronized
set_option maxHeartbeats 4000000 in
set_option maxRecDepth 100000 in
/-- it answers 1 where FrameRound.idle throws -/
theorem jx_li_B (l : Launch) (hl : l.stackTraces = false) {G : jm_G} (hAm : jm_Amb G) {a : Int32} {h h1 : jm_H} {k : Nat} {ls1 : jm_L} (hk : k = 6 ∨ k = 21) (hP : jm_P cod_80 (0, jm_ent (jm_mx met_80) [jm_r 7 0, jm_i a], [], h) (k, ls1, [], h1)) : Met l jx_ly (Cond.codeWith jx_ly method_3_code 4 (some .int) [(0, 9, 12, 13)] :: jm_T) { frames := 8, cells := 1, slots := 6, locals := 160 } (jm_Pc G [jm_r 7 0, jm_i a, jm_r 58 0] h) (jm_Qc G (some (jm_i 1), h1)) 1 6 (fun q => jm_bs G ≤ q) := by
  refine jx_ofWH (cc := method_3_code) (maxL := 4) (ret := some .int) (hh := [(0, 9, 12, 13)]) (by decide) rfl ?_
  intro p e s m args below meth c s₁ B hml hv
  obtain ⟨rfl, hR, hE⟩ := hv
  have hts0 := atoms_spec (ws := Cond.codeWith jx_ly method_3_code 4 (some .int) [(0, 9, 12, 13)] :: jm_T) B.pre
  have htab := vx_table (x := jx_ly) B (hts0 _ List.mem_cons_self)
  refine jx_li_start hAm B hml hR hE (x' := (4, [some (jm_r 7 0), some (jm_i a), some (jm_r 58 0), none], [jm_i a, jm_r 7 0, jm_i 0, jm_r 58 0], h)) (jm_P_n 4 rfl (jm_P_refl rfl)) (fun Cx => ?_)
  obtain ⟨hx, hb, hml2, hown, hts, -, -, -, -, -, -, hZ⟩ := Cx
  intro ok okL H locs A hR1 hS hL
  have hc : jm_cl[7]? = some (RX8, TX8, 11) := rfl
  have hat := hR1.1 7 0 (by decide) (by decide)
  unfold jm_at at hat
  rw [if_pos (by decide)] at hat
  obtain ⟨cell, q1, q2, q3, q4⟩ := hat
  obtain ⟨-, hfc, -⟩ := hE.1 7 _ hc
  have cb : CallB { frames := 8, cells := 1, slots := 6, locals := 160 } s ([jm_r 7 0, jm_i a, jm_r 58 0].map (jm_sh G)).toArray "FrameRoundLaw" 7 (jm_nm met_80) (jm_by met_80) (jm_mx met_80) (jm_rt met_80) (Cond.code (jm_nm met_80) (jm_by met_80) (jm_mx met_80) (jm_rt met_80) :: jm_T) { frames := 7, cells := 1, slots := 6, locals := 120 } 1 6 1 :=
    callB_of 1 hts (jm_good jx_fr_code) rfl rfl rfl (hts _ jx_fr_ini) (hts _ jx_fr_link) ⟨by decide +kernel, by decide +kernel, by decide +kernel⟩ ⟨by decide, by decide⟩
  have run := vx_runV (l := l) (e := e) (below := below) (meth := meth) (H := H) (locs := locs) (cells := 0) (slots := 0) (C := "FrameRound") (nL := 4) (b := G.1 7 0) (rest := [.int 0, .ref (G.1 58 0)]) (g := F0 m 4 A [.int a, .ref (G.1 7 0), .int 0, .ref (G.1 58 0)]) (As := [.int a]) ⟨hx, hb, hml2, hown, hts⟩ (jx_idle l hl hAm hk hP) ⟨cb, hts _ jx_fr_inst, hts _ jx_fr_sel⟩
    ⟨jm_blind G _ h, ⟨cell, q1, by rw [q3]; rfl, by rw [q2]; exact hfc⟩, fun U hU hW => ⟨rfl, by rw [hU]; exact hR1, hE.warm hW⟩⟩ rfl rfl hL.2.1 rfl (lv_room (m := m) (pc := 0) (ls := A) (rest := []) (Nat.le_of_ble_eq_true rfl)) (show decode (jm_by met_li) 4 = Except.ok (Instr.invokevirtual 7, 3) by decide +kernel) ⟨by decide, by decide⟩
  intro T hT X
  rcases run T hT X with ⟨v, st₀, t, T', L, h0, X', hL', e1, e2, hq, st⟩ | ⟨q, st₀, t, T', L, E, ce, h0, X', hL', e1, e2, ⟨hE1, hR2, hz⟩, hce, hcv, hcl, st⟩
  · exact hq.elim
  · subst hE1
    have hS2 : va_S (fun q => jm_bs G ≤ q) s.heap T'.heap (locs ++ L) := by
      rw [e1]
      refine ⟨Nat.le_trans hS.1 (by rw [h0] at hz; exact hz), fun q g1 g2 => ?_, fun q hq => ?_⟩
      · rw [← hS.2.1 q g1 g2, hR2.2.1 q (by omega), hR1.2.1 q (by omega)]
      · rcases List.mem_append.mp hq with g1 | g1
        · exact hS.2.2 q g1
        · exact hL' q g1
    have hW2 : vx_W p l e { frames := 8, cells := 1, slots := 6, locals := 160 } s m ([jm_r 7 0, jm_i a, jm_r 58 0].map (jm_sh G)).toArray below meth c T'.heap (locs ++ L) 1 6 (MQ below (jm_Qc G (some (jm_i 1), h1)) ([jm_r 7 0, jm_i a, jm_r 58 0].map (jm_sh G)).toArray s 1 6 (fun q => jm_bs G ≤ q)) (F0 m 4 A [.int 0, .ref (G.1 58 0)]) q := by
      refine vx_catch (own := "FrameRoundLaw") (name := jx_E) (E := jx_E) hown [] ⟨0, 9, 12, 13⟩ [] htab (fun z hz => by cases hz) (by decide) (by decide) (hts _ jx_li_cls) (va_Nw.use rfl (hE.2.2.2.2.2.2.2.1 _ (by decide))) (by rw [e1]; exact hce) hcv hcl ?_
      refine lv_astore_n (i := 3) (k := 3) hx hb (by decide +kernel) rfl hL.has (by decide) rfl (fun A1 hA1 => ?_)
      refine lv_iconst (n := 1) (v := 1) hx hb (by decide +kernel) (by decide) ?_
      exact W.iret hx hb B.returns (fun t9 ht _ => jm_Qc_of rfl (by rw [e1]; exact hR2) hS2 ht) hS2.2.2 (by decide +kernel) B.notSynchronized
    obtain ⟨t2, a1, b1⟩ := hW2 T' rfl X'
    exact ⟨t2, st.trans a1, b1⟩
