/-! ===== texts: the constants of the class and of the reference ===== -/
def jm_ldcs (i : Nat) : jm_F := fun k ls st h => some (k, ls, .inr (60, i) :: st, h)
def jm_slen : jm_F := fun k ls st h => match st with
  | .inr q :: r => if q.1 = 60 ∧ (r.map jm_ct).sum ≤ 8 then some (k, ls, .inl (.int (jm_strl q.2).toInt32) :: r, h) else none
  | _ => none
def jm_schr : jm_F := fun k ls st h => match st with
  | .inl (.int j) :: .inr q :: r => if q.1 = 60 ∧ jm_in j (jm_strl q.2) ∧ (r.map jm_ct).sum ≤ 8 then some (k, ls, .inl (.int ((jm_str q.2).getD j.toNatClampNeg 0).toInt32) :: r, h) else none
  | _ => none
theorem tw_11 : (Jvm.Cond.initialized "java/lang/String") ∈ jm_T := jm_inT' (List.mem_append_right _ (List.mem_of_getElem? (i := 11) (by decide +kernel))) (by decide +kernel)
theorem tw_12 : (Jvm.Cond.initialized "java/lang/StringLatin1") ∈ jm_T := jm_inT' (List.mem_append_right _ (List.mem_of_getElem? (i := 12) (by decide +kernel))) (by decide +kernel)
theorem tw_13 : (Jvm.Cond.initialized "jdk/internal/util/Preconditions") ∈ jm_T := jm_inT' (List.mem_append_right _ (List.mem_of_getElem? (i := 13) (by decide +kernel))) (by decide +kernel)
theorem tw_414 : (Jvm.Cond.instanceMethod ({ cls := "java/lang/String", name := "length", desc := "()I" } : Jvm.MethodName)) ∈ jm_T := jm_inT' (List.mem_append_right _ (List.mem_of_getElem? (i := 414) (by decide +kernel))) (by decide +kernel)
theorem tw_415 : (Jvm.Cond.selects "java/lang/String" ({ cls := "java/lang/String", name := "length", desc := "()I" } : Jvm.MethodName) ({ cls := "java/lang/String", name := "length", desc := "()I" } : Jvm.MethodName)) ∈ jm_T := jm_inT' (List.mem_append_right _ (List.mem_of_getElem? (i := 415) (by decide +kernel))) (by decide +kernel)
theorem tw_416 : (Jvm.Cond.code ({ cls := "java/lang/String", name := "length", desc := "()I" } : Jvm.MethodName) prog_21_method_54_code (1 : Nat) (Option.some Jvm.ClassFile.FieldType.int)) ∈ jm_T := jm_inT' (List.mem_append_right _ (List.mem_of_getElem? (i := 416) (by decide +kernel))) (by decide +kernel)
theorem tw_417 : (Jvm.Cond.methodLink "java/lang/String" (335 : Nat) ({ cls := "java/lang/String", name := "coder", desc := "()B" } : Jvm.MethodName)) ∈ jm_T := jm_inT' (List.mem_append_right _ (List.mem_of_getElem? (i := 417) (by decide +kernel))) (by decide +kernel)
theorem tw_418 : (Jvm.Cond.instanceMethod ({ cls := "java/lang/String", name := "coder", desc := "()B" } : Jvm.MethodName)) ∈ jm_T := jm_inT' (List.mem_append_right _ (List.mem_of_getElem? (i := 418) (by decide +kernel))) (by decide +kernel)
theorem tw_419 : (Jvm.Cond.selects "java/lang/String" ({ cls := "java/lang/String", name := "coder", desc := "()B" } : Jvm.MethodName) ({ cls := "java/lang/String", name := "coder", desc := "()B" } : Jvm.MethodName)) ∈ jm_T := jm_inT' (List.mem_append_right _ (List.mem_of_getElem? (i := 419) (by decide +kernel))) (by decide +kernel)
theorem tw_420 : (Jvm.Cond.code ({ cls := "java/lang/String", name := "coder", desc := "()B" } : Jvm.MethodName) prog_21_method_152_code (1 : Nat) (Option.some Jvm.ClassFile.FieldType.byte)) ∈ jm_T := jm_inT' (List.mem_append_right _ (List.mem_of_getElem? (i := 420) (by decide +kernel))) (by decide +kernel)
theorem tw_421 : (Jvm.Cond.fieldLink "java/lang/String" (38 : Nat) "java/lang/String" "COMPACT_STRINGS" "Z") ∈ jm_T := jm_inT' (List.mem_append_right _ (List.mem_of_getElem? (i := 421) (by decide +kernel))) (by decide +kernel)
theorem tw_424 : (Jvm.Cond.instanceMethod ({ cls := "java/lang/String", name := "charAt", desc := "(I)C" } : Jvm.MethodName)) ∈ jm_T := jm_inT' (List.mem_append_right _ (List.mem_of_getElem? (i := 424) (by decide +kernel))) (by decide +kernel)
theorem tw_425 : (Jvm.Cond.selects "java/lang/String" ({ cls := "java/lang/String", name := "charAt", desc := "(I)C" } : Jvm.MethodName) ({ cls := "java/lang/String", name := "charAt", desc := "(I)C" } : Jvm.MethodName)) ∈ jm_T := jm_inT' (List.mem_append_right _ (List.mem_of_getElem? (i := 425) (by decide +kernel))) (by decide +kernel)
theorem tw_426 : (Jvm.Cond.code ({ cls := "java/lang/String", name := "charAt", desc := "(I)C" } : Jvm.MethodName) prog_21_method_56_code (2 : Nat) (Option.some Jvm.ClassFile.FieldType.char)) ∈ jm_T := jm_inT' (List.mem_append_right _ (List.mem_of_getElem? (i := 426) (by decide +kernel))) (by decide +kernel)
theorem tw_427 : (Jvm.Cond.methodLink "java/lang/String" (492 : Nat) ({ cls := "java/lang/String", name := "isLatin1", desc := "()Z" } : Jvm.MethodName)) ∈ jm_T := jm_inT' (List.mem_append_right _ (List.mem_of_getElem? (i := 427) (by decide +kernel))) (by decide +kernel)
theorem tw_428 : (Jvm.Cond.instanceMethod ({ cls := "java/lang/String", name := "isLatin1", desc := "()Z" } : Jvm.MethodName)) ∈ jm_T := jm_inT' (List.mem_append_right _ (List.mem_of_getElem? (i := 428) (by decide +kernel))) (by decide +kernel)
theorem tw_429 : (Jvm.Cond.selects "java/lang/String" ({ cls := "java/lang/String", name := "isLatin1", desc := "()Z" } : Jvm.MethodName) ({ cls := "java/lang/String", name := "isLatin1", desc := "()Z" } : Jvm.MethodName)) ∈ jm_T := jm_inT' (List.mem_append_right _ (List.mem_of_getElem? (i := 429) (by decide +kernel))) (by decide +kernel)
theorem tw_430 : (Jvm.Cond.code ({ cls := "java/lang/String", name := "isLatin1", desc := "()Z" } : Jvm.MethodName) prog_21_method_154_code (1 : Nat) (Option.some Jvm.ClassFile.FieldType.boolean)) ∈ jm_T := jm_inT' (List.mem_append_right _ (List.mem_of_getElem? (i := 430) (by decide +kernel))) (by decide +kernel)
theorem tw_431 : (Jvm.Cond.methodLink "java/lang/String" (495 : Nat) ({ cls := "java/lang/StringLatin1", name := "charAt", desc := "([BI)C" } : Jvm.MethodName)) ∈ jm_T := jm_inT' (List.mem_append_right _ (List.mem_of_getElem? (i := 431) (by decide +kernel))) (by decide +kernel)
theorem tw_432 : (Jvm.Cond.static ({ cls := "java/lang/StringLatin1", name := "charAt", desc := "([BI)C" } : Jvm.MethodName)) ∈ jm_T := jm_inT' (List.mem_append_right _ (List.mem_of_getElem? (i := 432) (by decide +kernel))) (by decide +kernel)
theorem tw_433 : (Jvm.Cond.code ({ cls := "java/lang/StringLatin1", name := "charAt", desc := "([BI)C" } : Jvm.MethodName) prog_22_method_2_code (2 : Nat) (Option.some Jvm.ClassFile.FieldType.char)) ∈ jm_T := jm_inT' (List.mem_append_right _ (List.mem_of_getElem? (i := 433) (by decide +kernel))) (by decide +kernel)
theorem tw_434 : (Jvm.Cond.methodLink "java/lang/StringLatin1" (9 : Nat) ({ cls := "java/lang/String", name := "checkIndex", desc := "(II)V" } : Jvm.MethodName)) ∈ jm_T := jm_inT' (List.mem_append_right _ (List.mem_of_getElem? (i := 434) (by decide +kernel))) (by decide +kernel)
theorem tw_435 : (Jvm.Cond.static ({ cls := "java/lang/String", name := "checkIndex", desc := "(II)V" } : Jvm.MethodName)) ∈ jm_T := jm_inT' (List.mem_append_right _ (List.mem_of_getElem? (i := 435) (by decide +kernel))) (by decide +kernel)
theorem tw_436 : (Jvm.Cond.code ({ cls := "java/lang/String", name := "checkIndex", desc := "(II)V" } : Jvm.MethodName) prog_21_method_155_code (2 : Nat) (Option.none : Option Jvm.ClassFile.FieldType)) ∈ jm_T := jm_inT' (List.mem_append_right _ (List.mem_of_getElem? (i := 436) (by decide +kernel))) (by decide +kernel)
theorem tw_437 : (Jvm.Cond.fieldLink "java/lang/String" (1053 : Nat) "jdk/internal/util/Preconditions" "SIOOBE_FORMATTER" "Ljava/util/function/BiFunction;") ∈ jm_T := jm_inT' (List.mem_append_right _ (List.mem_of_getElem? (i := 437) (by decide +kernel))) (by decide +kernel)
theorem tw_439 : (Jvm.Cond.methodLink "java/lang/String" (1059 : Nat) ({ cls := "jdk/internal/util/Preconditions", name := "checkIndex", desc := "(IILjava/util/function/BiFunction;)I" } : Jvm.MethodName)) ∈ jm_T := jm_inT' (List.mem_append_right _ (List.mem_of_getElem? (i := 439) (by decide +kernel))) (by decide +kernel)
theorem tw_440 : (Jvm.Cond.static ({ cls := "jdk/internal/util/Preconditions", name := "checkIndex", desc := "(IILjava/util/function/BiFunction;)I" } : Jvm.MethodName)) ∈ jm_T := jm_inT' (List.mem_append_right _ (List.mem_of_getElem? (i := 440) (by decide +kernel))) (by decide +kernel)
theorem tw_441 : (Jvm.Cond.code ({ cls := "jdk/internal/util/Preconditions", name := "checkIndex", desc := "(IILjava/util/function/BiFunction;)I" } : Jvm.MethodName) prog_30_method_11_code (3 : Nat) (Option.some Jvm.ClassFile.FieldType.int)) ∈ jm_T := jm_inT' (List.mem_append_right _ (List.mem_of_getElem? (i := 441) (by decide +kernel))) (by decide +kernel)
theorem tw_1799 : (Jvm.Cond.fieldLink "java/lang/String" (9 : Nat) "java/lang/String" "value" "[B") ∈ jm_T := jm_inT' (List.mem_append_right _ (List.mem_of_getElem? (i := 1799) (by decide +kernel))) (by decide +kernel)
theorem tw_1800 : (Jvm.Cond.fieldLink "java/lang/String" (15 : Nat) "java/lang/String" "coder" "B") ∈ jm_T := jm_inT' (List.mem_append_right _ (List.mem_of_getElem? (i := 1800) (by decide +kernel))) (by decide +kernel)
abbrev jy_len : MethodName := ⟨"java/lang/String", "length", "()I"⟩
abbrev jw_len : List Cond := Cond.code jy_len prog_21_method_54_code 1 (some .int) :: jm_T
theorem jc_len : Cond.code jy_len prog_21_method_54_code 1 (some .int) ∈ jm_T := tw_416
abbrev jy_coder : MethodName := ⟨"java/lang/String", "coder", "()B"⟩
abbrev jw_coder : List Cond := Cond.code jy_coder prog_21_method_152_code 1 (some .byte) :: jm_T
theorem jc_coder : Cond.code jy_coder prog_21_method_152_code 1 (some .byte) ∈ jm_T := tw_420
abbrev jy_chr : MethodName := ⟨"java/lang/String", "charAt", "(I)C"⟩
abbrev jw_chr : List Cond := Cond.code jy_chr prog_21_method_56_code 2 (some .char) :: jm_T
theorem jc_chr : Cond.code jy_chr prog_21_method_56_code 2 (some .char) ∈ jm_T := tw_426
abbrev jy_lat : MethodName := ⟨"java/lang/String", "isLatin1", "()Z"⟩
abbrev jw_lat : List Cond := Cond.code jy_lat prog_21_method_154_code 1 (some .boolean) :: jm_T
theorem jc_lat : Cond.code jy_lat prog_21_method_154_code 1 (some .boolean) ∈ jm_T := tw_430
abbrev jy_lchr : MethodName := ⟨"java/lang/StringLatin1", "charAt", "([BI)C"⟩
abbrev jw_lchr : List Cond := Cond.code jy_lchr prog_22_method_2_code 2 (some .char) :: jm_T
theorem jc_lchr : Cond.code jy_lchr prog_22_method_2_code 2 (some .char) ∈ jm_T := tw_433
abbrev jy_chk : MethodName := ⟨"java/lang/String", "checkIndex", "(II)V"⟩
abbrev jw_chk : List Cond := Cond.code jy_chk prog_21_method_155_code 2 (none) :: jm_T
theorem jc_chk : Cond.code jy_chk prog_21_method_155_code 2 (none) ∈ jm_T := tw_436
abbrev jy_pchk : MethodName := ⟨"jdk/internal/util/Preconditions", "checkIndex", "(IILjava/util/function/BiFunction;)I"⟩
abbrev jw_pchk : List Cond := Cond.code jy_pchk prog_30_method_11_code 3 (some .int) :: jm_T
theorem jc_pchk : Cond.code jy_pchk prog_30_method_11_code 3 (some .int) ∈ jm_T := tw_441

theorem jd_len_0 : decode prog_21_method_54_code 0 = .ok (.aload_n 0, 1) := by decide +kernel
theorem jd_len_1 : decode prog_21_method_54_code 1 = .ok (.getfield 9, 3) := by decide +kernel
theorem jd_len_4 : decode prog_21_method_54_code 4 = .ok (.arraylength, 1) := by decide +kernel
theorem jd_len_5 : decode prog_21_method_54_code 5 = .ok (.aload_n 0, 1) := by decide +kernel
theorem jd_len_6 : decode prog_21_method_54_code 6 = .ok (.invokevirtual 335, 3) := by decide +kernel
theorem jd_len_9 : decode prog_21_method_54_code 9 = .ok (.ishr, 1) := by decide +kernel
theorem jd_len_10 : decode prog_21_method_54_code 10 = .ok (.ireturn, 1) := by decide +kernel
theorem jd_chr_0 : decode prog_21_method_56_code 0 = .ok (.aload_n 0, 1) := by decide +kernel
theorem jd_chr_1 : decode prog_21_method_56_code 1 = .ok (.invokevirtual 492, 3) := by decide +kernel
theorem jd_chr_4 : decode prog_21_method_56_code 4 = .ok (.ifCond .eq 12, 3) := by decide +kernel
theorem jd_chr_7 : decode prog_21_method_56_code 7 = .ok (.aload_n 0, 1) := by decide +kernel
theorem jd_chr_8 : decode prog_21_method_56_code 8 = .ok (.getfield 9, 3) := by decide +kernel
theorem jd_chr_11 : decode prog_21_method_56_code 11 = .ok (.iload_n 1, 1) := by decide +kernel
theorem jd_chr_12 : decode prog_21_method_56_code 12 = .ok (.invokestatic 495, 3) := by decide +kernel
theorem jd_chr_15 : decode prog_21_method_56_code 15 = .ok (.ireturn, 1) := by decide +kernel
theorem jd_lchr_0 : decode prog_22_method_2_code 0 = .ok (.iload_n 1, 1) := by decide +kernel
theorem jd_lchr_1 : decode prog_22_method_2_code 1 = .ok (.aload_n 0, 1) := by decide +kernel
theorem jd_lchr_2 : decode prog_22_method_2_code 2 = .ok (.arraylength, 1) := by decide +kernel
theorem jd_lchr_3 : decode prog_22_method_2_code 3 = .ok (.invokestatic 9, 3) := by decide +kernel
theorem jd_lchr_6 : decode prog_22_method_2_code 6 = .ok (.aload_n 0, 1) := by decide +kernel
theorem jd_lchr_7 : decode prog_22_method_2_code 7 = .ok (.iload_n 1, 1) := by decide +kernel
theorem jd_lchr_8 : decode prog_22_method_2_code 8 = .ok (.baload, 1) := by decide +kernel
theorem jd_lchr_9 : decode prog_22_method_2_code 9 = .ok (.sipush 255, 3) := by decide +kernel
theorem jd_lchr_12 : decode prog_22_method_2_code 12 = .ok (.iand, 1) := by decide +kernel
theorem jd_lchr_13 : decode prog_22_method_2_code 13 = .ok (.i2c, 1) := by decide +kernel
theorem jd_lchr_14 : decode prog_22_method_2_code 14 = .ok (.ireturn, 1) := by decide +kernel
theorem jd_chk_0 : decode prog_21_method_155_code 0 = .ok (.iload_n 0, 1) := by decide +kernel
theorem jd_chk_1 : decode prog_21_method_155_code 1 = .ok (.iload_n 1, 1) := by decide +kernel
theorem jd_chk_2 : decode prog_21_method_155_code 2 = .ok (.getstatic 1053, 3) := by decide +kernel
theorem jd_chk_5 : decode prog_21_method_155_code 5 = .ok (.invokestatic 1059, 3) := by decide +kernel
theorem jd_chk_8 : decode prog_21_method_155_code 8 = .ok (.pop, 1) := by decide +kernel
theorem jd_chk_9 : decode prog_21_method_155_code 9 = .ok (.return_, 1) := by decide +kernel
def jm_PcJ (G : jm_G) (as : List Value) : Array Value → State → Prop := fun a U => a = as.toArray ∧ jm_Env G U ∧ ∀ q : Nat, q < jm_bs G → U.heap[q]? = G.2.2.2[q]?
theorem jm_blindJ (G : jm_G) (as : List Value) : FrameBlind (jm_PcJ G as) := fun a U g mk q => ⟨q.1, jm_Env.same (u := U) (U := U.calling g mk a) rfl q.2.1, q.2.2⟩
theorem jm_Str {G : jm_G} {s : State} (hE : jm_Env G s) (hZ : ∀ q : Nat, q < jm_bs G → s.heap[q]? = G.2.2.2[q]?) : vk_S 8 jm_slens jm_sbyts (G.1 60) (G.1 61) (fun q => jm_bs G ≤ q) s s.heap ∧ va_Z "java/lang/String" "COMPACT_STRINGS" "Z" (.int 1) (fun q => jm_bs G ≤ q) s s.heap ∧ va_Zq "jdk/internal/util/Preconditions" "SIOOBE_FORMATTER" "Ljava/util/function/BiFunction;" (fun q => jm_bs G ≤ q) s s.heap := by
  have hq : ∀ a : Nat, a < G.2.2.2.size → ¬ (jm_bs G ≤ a) → s.heap[a]? = G.2.2.2[a]? := fun a h _ => hZ a h
  exact ⟨hE.2.2.2.1.kept hq, hE.2.2.2.2.2.1.kept hq, hE.2.2.2.2.2.2.1.kept hq⟩
section JMT
variable {y : jm_M} {k : Nat}
set_option maxHeartbeats 4000000 in
set_option maxRecDepth 100000 in
theorem jt_coder (l : Launch) (G : jm_G) {i : Nat} (hi : i < 8) : Met l jy_coder jw_coder { frames := 0, cells := 0, slots := 0, locals := 0 } (jm_PcJ G [.ref (G.1 60 i)]) (QcRead 0) 0 0 (fun _ => False) := by
  refine Met.ofW (cc := prog_21_method_152_code) (maxL := 1) (ret := some .byte) (by decide) rfl ?_
  intro p e s m args below meth c s₁ B hml hv
  obtain ⟨rfl, hE, hZ⟩ := hv
  have hx := B.exec
  have hb := B.bytes
  have hr := B.returns
  have hts := fun w (hw : w ∈ jm_T) => atoms_spec (ws := jw_coder) B.pre w (List.mem_cons_of_mem _ hw)
  have hown : s.vm.findClass "java/lang/String" = some m.cls := findClass_of_methodNamed B.named
  have hlocks := B.notSynchronized
  obtain ⟨hV, hC, hP⟩ := jm_Str hE hZ
  have hS : va_S (fun q => jm_bs G ≤ q) s.heap s.heap [] := va_S.rf
  have hl := lv_entry ([.ref (G.1 60 i)]) (n := 1) (Nat.le_of_ble_eq_true rfl)
  rw [lg_entry_eq]
  generalize (lg_sl ([.ref (G.1 60 i)]) ++ List.replicate (1 - (lg_sl ([.ref (G.1 60 i)])).length) Slot.unset).toArray = ls at hl ⊢
  refine va_gets hx hb hC hS hown (hts _ tw_421) (fun _ h => h) (index := 38) (by decide +kernel) ?_
  refine lv_if_eq (tgt := 13) (off := 10) hx hb (by decide +kernel) (by decide) (fun hc => absurd hc (by decide)) (fun _ => ?_)
  refine lv_aload_n (i := 0) hx hb (k := 0) (by decide +kernel) rfl (lv_at hl 0 rfl) ?_
  refine vk_getf hx hb (hV.1 i hi).2.1 hS hown (hts _ tw_1800) (fun _ h => h) (index := 15) (by decide +kernel) ?_
  refine lv_goto (tgt := 14) (off := 4) hx hb (by decide +kernel) (by decide) ?_
  exact W.zret hx hb hr rfl (fun t ht _ => ⟨rfl, ht⟩) (fun q h => by cases h) (by decide +kernel) hlocks
set_option maxHeartbeats 4000000 in
set_option maxRecDepth 100000 in
theorem jt_lat (l : Launch) (G : jm_G) {i : Nat} (hi : i < 8) : Met l jy_lat jw_lat { frames := 0, cells := 0, slots := 0, locals := 0 } (jm_PcJ G [.ref (G.1 60 i)]) (QcRead 1) 0 0 (fun _ => False) := by
  refine Met.ofW (cc := prog_21_method_154_code) (maxL := 1) (ret := some .boolean) (by decide) rfl ?_
  intro p e s m args below meth c s₁ B hml hv
  obtain ⟨rfl, hE, hZ⟩ := hv
  have hx := B.exec
  have hb := B.bytes
  have hr := B.returns
  have hts := fun w (hw : w ∈ jm_T) => atoms_spec (ws := jw_lat) B.pre w (List.mem_cons_of_mem _ hw)
  have hown : s.vm.findClass "java/lang/String" = some m.cls := findClass_of_methodNamed B.named
  have hlocks := B.notSynchronized
  obtain ⟨hV, hC, hP⟩ := jm_Str hE hZ
  have hS : va_S (fun q => jm_bs G ≤ q) s.heap s.heap [] := va_S.rf
  have hl := lv_entry ([.ref (G.1 60 i)]) (n := 1) (Nat.le_of_ble_eq_true rfl)
  rw [lg_entry_eq]
  generalize (lg_sl ([.ref (G.1 60 i)]) ++ List.replicate (1 - (lg_sl ([.ref (G.1 60 i)])).length) Slot.unset).toArray = ls at hl ⊢
  refine va_gets hx hb hC hS hown (hts _ tw_421) (fun _ h => h) (index := 38) (by decide +kernel) ?_
  refine lv_if_eq (tgt := 17) (off := 14) hx hb (by decide +kernel) (by decide) (fun hc => absurd hc (by decide)) (fun _ => ?_)
  refine lv_aload_n (i := 0) hx hb (k := 0) (by decide +kernel) rfl (lv_at hl 0 rfl) ?_
  refine vk_getf hx hb (hV.1 i hi).2.1 hS hown (hts _ tw_1800) (fun _ h => h) (index := 15) (by decide +kernel) ?_
  refine lv_if_ne (tgt := 17) (off := 7) hx hb (by decide +kernel) (by decide) (fun hc => absurd rfl hc) (fun _ => ?_)
  refine lv_iconst (n := 1) (v := 1) hx hb (by decide +kernel) (by decide) ?_
  refine lv_goto (tgt := 18) (off := 4) hx hb (by decide +kernel) (by decide) ?_
  exact W.zret hx hb hr rfl (fun t ht _ => ⟨rfl, ht⟩) (fun q h => by cases h) (by decide +kernel) hlocks
set_option maxHeartbeats 4000000 in
set_option maxRecDepth 100000 in
theorem jt_pchk (l : Launch) (G : jm_G) {j n : Int32} {v : Value} (h0 : ¬ j < 0) (h1 : j < n) (hv0 : v.category = 1) : Met l jy_pchk jw_pchk { frames := 0, cells := 0, slots := 0, locals := 0 } (jm_PcJ G [.int j, .int n, v]) (QcRead j) 0 0 (fun _ => False) := by
  refine Met.ofW (cc := prog_30_method_11_code) (maxL := 3) (ret := some .int) (by decide) rfl ?_
  intro p e s m args below meth c s₁ B hml hv
  obtain ⟨rfl, hE, hZ⟩ := hv
  have hx := B.exec
  have hb := B.bytes
  have hr := B.returns
  have hlocks := B.notSynchronized
  have hl := lv_entry ([.int j, .int n, v]) (n := 3) (by simp [lg_sl, hv0, show (Value.int j).category = 1 from rfl, show (Value.int n).category = 1 from rfl])
  rw [lg_entry_eq]
  generalize (lg_sl ([.int j, .int n, v]) ++ List.replicate (3 - (lg_sl ([.int j, .int n, v])).length) Slot.unset).toArray = ls at hl ⊢
  refine lv_iload_n (i := 0) hx hb (k := 0) (by decide +kernel) rfl (lv_at hl 0 rfl) ?_
  refine lv_if_lt (tgt := 9) (off := 8) hx hb (by decide +kernel) (by decide) (fun hc => absurd hc h0) (fun _ => ?_)
  refine lv_iload_n (i := 0) hx hb (k := 0) (by decide +kernel) rfl (lv_at hl 0 rfl) ?_
  refine lv_iload_n (i := 1) hx hb (k := 1) (by decide +kernel) rfl (lv_at hl 1 rfl) ?_
  refine lv_icmp_lt (tgt := 16) (off := 10) hx hb (by decide +kernel) (by decide) (fun _ => ?_) (fun hc => absurd h1 hc)
  refine lv_iload_n (i := 0) hx hb (k := 0) (by decide +kernel) rfl (lv_at hl 0 rfl) ?_
  exact W.iret hx hb hr (fun t ht _ => ⟨rfl, ht⟩) (fun q h => by cases h) (by decide +kernel) hlocks
theorem jt_cb {R : Room} {s : State} {args : Array Value} {own : String} {index maxL n f lo : Nat} {z : MethodName} {bytes : ByteArray} {ret : Option FieldType} (hts : ∀ w ∈ jm_T, w.before args s = true) (hcode : Cond.code z bytes maxL ret ∈ jm_T) (hini : Cond.initialized z.cls ∈ jm_T) (hl : Cond.methodLink own index z ∈ jm_T) (hd : z.cls ≠ "java/lang/invoke/MethodHandle" ∧ z.cls ≠ "java/lang/invoke/VarHandle" ∧ (parseMethodDescriptor z.desc).map (fun d => d.parameters.length) = some n) (hR : f + 1 ≤ R.frames ∧ 8 + (maxL + 11) + lo ≤ R.locals) :
    CallB R s args own index z bytes maxL ret (Cond.code z bytes maxL ret :: jm_T) { frames := f, cells := 0, slots := 0, locals := lo } 0 0 n := callB_of n hts (jm_good hcode) rfl rfl rfl (hts _ hini) (hts _ hl) hd hR
/-- behind a call that changes nothing and answers nothing -/
def QcNone : Array Value → State → Outcome → State → Prop := fun _ st o t => o = .returned none ∧ t.heap = st.heap
theorem jt_callN {p : Program} {l : Launch} {e : Env} {R : Room} {s : State} {m : MethodId} {args : Array Value} {below : List Frame} {meth : Method} {c : Code} {H : Heap} {locs : List Loc} {cells slots : Nat} {Q : State → Prop} {g : JFrame} {rest : List Value} {a : Array Value} (hr : CallRun p l e R s m args below meth c H locs cells slots 0 0 g rest (QcNone a) (fun _ => False)) (kk : W p l e R s m args below meth c H locs cells slots Q { g with pc := g.pc + 3, stack := rest }) : W p l e R s m args below meth c H locs cells slots Q g := by
  intro T hT X
  obtain ⟨v, st₀, t, T', L, h0, X', hL, e1, ⟨hv, hh⟩, st⟩ := hr T hT X
  cases hv
  obtain ⟨t2, a1, b1⟩ := kk T' (by rw [e1, hh, h0]) (Stand.forget X' (fun q h => (hL q h).elim))
  exact ⟨t2, st t2 a1, b1⟩
set_option maxHeartbeats 4000000 in
set_option maxRecDepth 100000 in
theorem jt_chk (l : Launch) (G : jm_G) {j n : Int32} (h0 : ¬ j < 0) (h1 : j < n) : Met l jy_chk jw_chk { frames := 1, cells := 0, slots := 0, locals := 22 } (jm_PcJ G [.int j, .int n]) QcNone 0 0 (fun _ => False) := by
  refine Met.ofW (cc := prog_21_method_155_code) (maxL := 2) (ret := none) (by decide) rfl ?_
  intro p e s m args below meth c s₁ B hml hv
  obtain ⟨rfl, hE, hZ⟩ := hv
  have hx := B.exec
  have hb := B.bytes
  have hr := B.returns
  have hts := fun w (hw : w ∈ jm_T) => atoms_spec (ws := jw_chk) B.pre w (List.mem_cons_of_mem _ hw)
  have hown : s.vm.findClass "java/lang/String" = some m.cls := findClass_of_methodNamed B.named
  have hlocks := B.notSynchronized
  obtain ⟨hV, hC, hP⟩ := jm_Str hE hZ
  have hS : va_S (fun q => jm_bs G ≤ q) s.heap s.heap [] := va_S.rf
  have hl := lv_entry ([.int j, .int n]) (n := 2) (Nat.le_of_ble_eq_true rfl)
  rw [lg_entry_eq]
  generalize (lg_sl ([.int j, .int n]) ++ List.replicate (2 - (lg_sl ([.int j, .int n])).length) Slot.unset).toArray = ls at hl ⊢
  refine lv_iload_n (i := 0) hx hb (k := 0) jd_chk_0 rfl (lv_at hl 0 rfl) ?_
  refine lv_iload_n (i := 1) hx hb (k := 1) jd_chk_1 rfl (lv_at hl 1 rfl) ?_
  have key : ∀ v : Value, v.category = 1 → va_Z "jdk/internal/util/Preconditions" "SIOOBE_FORMATTER" "Ljava/util/function/BiFunction;" v (fun q => jm_bs G ≤ q) s s.heap → W p l e { frames := 1, cells := 0, slots := 0, locals := 22 } s m #[Value.int j, Value.int n] below meth c s.heap [] 0 0 (MQ below QcNone #[Value.int j, Value.int n] s 0 0 (fun _ => False)) (F0 m 2 ls [.int n, .int j]) := by
    intro v hv hz
    refine va_gets hx hb hz hS hown (hts _ tw_437) (fun _ h => h) (index := 1053) jd_chk_2 ?_
    refine W.callR (r := j) (W.runS (nL := 2) (As := [.int j, .int n, v]) (rest := []) ⟨hx, hb, hml, hown, hts⟩ (jt_pchk l G h0 h1 hv) ⟨jt_cb (n := 3) hts jc_pchk tw_13 tw_439 ⟨by decide +kernel, by decide +kernel, by decide +kernel⟩ ⟨Nat.le_of_ble_eq_true rfl, Nat.le_of_ble_eq_true rfl⟩, hts _ tw_440⟩ ⟨jm_blindJ G _, fun U hU hW => ⟨rfl, hE.warm hW, fun q hq => by rw [hU]; exact hZ q hq⟩⟩ rfl rfl hl.1 rfl (lv_room (m := m) (pc := 0) (ls := ls) (rest := []) (Nat.le_of_ble_eq_true rfl)) jd_chk_5 ⟨Nat.le_of_ble_eq_true rfl, Nat.le_of_ble_eq_true rfl⟩) ?_
    refine lv_pop hx hb jd_chk_8 rfl ?_
    exact W.vret hx hb hr (fun t ht _ => ⟨rfl, ht⟩) (fun q h => by cases h) jd_chk_9 hlocks
  rcases hP with hz | ⟨t, hz⟩
  · exact key _ rfl hz
  · exact key _ rfl hz
theorem jm_clamp {j : Int32} {n : Nat} (h : jm_in j n) (hn : n < 2 ^ 31) : ¬ j < 0 ∧ j < Int32.ofNat n := by
  refine ⟨fun q => jm_in_vp h (Or.inl q), ?_⟩
  rw [Int32.lt_iff_toInt_lt]
  have e : (Int32.ofNat n).toInt = n := nI_toInt hn
  rw [e]
  exact h.2
theorem jm_str_all : ∀ i, i < 8 → (jm_slens.getD i 0 = jm_strl i ∧ jm_strl i < 2 ^ 31 ∧ ∀ j, j < jm_strl i → ((((jm_sbyts.getD i []).getD j 0 &&& 255).toUInt32 % 65536).toInt32 = ((jm_str i).getD j 0).toInt32 ∧ narrow .char (.int ((jm_str i).getD j 0).toInt32) = .int ((jm_str i).getD j 0).toInt32)) := by decide +kernel
set_option maxHeartbeats 4000000 in
set_option maxRecDepth 100000 in
theorem jt_lchr (l : Launch) (G : jm_G) {i : Nat} (hi : i < 8) {j : Int32} (hj : jm_in j (jm_strl i)) : Met l jy_lchr jw_lchr { frames := 2, cells := 0, slots := 0, locals := 43 } (jm_PcJ G [.ref (G.1 61 i), .int j]) (QcRead ((jm_str i).getD j.toNatClampNeg 0).toInt32) 0 0 (fun _ => False) := by
  refine Met.ofW (cc := prog_22_method_2_code) (maxL := 2) (ret := some .char) (by decide) rfl ?_
  intro p e s m args below meth c s₁ B hml hv
  obtain ⟨rfl, hE, hZ⟩ := hv
  have hx := B.exec
  have hb := B.bytes
  have hr := B.returns
  have hts := fun w (hw : w ∈ jm_T) => atoms_spec (ws := jw_lchr) B.pre w (List.mem_cons_of_mem _ hw)
  have hown : s.vm.findClass "java/lang/StringLatin1" = some m.cls := findClass_of_methodNamed B.named
  have hlocks := B.notSynchronized
  obtain ⟨hV, hC, hP⟩ := jm_Str hE hZ
  have hS : va_S (fun q => jm_bs G ≤ q) s.heap s.heap [] := va_S.rf
  obtain ⟨hsl, hsm, hel⟩ := jm_str_all i hi
  obtain ⟨h0, h1⟩ := jm_clamp hj hsm
  obtain ⟨he1, he2⟩ := hel _ (jm_in_lt hj)
  have hT := (hV.1 i hi).2.2.2
  rw [hsl] at hT
  have hl := lv_entry ([.ref (G.1 61 i), .int j]) (n := 2) (Nat.le_of_ble_eq_true rfl)
  rw [lg_entry_eq]
  generalize (lg_sl ([.ref (G.1 61 i), .int j]) ++ List.replicate (2 - (lg_sl ([.ref (G.1 61 i), .int j])).length) Slot.unset).toArray = ls at hl ⊢
  refine lv_iload_n (i := 1) hx hb (k := 1) jd_lchr_0 rfl (lv_at hl 1 rfl) ?_
  refine lv_aload_n (i := 0) hx hb (k := 0) jd_lchr_1 rfl (lv_at hl 0 rfl) ?_
  refine va_tlen hx hb hT hS (v := Int32.ofNat (jm_strl i)) rfl jd_lchr_2 ?_
  refine jt_callN (W.runS (nL := 2) (As := [.int j, .int (Int32.ofNat (jm_strl i))]) (rest := []) ⟨hx, hb, hml, hown, hts⟩ (jt_chk l G h0 h1) ⟨jt_cb (n := 2) hts jc_chk tw_11 tw_434 ⟨by decide +kernel, by decide +kernel, by decide +kernel⟩ ⟨Nat.le_of_ble_eq_true rfl, Nat.le_of_ble_eq_true rfl⟩, hts _ tw_435⟩ ⟨jm_blindJ G _, fun U hU hW => ⟨rfl, hE.warm hW, fun q hq => by rw [hU]; exact hZ q hq⟩⟩ rfl rfl hl.1 rfl (lv_room (m := m) (pc := 0) (ls := ls) (rest := []) (Nat.le_of_ble_eq_true rfl)) jd_lchr_3 ⟨Nat.le_of_ble_eq_true rfl, Nat.le_of_ble_eq_true rfl⟩) ?_
  refine lv_aload_n (i := 0) hx hb (k := 0) jd_lchr_6 rfl (lv_at hl 0 rfl) ?_
  refine lv_iload_n (i := 1) hx hb (k := 1) jd_lchr_7 rfl (lv_at hl 1 rfl) ?_
  refine va_tb hx hb hT hS (jm_in_vp hj) rfl jd_lchr_8 ?_
  refine lv_sipush (n := 255) (v := 255) hx hb jd_lchr_9 (by decide) ?_
  refine lv_iand hx hb jd_lchr_12 ?_
  refine lv_i2c hx hb jd_lchr_13 he1 ?_
  exact W.zret hx hb hr he2 (fun t ht _ => ⟨rfl, ht⟩) (fun q h => by cases h) jd_lchr_14 hlocks
set_option maxHeartbeats 4000000 in
set_option maxRecDepth 100000 in
theorem jt_len (l : Launch) (G : jm_G) {i : Nat} (hi : i < 8) : Met l jy_len jw_len { frames := 1, cells := 0, slots := 0, locals := 20 } (jm_PcJ G [.ref (G.1 60 i)]) (QcRead (jm_strl i).toInt32) 0 0 (fun _ => False) := by
  refine Met.ofW (cc := prog_21_method_54_code) (maxL := 1) (ret := some .int) (by decide) rfl ?_
  intro p e s m args below meth c s₁ B hml hv
  obtain ⟨rfl, hE, hZ⟩ := hv
  have hx := B.exec
  have hb := B.bytes
  have hr := B.returns
  have hts := fun w (hw : w ∈ jm_T) => atoms_spec (ws := jw_len) B.pre w (List.mem_cons_of_mem _ hw)
  have hown : s.vm.findClass "java/lang/String" = some m.cls := findClass_of_methodNamed B.named
  have hlocks := B.notSynchronized
  obtain ⟨hV, hC, hP⟩ := jm_Str hE hZ
  have hS : va_S (fun q => jm_bs G ≤ q) s.heap s.heap [] := va_S.rf
  obtain ⟨hsl, hsm, hel⟩ := jm_str_all i hi
  have hT := (hV.1 i hi).2.2.2
  rw [hsl] at hT
  have hl := lv_entry ([.ref (G.1 60 i)]) (n := 1) (Nat.le_of_ble_eq_true rfl)
  rw [lg_entry_eq]
  generalize (lg_sl ([.ref (G.1 60 i)]) ++ List.replicate (1 - (lg_sl ([.ref (G.1 60 i)])).length) Slot.unset).toArray = ls at hl ⊢
  refine lv_aload_n (i := 0) hx hb (k := 0) jd_len_0 rfl (lv_at hl 0 rfl) ?_
  refine vk_getf hx hb (hV.1 i hi).2.2.1 hS hown (hts _ tw_1799) (fun _ h => h) (index := 9) jd_len_1 ?_
  refine va_tlen hx hb hT hS (v := Int32.ofNat (jm_strl i)) rfl jd_len_4 ?_
  refine lv_aload_n (i := 0) hx hb (k := 0) jd_len_5 rfl (lv_at hl 0 rfl) ?_
  refine W.callR (r := 0) (W.runV (C := "java/lang/String") (nL := 1) (b := G.1 60 i) (As := []) (rest := [.int (Int32.ofNat (jm_strl i))]) ⟨hx, hb, hml, hown, hts⟩ (jt_coder l G hi) ⟨jt_cb (n := 0) hts jc_coder tw_11 tw_417 ⟨by decide +kernel, by decide +kernel, by decide +kernel⟩ ⟨Nat.le_of_ble_eq_true rfl, Nat.le_of_ble_eq_true rfl⟩, hts _ tw_418, hts _ tw_419⟩ ⟨jm_blindJ G _, vk_recv hV hi hS, fun U hU hW => ⟨rfl, hE.warm hW, fun q hq => by rw [hU]; exact hZ q hq⟩⟩ rfl rfl hl.1 rfl (lv_room (m := m) (pc := 0) (ls := ls) (rest := []) (Nat.le_of_ble_eq_true rfl)) jd_len_6 ⟨Nat.le_of_ble_eq_true rfl, Nat.le_of_ble_eq_true rfl⟩) ?_
  refine lv_ishr hx hb jd_len_9 ?_
  have e0 : ∀ i, i < 8 → Int32.ofNat (jm_strl i) >>> ((0 : Int32) &&& 31) = (jm_strl i).toInt32 := by decide +kernel
  rw [e0 i hi]
  exact W.iret hx hb hr (fun t ht _ => ⟨rfl, ht⟩) (fun q h => by cases h) jd_len_10 hlocks
set_option maxHeartbeats 4000000 in
set_option maxRecDepth 100000 in
theorem jt_chr (l : Launch) (G : jm_G) {i : Nat} (hi : i < 8) {j : Int32} (hj : jm_in j (jm_strl i)) : Met l jy_chr jw_chr { frames := 3, cells := 0, slots := 0, locals := 64 } (jm_PcJ G [.ref (G.1 60 i), .int j]) (QcRead ((jm_str i).getD j.toNatClampNeg 0).toInt32) 0 0 (fun _ => False) := by
  refine Met.ofW (cc := prog_21_method_56_code) (maxL := 2) (ret := some .char) (by decide) rfl ?_
  intro p e s m args below meth c s₁ B hml hv
  obtain ⟨rfl, hE, hZ⟩ := hv
  have hx := B.exec
  have hb := B.bytes
  have hr := B.returns
  have hts := fun w (hw : w ∈ jm_T) => atoms_spec (ws := jw_chr) B.pre w (List.mem_cons_of_mem _ hw)
  have hown : s.vm.findClass "java/lang/String" = some m.cls := findClass_of_methodNamed B.named
  have hlocks := B.notSynchronized
  obtain ⟨hV, hC, hP⟩ := jm_Str hE hZ
  have hS : va_S (fun q => jm_bs G ≤ q) s.heap s.heap [] := va_S.rf
  obtain ⟨hsl, hsm, hel⟩ := jm_str_all i hi
  obtain ⟨he1, he2⟩ := hel _ (jm_in_lt hj)
  have hl := lv_entry ([.ref (G.1 60 i), .int j]) (n := 2) (Nat.le_of_ble_eq_true rfl)
  rw [lg_entry_eq]
  generalize (lg_sl ([.ref (G.1 60 i), .int j]) ++ List.replicate (2 - (lg_sl ([.ref (G.1 60 i), .int j])).length) Slot.unset).toArray = ls at hl ⊢
  refine lv_aload_n (i := 0) hx hb (k := 0) jd_chr_0 rfl (lv_at hl 0 rfl) ?_
  refine W.callR (r := 1) (W.runV (C := "java/lang/String") (nL := 2) (b := G.1 60 i) (As := []) (rest := []) ⟨hx, hb, hml, hown, hts⟩ (jt_lat l G hi) ⟨jt_cb (n := 0) hts jc_lat tw_11 tw_427 ⟨by decide +kernel, by decide +kernel, by decide +kernel⟩ ⟨Nat.le_of_ble_eq_true rfl, Nat.le_of_ble_eq_true rfl⟩, hts _ tw_428, hts _ tw_429⟩ ⟨jm_blindJ G _, vk_recv hV hi hS, fun U hU hW => ⟨rfl, hE.warm hW, fun q hq => by rw [hU]; exact hZ q hq⟩⟩ rfl rfl hl.1 rfl (lv_room (m := m) (pc := 0) (ls := ls) (rest := []) (Nat.le_of_ble_eq_true rfl)) jd_chr_1 ⟨Nat.le_of_ble_eq_true rfl, Nat.le_of_ble_eq_true rfl⟩) ?_
  refine lv_if_eq (tgt := 16) (off := 12) hx hb jd_chr_4 rfl (fun hc => absurd hc (by decide)) (fun _ => ?_)
  refine lv_aload_n (i := 0) hx hb (k := 0) jd_chr_7 rfl (lv_at hl 0 rfl) ?_
  refine vk_getf hx hb (hV.1 i hi).2.2.1 hS hown (hts _ tw_1799) (fun _ h => h) (index := 9) jd_chr_8 ?_
  refine lv_iload_n (i := 1) hx hb (k := 1) jd_chr_11 rfl (lv_at hl 1 rfl) ?_
  refine W.callR (r := ((jm_str i).getD j.toNatClampNeg 0).toInt32) (W.runS (nL := 2) (As := [.ref (G.1 61 i), .int j]) (rest := []) ⟨hx, hb, hml, hown, hts⟩ (jt_lchr l G hi hj) ⟨jt_cb (n := 2) hts jc_lchr tw_12 tw_431 ⟨by decide +kernel, by decide +kernel, by decide +kernel⟩ ⟨Nat.le_of_ble_eq_true rfl, Nat.le_of_ble_eq_true rfl⟩, hts _ tw_432⟩ ⟨jm_blindJ G _, fun U hU hW => ⟨rfl, hE.warm hW, fun q hq => by rw [hU]; exact hZ q hq⟩⟩ rfl rfl hl.1 rfl (lv_room (m := m) (pc := 0) (ls := ls) (rest := []) (Nat.le_of_ble_eq_true rfl)) jd_chr_12 ⟨Nat.le_of_ble_eq_true rfl, Nat.le_of_ble_eq_true rfl⟩) ?_
  exact W.zret hx hb hr he2 (fun t ht _ => ⟨rfl, ht⟩) (fun q h => by cases h) jd_chr_15 hlocks
theorem jm_n_ldcs {n i : Nat} (hs : ((jm_nm y).cls, n, i) ∈ jm_sref) (hi8 : i < 8) (hd : decode (jm_by y) (jm_pc y k) = .ok (.ldc n, 2)) (hp : jm_pc y (k + 1) = jm_pc y k + 2) : jm_SN y k (jm_ldcs i) := by
  intro G p l e R s m args below meth c cells slots Q C ls st h k' ls' st' h' hf hW
  obtain ⟨hx, hb, hml, hown, hts, hE, hAm, hfr, hlo, hce, hsl, hZ⟩ := C
  cases hf
  intro ok okL H locs A hR hS hL
  refine va_ldcS hx hb hown (hE.2.2.2.2.1 _ hs) hd ?_
  have := hW ⟨(show i < jm_cnt 60 from hi8), ok⟩ okL H locs A hR hS hL
  rw [hp] at this
  exact this
theorem jm_n_slen {n : Nat} (hf1 : 5 ≤ jm_fr y) (hl1 : 130 ≤ jm_lo y) (hl : Cond.methodLink (jm_nm y).cls n ⟨"java/lang/String", "length", "()I"⟩ ∈ jm_T) (hd : decode (jm_by y) (jm_pc y k) = .ok (.invokevirtual n, 3)) (hp : jm_pc y (k + 1) = jm_pc y k + 3) : jm_SN y k jm_slen := by
  intro G p l e R s m args below meth c cells slots Q C ls st h k' ls' st' h' hf hW
  obtain ⟨hx, hb, hml, hown, hts, hE, hAm, hfr, hlo, hce, hsl, hZ⟩ := C
  unfold jm_slen at hf
  split at hf
  · rename_i q r
    obtain ⟨K, i⟩ := q
    split at hf
    · rename_i e1
      obtain ⟨e1, e2⟩ := e1
      dsimp only at e1
      subst e1
      cases hf
      intro ok okL H locs A hR hS hL
      have hi : i < 8 := ok.1
      obtain ⟨hV, -, -⟩ := jm_Str hE hZ
      refine W.callR (r := (jm_strl i).toInt32) (W.runV (C := "java/lang/String") (nL := jm_mx y) (b := G.1 60 i) (As := []) (rest := r.map (jm_sh G)) ⟨hx, hb, hml, hown, hts⟩ (jt_len l G hi) ⟨jt_cb (n := 0) hts jc_len tw_11 hl ⟨by decide +kernel, by decide +kernel, by decide +kernel⟩ ⟨by omega, by omega⟩, hts _ tw_414, hts _ tw_415⟩ ⟨jm_blindJ G _, vk_recv hV hi hS, fun U hU hW => ⟨rfl, hE.warm hW, fun q hq => by rw [hU]; exact hR.2.1 q hq⟩⟩ rfl rfl hL.2.1 rfl (lv_room (m := m) (pc := 0) (ls := A) (rest := []) (by rw [jm_map_cat]; exact e2)) hd ⟨by omega, by omega⟩) ?_
      have := hW ⟨trivial, ok.2⟩ okL H locs A hR hS hL
      rw [hp] at this
      exact this
    · cases hf
  · cases hf
theorem jm_n_schr {n : Nat} (hf1 : 5 ≤ jm_fr y) (hl1 : 130 ≤ jm_lo y) (hl : Cond.methodLink (jm_nm y).cls n ⟨"java/lang/String", "charAt", "(I)C"⟩ ∈ jm_T) (hd : decode (jm_by y) (jm_pc y k) = .ok (.invokevirtual n, 3)) (hp : jm_pc y (k + 1) = jm_pc y k + 3) : jm_SN y k jm_schr := by
  intro G p l e R s m args below meth c cells slots Q C ls st h k' ls' st' h' hf hW
  obtain ⟨hx, hb, hml, hown, hts, hE, hAm, hfr, hlo, hce, hsl, hZ⟩ := C
  unfold jm_schr at hf
  split at hf
  · rename_i j q r
    obtain ⟨K, i⟩ := q
    split at hf
    · rename_i e1
      obtain ⟨e1, e2, e3⟩ := e1
      dsimp only at e1 e2
      subst e1
      cases hf
      intro ok okL H locs A hR hS hL
      have hi : i < 8 := ok.2.1
      obtain ⟨hV, -, -⟩ := jm_Str hE hZ
      refine W.callR (r := ((jm_str i).getD j.toNatClampNeg 0).toInt32) (W.runV (C := "java/lang/String") (nL := jm_mx y) (b := G.1 60 i) (As := [.int j]) (rest := r.map (jm_sh G)) ⟨hx, hb, hml, hown, hts⟩ (jt_chr l G hi e2) ⟨jt_cb (n := 1) hts jc_chr tw_11 hl ⟨by decide +kernel, by decide +kernel, by decide +kernel⟩ ⟨by omega, by omega⟩, hts _ tw_424, hts _ tw_425⟩ ⟨jm_blindJ G _, vk_recv hV hi hS, fun U hU hW => ⟨rfl, hE.warm hW, fun q hq => by rw [hU]; exact hR.2.1 q hq⟩⟩ rfl rfl hL.2.1 rfl (lv_room (m := m) (pc := 0) (ls := A) (rest := []) (by rw [jm_map_cat]; exact e3)) hd ⟨by omega, by omega⟩) ?_
      have := hW ⟨trivial, ok.2.2⟩ okL H locs A hR hS hL
      rw [hp] at this
      exact this
    · cases hf
  · cases hf
end JMT
