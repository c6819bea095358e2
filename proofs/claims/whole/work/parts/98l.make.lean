/-! ===== the law makes the class, the reference and its long ===== -/
theorem lw_1 : (Jvm.Cond.initialized "FrameRound") ∈ jm_T := jm_inT' (List.mem_append_right _ (List.mem_of_getElem? (i := 1) (by decide +kernel))) (by decide +kernel)
theorem lw_9 : (Jvm.Cond.initialized "FrameRoundModel") ∈ jm_T := jm_inT' (List.mem_append_right _ (List.mem_of_getElem? (i := 9) (by decide +kernel))) (by decide +kernel)
theorem lw_25 : (Jvm.Cond.classLink "FrameRoundLaw" (8 : Nat) "FrameRound") ∈ jm_T := jm_inT' (List.mem_append_right _ (List.mem_of_getElem? (i := 25) (by decide +kernel))) (by decide +kernel)
theorem lw_26 : (Jvm.Cond.instantiable "FrameRound" (11 : Nat)) ∈ jm_T := jm_inT' (List.mem_append_right _ (List.mem_of_getElem? (i := 26) (by decide +kernel))) (by decide +kernel)
theorem lw_27 : (Jvm.Cond.methodLink "FrameRoundLaw" (15 : Nat) ({ cls := "FrameRound", name := "<init>", desc := "()V" } : Jvm.MethodName)) ∈ jm_T := jm_inT' (List.mem_append_right _ (List.mem_of_getElem? (i := 27) (by decide +kernel))) (by decide +kernel)
theorem lw_28 : (Jvm.Cond.instanceMethod ({ cls := "FrameRound", name := "<init>", desc := "()V" } : Jvm.MethodName)) ∈ jm_T := jm_inT' (List.mem_append_right _ (List.mem_of_getElem? (i := 28) (by decide +kernel))) (by decide +kernel)
theorem lw_29 : (Jvm.Cond.code ({ cls := "FrameRound", name := "<init>", desc := "()V" } : Jvm.MethodName) prog_1_method_1_code (2 : Nat) (Option.none : Option Jvm.ClassFile.FieldType)) ∈ jm_T := jm_inT' (List.mem_append_right _ (List.mem_of_getElem? (i := 29) (by decide +kernel))) (by decide +kernel)
theorem lw_1137 : (Jvm.Cond.classLink "FrameRoundLaw" (16 : Nat) "FrameRoundModel") ∈ jm_T := jm_inT' (List.mem_append_right _ (List.mem_of_getElem? (i := 1137) (by decide +kernel))) (by decide +kernel)
theorem lw_1138 : (Jvm.Cond.instantiable "FrameRoundModel" (49 : Nat)) ∈ jm_T := jm_inT' (List.mem_append_right _ (List.mem_of_getElem? (i := 1138) (by decide +kernel))) (by decide +kernel)
theorem lw_1139 : (Jvm.Cond.methodLink "FrameRoundLaw" (18 : Nat) ({ cls := "FrameRoundModel", name := "<init>", desc := "()V" } : Jvm.MethodName)) ∈ jm_T := jm_inT' (List.mem_append_right _ (List.mem_of_getElem? (i := 1139) (by decide +kernel))) (by decide +kernel)
theorem lw_1140 : (Jvm.Cond.instanceMethod ({ cls := "FrameRoundModel", name := "<init>", desc := "()V" } : Jvm.MethodName)) ∈ jm_T := jm_inT' (List.mem_append_right _ (List.mem_of_getElem? (i := 1140) (by decide +kernel))) (by decide +kernel)
theorem lw_1141 : (Jvm.Cond.code ({ cls := "FrameRoundModel", name := "<init>", desc := "()V" } : Jvm.MethodName) prog_11_method_5_code (1 : Nat) (Option.none : Option Jvm.ClassFile.FieldType)) ∈ jm_T := jm_inT' (List.mem_append_right _ (List.mem_of_getElem? (i := 1141) (by decide +kernel))) (by decide +kernel)
theorem lw_1785 : (Jvm.Cond.arrayClass Jvm.ClassFile.FieldType.long) ∈ jm_T := jm_inT' (List.mem_append_right _ (List.mem_of_getElem? (i := 1785) (by decide +kernel))) (by decide +kernel)
theorem ld_0 : decode code 0 = .ok (.new 8, 3) := by decide +kernel
theorem ld_3 : decode code 3 = .ok (.dup, 1) := by decide +kernel
theorem ld_4 : decode code 4 = .ok (.invokespecial 15, 3) := by decide +kernel
theorem ld_7 : decode code 7 = .ok (.astore_n 1, 1) := by decide +kernel
theorem ld_8 : decode code 8 = .ok (.new 16, 3) := by decide +kernel
theorem ld_11 : decode code 11 = .ok (.dup, 1) := by decide +kernel
theorem ld_12 : decode code 12 = .ok (.invokespecial 18, 3) := by decide +kernel
theorem ld_15 : decode code 15 = .ok (.astore_n 2, 1) := by decide +kernel
theorem ld_16 : decode code 16 = .ok (.iconst 1, 1) := by decide +kernel
theorem ld_17 : decode code 17 = .ok (.newarray .long, 2) := by decide +kernel
theorem ld_19 : decode code 19 = .ok (.astore_n 3, 1) := by decide +kernel
theorem ld_20 : decode code 20 = .ok (.iconst 0, 1) := by decide +kernel
theorem ld_21 : decode code 21 = .ok (.istore 4, 2) := by decide +kernel
set_option maxRecDepth 100000 in
theorem bl_FR (aT : Nat → ClassId) (o : Nat) : (blk_FR aT o).length = 199 := rfl
set_option maxRecDepth 100000 in
theorem bl_M (aT : Nat → ClassId) (o : Nat) : (blk_M aT o).length = 26 := rfl
section WALK2
variable {p : Program} {l : Launch} {e : Env} {s : State} {m : MethodId} {below : List Frame} {meth : Method} {c : Code} {b L : Nat} {xs : Nat → Int32}
set_option maxHeartbeats 4000000 in
set_option maxRecDepth 100000 in
theorem law_entry {D : va_G} {aT : Nat → ClassId} {adK adV : Nat → Nat} (hflags : l.flags = flags0) (hL : L ≤ 3072) (C0 : lw_At p s m meth c b L xs) (hts : ∀ w ∈ jm_T, w.before #[Value.ref b] s = true) (hJ : jn_Env D aT s) (hE : jm_Env (jz_G2 D aT s.heap adK adV b) s) (X1 : ∀ B, HL B) (X2 : ∀ B, HT B) (X3 : ∀ B, HA B) :
    W p l e room_1 s m #[Value.ref b] below meth c s.heap [] 0 0 (lw_Z below #[Value.ref b] s) (entryFrame m ([Value.ref b] : List Value).toArray 7) := by
  have key := law_run (e := e) (below := below) (G := jz_G2 D aT s.heap adK adV b) hflags hL C0 hts hE jz_amb2 (show (jz_G2 D aT s.heap adK adV b).1 62 0 = b from rfl) rfl X1 X2 X3
  obtain ⟨hx, hb, hr, hml, hown, -, hX, hbl, hlocks, hgv⟩ := C0
  have hl := lv_entry ([.ref b]) (n := 7) (Nat.le_of_ble_eq_true rfl)
  rw [lg_entry_eq]
  generalize (lg_sl ([.ref b]) ++ List.replicate (7 - (lg_sl ([.ref b])).length) Slot.unset).toArray = ls at hl ⊢
  have hl : lv_has ls 7 [(0, .ref b)] := hl
  obtain ⟨o, ho⟩ : ∃ o, o = s.heap.size := ⟨_, rfl⟩
  have hB : jn_B D o [] s.heap := ⟨by rw [ho]; rfl, fun k x hx => by cases hx⟩
  have hS : va_S (fun q => o ≤ q) s.heap s.heap [] := va_S.rf
  refine jn_sub hx hb (hml.trans hl.1.symm) hown hts hJ hB hS (n := 0) rfl (ci := 7) (fs := [.null, .null, .null, .null, .null, .null, .null, .int 0, .int 0, .int 0, .int 0]) (C := RX8) (T := TX8) (N := 11) rfl tyX8 (by decide +kernel) lw_25 lw_26 lw_1 (by decide +kernel) (es1 := blk_FR aT) (Nat.le_of_ble_eq_true rfl) (jk_FR l D aT) lw_29 lw_1 lw_27 lw_28 rfl ⟨by decide +kernel, by decide +kernel, by decide +kernel⟩ ⟨Nat.le_of_ble_eq_true rfl, Nat.le_of_ble_eq_true rfl⟩ (Nat.le_of_ble_eq_true rfl) ⟨Nat.le_of_ble_eq_true rfl, Nat.le_of_ble_eq_true rfl⟩ ld_0 ld_3 ld_4 (fun H locs hB hS => ?_)
  obtain ⟨P1, hP1⟩ : ∃ P, P = blk_FR aT o := ⟨_, rfl⟩
  have lP1 : P1.length = 199 := by rw [hP1]; exact bl_FR aT o
  have hB : jn_B D o P1 H := by rw [hP1]; exact hB
  refine lv_astore_n (i := 1) (lv' := [(1, .ref o), (0, .ref b)]) hx hb (k := 1) ld_7 rfl hl (by decide) rfl (fun ls hl => ?_)
  refine jn_sub hx hb (hml.trans hl.1.symm) hown hts hJ hB hS (n := 199) lP1 (ci := 8) (fs := [.int 0, .int 0, .int 0, .int 0, .null, .int 0, .int 0, .int 0, .null, .null, .null, .null, .null, .null, .null, .null, .int 0, .int 0, .int 0, .int 0, .int 0, .int 0, .int 0, .null, .null, .null, .int 0, .int 0, .int 0, .null, .null, .null, .null, .null, .null, .int 0, .null, .null, .null, .null, .null, .null, .null, .int 0, .int 0, .int 0, .int 0, .int 0, .int 0]) (C := RX9) (T := TX9) (N := 49) rfl tyX9 (by decide +kernel) lw_1137 lw_1138 lw_9 (by decide +kernel) (es1 := blk_M aT) (by rw [bl_M]; decide) (jk_M l D aT) lw_1141 lw_9 lw_1139 lw_1140 rfl ⟨by decide +kernel, by decide +kernel, by decide +kernel⟩ ⟨Nat.le_of_ble_eq_true rfl, Nat.le_of_ble_eq_true rfl⟩ (Nat.le_of_ble_eq_true rfl) ⟨Nat.le_of_ble_eq_true rfl, Nat.le_of_ble_eq_true rfl⟩ ld_8 ld_11 ld_12 (fun H locs hB hS => ?_)
  obtain ⟨P2, hP2⟩ : ∃ P, P = P1 ++ blk_M aT (o + 199) := ⟨_, rfl⟩
  have lP2 : P2.length = 225 := by rw [hP2, List.length_append, lP1, bl_M]
  have hB : jn_B D o P2 H := by rw [hP2]; exact hB
  refine lv_astore_n (i := 2) (lv' := [(2, .ref (o + 199)), (1, .ref o), (0, .ref b)]) hx hb (k := 2) ld_15 rfl hl (by decide) rfl (fun ls hl => ?_)
  refine lv_iconst (n := 1) (v := 1) hx hb ld_16 (by decide) ?_
  refine jn_newa hx hb hts (t := 2) (atype := .long) (ty := .long) rfl lw_1785 hJ.2.2.2.1 hB hS (N' := 1) (a0 := (1, .inr (.inl (fun _ => 0)))) (fun _ => rfl) (by decide) (by decide) (by decide) (Nat.le_of_ble_eq_true rfl) (Nat.le_of_ble_eq_true rfl) ld_17 (fun H hB hS => ?_)
  rw [lP2]
  refine lv_astore_n (i := 3) (lv' := [(3, .ref (o + 225)), (2, .ref (o + 199)), (1, .ref o), (0, .ref b)]) hx hb (k := 3) ld_19 rfl hl (by decide) rfl (fun ls hl => ?_)
  refine lv_iconst (n := 0) (v := 0) hx hb ld_20 (by decide) ?_
  refine lv_istore (i := 4) (lv' := [(4, .int 0), (3, .ref (o + 225)), (2, .ref (o + 199)), (1, .ref o), (0, .ref b)]) hx hb ld_21 hl (by decide) rfl (fun ls hl => ?_)
  have hoq : ∀ q : Nat, q < s.heap.size → H[q]? = s.heap[q]? := fun q hq => hS.2.1 q hq (by show ¬ o ≤ q; omega)
  have hB2 : jn_B D s.heap.size (jz_all aT s.heap.size) H := by
    rw [← ho]
    have : jz_all aT o = P2 ++ [.inl (aT 2, 1, .inr (.inl (fun _ => 0)))] := by rw [hP2, hP1]; rfl
    rw [this]; exact hB
  have hR := jz_rel2 (b := b) (jz_rel (adK := adK) (adV := adV) hB2 hoq)
  have g7 : (jz_G2 D aT s.heap adK adV b).1 7 0 = o := by rw [ho]; rfl
  have g8 : (jz_G2 D aT s.heap adK adV b).1 8 0 = o + 199 := by rw [ho]; rfl
  have g58 : (jz_G2 D aT s.heap adK adV b).1 58 0 = o + 225 := by rw [ho]; rfl
  have g62 : (jz_G2 D aT s.heap adK adV b).1 62 0 = b := rfl
  have hLo : jm_Lo (jz_G2 D aT s.heap adK adV b) 7 [some (jm_r 62 0), some (jm_r 7 0), some (jm_r 8 0), some (jm_r 58 0), some (jm_i 0), none, none] ls := by
    refine ⟨rfl, hl.1, hl.2.1, fun i v hi => ?_⟩
    match i, hi with
    | 0, hi => cases hi; exact (lv_at hl 4 rfl).trans (by show _ = some (Slot.val (Value.ref _)); rw [g62])
    | 1, hi => cases hi; exact (lv_at hl 3 rfl).trans (by show _ = some (Slot.val (Value.ref _)); rw [g7])
    | 2, hi => cases hi; exact (lv_at hl 2 rfl).trans (by show _ = some (Slot.val (Value.ref _)); rw [g8])
    | 3, hi => cases hi; exact (lv_at hl 1 rfl).trans (by show _ = some (Slot.val (Value.ref _)); rw [g58])
    | 4, hi => cases hi; exact lv_at hl 0 rfl
    | 5, hi => cases hi
    | 6, hi => cases hi
    | i + 7, hi => cases hi
  have okL : jm_okL [some (jm_r 62 0), some (jm_r 7 0), some (jm_r 8 0), some (jm_r 58 0), some (jm_i 0), none, none] := by
    intro i v hi
    match i, hi with
    | 0, hi => cases hi; exact (by decide : (0 : Nat) < jm_cnt 62)
    | 1, hi => cases hi; exact (by decide : (0 : Nat) < jm_cnt 7)
    | 2, hi => cases hi; exact (by decide : (0 : Nat) < jm_cnt 8)
    | 3, hi => cases hi; exact (by decide : (0 : Nat) < jm_cnt 58)
    | 4, hi => cases hi; trivial
    | 5, hi => cases hi
    | 6, hi => cases hi
    | i + 7, hi => cases hi
  have hS' : va_S (fun q => jm_bs (jz_G2 D aT s.heap adK adV b) ≤ q) s.heap H locs := by
    have : jm_bs (jz_G2 D aT s.heap adK adV b) = o := by rw [ho]; rfl
    rw [this]; exact hS
  exact key trivial okL H locs ls hR hS' hLo
end WALK2
