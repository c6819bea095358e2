theorem jm_P_aald {cd : List jm_I} {x' : jm_S} {k : Nat} {ls : jm_L} {st : List jm_V} {h : jm_H} {K i : Nat} {j : Int32} (hcd : cd[k]? = some (.inl jm_aald)) (h0 : (jm_el K).1 = 3) (hin : jm_in j (jm_ln K)) (hE : jm_P cd (k + 1, ls, .inr ((jm_el K).2.1, (jm_el K).2.2 * i + j.toNatClampNeg) :: st, h) x') : jm_P cd (k, ls, .inl (.int j) :: .inr (K, i) :: st, h) x' := jm_P_1 hcd (if_pos ⟨h0, hin⟩) hE
set_option maxRecDepth 100000 in
theorem wi_idle {a : Int32} {h : jm_H} {x' : jm_S} (H :
  ((h.1 3 (h.2.1 7 0 1) 0) = 0 →
    x' = (6, [some (jm_r 7 0), some (jm_i a), none], [], h)) ∧
  (¬ ((h.1 3 (h.2.1 7 0 1) 0) = 0) →
    (0 ≤ a →
      jm_in (h.1 0 0 1) 3 ∧
      ∃ (v1 : Int32) (h1 : jm_H), m_Table_emptyFrame (3 * 0 + (h.1 0 0 1).toNatClampNeg) a h v1 h1 ∧
      (0 ≤ v1 →
        False) ∧
      (¬ (0 ≤ v1) →
        x' = (21, [some (jm_r 7 0), some (jm_i a), some (jm_i v1)], [], h1))) ∧
    (¬ (0 ≤ a) →
      x' = (6, [some (jm_r 7 0), some (jm_i a), none], [], h)))) : jm_P cod_80 (0, [some (jm_r 7 0), some (jm_i a), none], [], h) x' := by
  refine jm_P_n 4 (x1 := (if (h.1 3 (h.2.1 7 0 1) 0) = 0 then 6 else 4, [some (jm_r 7 0), some (jm_i a), none], [], h)) rfl ?_
  refine jm_P_ite (fun hc => ?_) (fun hc => ?_)
  · replace H := H.1 hc
    exact jm_P_refl H
  · replace H := H.2 hc
    refine jm_P_n 2 (x1 := (if 0 ≤ a then 10 else 6, [some (jm_r 7 0), some (jm_i a), none], [], h)) rfl ?_
    refine jm_P_ite (fun hc => ?_) (fun hc => ?_)
    · replace H := H.1 hc
      refine jm_P_n 5 (x1 := (15, [some (jm_r 7 0), some (jm_i a), none], [jm_i (h.1 0 0 1), jm_r 32 0], h)) rfl ?_
      refine jm_P_aald rfl rfl H.1 ?_
      replace H := H.2
      refine jm_P_eq (x := (16, [some (jm_r 7 0), some (jm_i a), none], [jm_r 6 (3 * 0 + (h.1 0 0 1).toNatClampNeg)], h)) rfl ?_
      refine jm_P_n 1 (x1 := (17, [some (jm_r 7 0), some (jm_i a), none], [jm_i a, jm_r 6 (3 * 0 + (h.1 0 0 1).toNatClampNeg)], h)) rfl ?_
      obtain ⟨v1, h1, hR, H⟩ := H
      refine jm_P_call rfl (Nat.le_of_ble_eq_true rfl) (Nat.le_of_ble_eq_true rfl) rfl hR trivial ?_
      refine jm_P_eq (x := (18, [some (jm_r 7 0), some (jm_i a), none], [jm_i v1], h1)) rfl ?_
      refine jm_P_n 3 (x1 := (if 0 ≤ v1 then 25 else 21, [some (jm_r 7 0), some (jm_i a), some (jm_i v1)], [], h1)) rfl ?_
      refine jm_P_ite (fun hc => ?_) (fun hc => ?_)
      · replace H := H.1 hc
        exact H.elim
      · replace H := H.2 hc
        exact jm_P_refl H
    · replace H := H.2 hc
      exact jm_P_refl H
/-! ===== parts of runs are parts of the machine's runs ===== -/
theorem jm_pr_sound {l : Launch} (hms : jm_Msf jm_ms) {G : jm_G} (hAm : jm_Amb G) {y : jm_M} {p : Program} {e : Env} {R : Room} {s : State} {m : MethodId} {args : Array Value} {below : List Frame} {meth : Method} {c : Code} {cells slots : Nat} {Q : State → Prop} {cd : List jm_I}
    (hN : ∀ (k : Nat) (f : jm_F), cd[k]? = some (.inl f) → ∀ (ls : jm_L) (st : List jm_V) (h : jm_H) (k' : Nat) (ls' : jm_L) (st' : List jm_V) (h' : jm_H), f (k + 1) ls st h = some (k', ls', st', h') → jm_W G y p l e R s m args below meth c cells slots Q k' ls' st' h' → jm_W G y p l e R s m args below meth c cells slots Q k ls st h)
    (hC : ∀ (k : Nat) (c0 : Nat × Nat × Nat), cd[k]? = some (.inr (.inr c0)) → ∀ M', jm_ms[c0.1]? = some M' → jm_SC (M'.1, M'.2.1) y k c0.2.1 c0.2.2) (Cx : jm_Cx G y p R s m args c cells slots) :
    ∀ (n : Nat) (x x' : jm_S), jm_pr jm_R cd n x x' → jm_W G y p l e R s m args below meth c cells slots Q x'.1 x'.2.1 x'.2.2.1 x'.2.2.2 → jm_W G y p l e R s m args below meth c cells slots Q x.1 x.2.1 x.2.2.1 x.2.2.2 := by
  intro n
  induction n with
  | zero =>
    intro x x' q hW
    have e : x = x' := q
    rw [e]
    exact hW
  | succ n ih =>
    intro x x' q hW
    unfold jm_pr at q
    rcases q with ⟨ls', hle, q⟩ | q
    · exact fun ok okL H locs A hR hS hL => ih _ _ q hW ok (jm_okL_weak hle okL) H locs A hR hS (hL.weak hle)
    · split at q
      · exact q.elim
      · rename_i f hi
        split at q
        · exact q.elim
        · rename_i x1 hx1
          obtain ⟨k', ls', st', h'⟩ := x1
          exact hN _ f hi _ _ _ _ _ _ _ hx1 (ih _ _ q hW)
      · exact q.elim
      · rename_i c0 hi
        obtain ⟨q1, q2, q3, r, ⟨d, q4⟩, q5, q6⟩ := q
        have hM' : ∃ M', jm_ms[c0.1]? = some M' := by
          cases d with
          | zero => exact q4.elim
          | succ d => exact ⟨q4.choose, q4.choose_spec.choose_spec.1⟩
        obtain ⟨M', hM'⟩ := hM'
        exact hC _ c0 hi M' hM' G p l e R s m args below meth c cells slots Q Cx _ _ _ r q1 q2 q3 q5 (fun ok => jm_soundf hms hAm d _ _ _ _ M' q4 hM' ok) (ih _ _ q6 hW)
/-- more cells behind -/
theorem jm_Rel.ext {G : jm_G} {h : jm_H} {H H1 : Heap} (hR : jm_Rel G h H) (hbs : jm_bs G ≤ H.size) (hq : ∀ q : Nat, q < H.size → H1[q]? = H[q]?) : jm_Rel G h H1 := by
  refine ⟨fun K i hK hi => ?_, fun q hq1 => (hq q (Nat.lt_of_lt_of_le hq1 hbs)).trans (hR.2.1 q hq1), hR.2.2⟩
  have h0 := hR.1 K i hK hi
  unfold jm_at at h0 ⊢
  split
  · rename_i hc
    rw [if_pos hc] at h0
    obtain ⟨cell, q1, q2⟩ := h0
    exact ⟨cell, by rw [hq _ (Array.getElem?_eq_some_iff.mp q1).1]; exact q1, q2⟩
  · rename_i hc
    rw [if_neg hc] at h0
    rw [hq _ (Array.getElem?_eq_some_iff.mp h0).1]
    exact h0
/-! ===== FrameRound.idle throws ===== -/
def jx_E : String := "java/util/NoSuchElementException"
def jx_L : List Cond := vx_at0 "FrameRound" 419 "java/util/NoSuchElementException" ["java/lang/RuntimeException", "java/lang/Exception"]
theorem jx_L1 : jx_L.all (fun w => !goodWord w || decide (w ∈ lw_tbl)) = true := by decide +kernel
theorem jx_L2 : jx_L.all (fun w => goodWord w || decide (w ∈ jm_x4)) = true := by decide +kernel
theorem jx_L3 : (Cond.classLink "FrameRound" 417 "java/util/NoSuchElementException" :: Cond.initialized "java/util/NoSuchElementException" :: jx_L).all vx_ot = true := by decide +kernel
theorem jx_w1 : Cond.classLink "FrameRound" 417 "java/util/NoSuchElementException" ∈ jm_T := jm_inT' (List.mem_append_right _ (List.mem_of_getElem? (i := 1068) (by decide +kernel))) (by decide +kernel)
theorem jx_w2 : Cond.initialized "java/util/NoSuchElementException" ∈ jm_T := jm_inT' (List.mem_append_right _ (List.mem_of_getElem? (i := 24) (by decide +kernel))) (by decide +kernel)
theorem jx_hat {G : jm_G} {args : Array Value} {s : State} (hts : ∀ w ∈ jm_T, w.before args s = true) (hE : jm_Env G s) : ∀ w ∈ jx_L, w.before args s = true := by
  intro w hw
  by_cases g : goodWord w = true
  · have h1 := List.all_eq_true.mp jx_L1 w hw
    rw [g] at h1
    simp only [Bool.not_true, Bool.false_or, decide_eq_true_eq] at h1
    exact hts w (jm_inT' h1 g)
  · have h1 := List.all_eq_true.mp jx_L2 w hw
    have g' : goodWord w = false := by simpa using g
    rw [g'] at h1
    simp only [Bool.false_or, decide_eq_true_eq] at h1
    have h2 := hE.2.2.2.2.2.2.2.1 w h1
    simp only [jm_x4, List.mem_cons, List.not_mem_nil, or_false] at h1
    rcases h1 with rfl | rfl | rfl | rfl
    · exact va_Nw.use rfl h2
    · exact va_Nw.use rfl h2
    · exact va_Nw.use rfl h2
    · exact va_Nw.use rfl h2
def jx_XC (G : jm_G) (h1 : jm_H) : String → State → State → Prop := fun E st t => E = jx_E ∧ jm_Rel G h1 t.heap ∧ st.heap.size ≤ t.heap.size
set_option maxHeartbeats 4000000 in
set_option maxRecDepth 100000 in
theorem jx_idle (l : Launch) (hl : l.stackTraces = false) {G : jm_G} (hAm : jm_Amb G) {a : Int32} {h h1 : jm_H} {k : Nat} {ls1 : jm_L} (hk : k = 6 ∨ k = 21) (hP : jm_P cod_80 (0, jm_ent (jm_mx met_80) [jm_r 7 0, jm_i a], [], h) (k, ls1, [], h1)) :
    vx_Met l (jm_nm met_80) (Cond.code (jm_nm met_80) (jm_by met_80) (jm_mx met_80) (jm_rt met_80) :: jm_T) { frames := 7, cells := 1, slots := 6, locals := 120 } (jm_Pc G [jm_r 7 0, jm_i a] h) (fun _ _ _ _ => False) (jx_XC G h1) 1 6 (fun q => jm_bs G ≤ q) := by
  refine vx_ofW (cc := jm_by met_80) (maxL := jm_mx met_80) (ret := jm_rt met_80) (by decide) rfl ?_
  intro p e s m args below meth c s₁ B hml ht hv
  obtain ⟨rfl, hR, hE⟩ := hv
  have hts0 := atoms_spec (ws := Cond.code (jm_nm met_80) (jm_by met_80) (jm_mx met_80) (jm_rt met_80) :: jm_T) B.pre
  have hts : ∀ w ∈ jm_T, w.before ([jm_r 7 0, jm_i a].map (jm_sh G)).toArray s = true := fun w hw => hts0 w (List.mem_cons_of_mem _ hw)
  have hown : s.vm.findClass (jm_nm met_80).cls = some m.cls := findClass_of_methodNamed B.named
  have Cx : jm_Cx G met_80 p { frames := 7, cells := 1, slots := 6, locals := 120 } s m ([jm_r 7 0, jm_i a].map (jm_sh G)).toArray c 0 0 := ⟨B.exec, B.bytes, hml, hown, hts, hE, hAm, Nat.le_of_ble_eq_true rfl, Nat.le_of_ble_eq_true rfl, Nat.zero_le _, Nat.zero_le _, hR.2.1⟩
  have hS0 := (jm_all_ok 80 met_80 hz_80).2.2
  rw [lg_entry_eq]
  have hlen : (jm_enl [jm_r 7 0, jm_i a]).length ≤ jm_mx met_80 := Nat.le_of_ble_eq_true rfl
  have hl2 := lv_entry ([jm_r 7 0, jm_i a].map (jm_sh G)) (n := jm_mx met_80) (by rw [← jm_enl_len]; exact hlen)
  have hLo : jm_Lo G (jm_mx met_80) (jm_ent (jm_mx met_80) [jm_r 7 0, jm_i a]) ((lg_sl ([jm_r 7 0, jm_i a].map (jm_sh G)) ++ List.replicate (jm_mx met_80 - (lg_sl ([jm_r 7 0, jm_i a].map (jm_sh G))).length) Slot.unset).toArray) := by
    refine ⟨?_, hl2.1, hl2.2.1, fun i v hi => ?_⟩
    · unfold jm_ent
      rw [List.length_append, List.length_replicate]
      omega
    · have := hl2.2.2 _ (jm_enl_args G [jm_r 7 0, jm_i a] 0 i v (jm_ent_get hi))
      simpa using this
  obtain ⟨n, hn⟩ := hP
  have okA : jm_okS [jm_r 7 0, jm_i a] := ⟨(by decide : (0 : Nat) < jm_cnt 7), trivial, trivial⟩
  have key := jm_pr_sound (l := l) (e := e) (below := below) (meth := meth) (Q := vx_MQ below (fun _ _ _ _ => False) (jx_XC G h1) ([jm_r 7 0, jm_i a].map (jm_sh G)).toArray s 1 6 (fun q => jm_bs G ≤ q)) jm_all_ok hAm (y := met_80) (cd := cod_80) (fun k f hi => hS0 k _ hi G p l e _ s m _ below meth c 0 0 _ Cx) (fun k c0 hi => hS0 k _ hi) Cx n _ _ hn ?_ trivial (jm_okL_ent okA) s.heap [] _ hR va_S.rf hLo
  · exact key
  intro ok okL H locs A hR1 hS hL
  have hU := hE.2.2.2.2.2.2.2.2.1.kept (H1 := s.heap) (fun a hlt _ => hR.2.1 a hlt)
  have hN := hE.2.2.2.2.2.2.2.2.2.kept (H1 := s.heap) (fun a hlt _ => hR.2.1 a hlt)
  have hbsz : jm_bs G ≤ s.heap.size := by
    have h0 := hR.1 7 0 (by decide) (by decide)
    have h2 := hAm.2 7 0 (by decide) (by decide)
    unfold jm_at at h0
    rw [if_pos (by decide)] at h0
    obtain ⟨cell, q1, -⟩ := h0
    have := (Array.getElem?_eq_some_iff.mp q1).1
    omega
  have hxc : ∀ t : State, s.vm.Alike t.vm → H.size ≤ t.heap.size → (∀ q : Nat, q < H.size → t.heap[q]? = H[q]?) → jx_XC G h1 jx_E s t := fun t _ hz hq => ⟨rfl, hR1.ext (by have := hS.1; omega) hq, by have := hS.1; omega⟩
  rcases hk with rfl | rfl
  · exact vx_throw0 (own := "FrameRound") (cls := "java/util/NoSuchElementException") (names := ["java/lang/RuntimeException", "java/lang/Exception"]) (ik := 417) (ic := 419) (A := fun q => jm_bs G ≤ q) (rest := []) B.exec B.bytes hl hown (by decide +kernel) (by decide +kernel) (hts _ jx_w1) (hts _ jx_w2) (jx_hat hts hE) (fun w hw => List.all_eq_true.mp jx_L3 w hw) hU hN hS (hL.2.1.trans hml.symm) (show decode (jm_by met_80) (jm_pc met_80 6) = Except.ok (Instr.new 417, 3) by decide +kernel) (show decode (jm_by met_80) (jm_pc met_80 6 + 3) = Except.ok (Instr.dup, 1) by decide +kernel) (show decode (jm_by met_80) (jm_pc met_80 6 + 4) = Except.ok (Instr.invokespecial 419, 3) by decide +kernel) (show decode (jm_by met_80) (jm_pc met_80 6 + 7) = Except.ok (Instr.athrow, 1) by decide +kernel) (fun x hx => (ht x hx).elim) (by decide) (by decide) (by decide) (by decide) B.notSynchronized hxc hS.2.2 (by decide) (by decide)
  · exact vx_throw0 (own := "FrameRound") (cls := "java/util/NoSuchElementException") (names := ["java/lang/RuntimeException", "java/lang/Exception"]) (ik := 417) (ic := 419) (A := fun q => jm_bs G ≤ q) (rest := []) B.exec B.bytes hl hown (by decide +kernel) (by decide +kernel) (hts _ jx_w1) (hts _ jx_w2) (jx_hat hts hE) (fun w hw => List.all_eq_true.mp jx_L3 w hw) hU hN hS (hL.2.1.trans hml.symm) (show decode (jm_by met_80) (jm_pc met_80 21) = Except.ok (Instr.new 417, 3) by decide +kernel) (show decode (jm_by met_80) (jm_pc met_80 21 + 3) = Except.ok (Instr.dup, 1) by decide +kernel) (show decode (jm_by met_80) (jm_pc met_80 21 + 4) = Except.ok (Instr.invokespecial 419, 3) by decide +kernel) (show decode (jm_by met_80) (jm_pc met_80 21 + 7) = Except.ok (Instr.athrow, 1) by decide +kernel) (fun x hx => (ht x hx).elim) (by decide) (by decide) (by decide) (by decide) B.notSynchronized hxc hS.2.2 (by decide) (by decide)
