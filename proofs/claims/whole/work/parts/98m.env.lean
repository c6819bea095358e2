/-! ===== what the tables and the start say ===== -/
def gv_L : List Cond := flatC (Jvm.Cond.and given_1 narrow_1)
def ix_R : Nat → Nat := fun i => [47, 57, 83, 92, 101, 103, 115, 121].getD i 0
def ix_M : Nat → Nat := fun i => [178, 183, 158, 163, 164, 165, 174, 176].getD i 0
def tm_R : Nat → Term := fun i => .string "FrameRound$Reader" (ix_R i)
def tm_M : Nat → Term := fun i => .string "FrameRoundModel" (ix_M i)
set_option maxRecDepth 100000
theorem gv_1 : ∀ i, i < 8 → Cond.exactly (tm_R i) "java/lang/String" ∈ gv_L := by decide +kernel
theorem gv_2 : ∀ i, i < 8 → Cond.eq (.field (tm_R i) "java/lang/String" "coder" "B") (.int 0) ∈ gv_L := by decide +kernel
theorem gv_3 : ∀ i, i < 8 → Cond.arrayOf (.field (tm_R i) "java/lang/String" "value" "[B") .byte ∈ gv_L := by decide +kernel
theorem gv_4 : ∀ i, i < 8 → Cond.eq (.length (.field (tm_R i) "java/lang/String" "value" "[B")) (.int (Int32.ofNat (jm_slens.getD i 0))) ∈ gv_L := by decide +kernel
theorem gv_5 : ∀ i, i < 8 → ∀ j, j < jm_slens.getD i 0 → Cond.eq (.elem (.field (tm_R i) "java/lang/String" "value" "[B") (.int (Int32.ofNat j))) (.int ((jm_sbyts.getD i []).getD j 0)) ∈ gv_L := by decide +kernel
theorem gv_6 : ∀ i, i < 8 → ∀ j, j < 8 → i ≠ j → Cond.not (Cond.eq (tm_R i) (tm_R j)) ∈ gv_L ∨ Cond.not (Cond.eq (tm_R j) (tm_R i)) ∈ gv_L := by decide +kernel
theorem gv_7 : ∀ i, i < 8 → Cond.eq (tm_R i) (tm_M i) ∈ gv_L := by decide +kernel
theorem gv_8 : Cond.eq (.static "java/lang/String" "COMPACT_STRINGS" "Z") (.int 1) ∈ gv_L ∧ Cond.isRef (.static "jdk/internal/util/Preconditions" "SIOOBE_FORMATTER" "Ljava/util/function/BiFunction;") ∈ gv_L ∧ Cond.isRef (.static Bundle.tN "UNASSIGNED_STACK" Bundle.steD) ∈ gv_L ∧ Cond.isRef (.static Bundle.tN "SUPPRESSED_SENTINEL" Bundle.listD) ∈ gv_L := by decide +kernel
theorem gv_9 : ∀ i, i < 8 → jm_slens.getD i 0 < 2 ^ 31 := by decide +kernel
theorem le_t1 : ∀ w ∈ [Cond.laysStatic "java/lang/String" "COMPACT_STRINGS" "Z", .initialized "java/lang/String", .laysStatic "jdk/internal/util/Preconditions" "SIOOBE_FORMATTER" "Ljava/util/function/BiFunction;", .initialized "jdk/internal/util/Preconditions", .laysStatic Bundle.tN "UNASSIGNED_STACK" Bundle.steD, .laysStatic Bundle.tN "SUPPRESSED_SENTINEL" Bundle.listD, .initialized Bundle.tN, jm_nest, .arrayClass .int, .arrayClass .byte, .arrayClass .long, .arrayOver (.object "FrameRound$Mode"), .arrayOver (.object "FrameRound$Table"), .arrayOver (.array .int)], w ∈ lw_tbl := by decide +kernel
theorem le_t2 : ∀ w ∈ jm_x4, w ∈ lw_tbl ∧ w.onTables = true := by decide +kernel
theorem le_t3 : ∀ q ∈ jm_sref, Cond.stringRef q.1 q.2.1 (jm_stx q.2.2) ∈ lw_tbl ∧ q.2.2 < 8 ∧ ((q.1 = "FrameRound$Reader" ∧ q.2.1 = ix_R q.2.2) ∨ (q.1 = "FrameRoundModel" ∧ q.2.1 = ix_M q.2.2)) := by decide +kernel
theorem le_t4 : ∀ q ∈ jm_cl, Cond.instantiable q.1 q.2.2 ∈ lw_tbl := by decide +kernel
def ty_L : Nat → FieldType := fun t => [.int, .byte, .long, .object "FrameRound$Mode", .object "FrameRound$Table", .array .int].getD t .int
theorem le_t5 : ∀ K, K < 59 → 9 < K → jm_ety K = ty_L (jz_at K) ∧ jz_at K < 6 := by decide +kernel
theorem va_eqB {args : Array Value} {s : State} {a b : Term} {r : Nat} (h : (Cond.eq a b).before args s = true) (ha : a.eval args s none [] s = some (.ref r)) : b.eval args s none [] s = some (.ref r) := by
  cases hb : b.eval args s none [] s with
  | none => simp [Cond.before, Cond.holds, Cond.value, ha, hb] at h
  | some w =>
    cases w <;> simp [Cond.before, Cond.holds, Cond.value, ha, hb] at h
    rw [h]
theorem law_env {s : State} {b : Nat} (hts : ∀ w ∈ lw_tbl, w.before #[Value.ref b] s = true) (hgv : (Jvm.Cond.and given_1 narrow_1).before #[Value.ref b] s = true) : ∃ (D : va_G) (aT : Nat → ClassId) (adK adV : Nat → Nat), jn_Env D aT s ∧ jm_Env (jz_G2 D aT s.heap adK adV b) s := by
  have hg : ∀ w ∈ gv_L, w.before #[Value.ref b] s = true := fun w hw => flat_of_before _ hgv w hw
  have hT : ∀ w ∈ jm_T, w.before #[Value.ref b] s = true := fun w hw => hts w (List.mem_filter.mp hw).1
  have ht : ∀ w ∈ [Cond.laysStatic "java/lang/String" "COMPACT_STRINGS" "Z", .initialized "java/lang/String", .laysStatic "jdk/internal/util/Preconditions" "SIOOBE_FORMATTER" "Ljava/util/function/BiFunction;", .initialized "jdk/internal/util/Preconditions", .laysStatic Bundle.tN "UNASSIGNED_STACK" Bundle.steD, .laysStatic Bundle.tN "SUPPRESSED_SENTINEL" Bundle.listD, .initialized Bundle.tN, jm_nest, .arrayClass .int, .arrayClass .byte, .arrayClass .long, .arrayOver (.object "FrameRound$Mode"), .arrayOver (.object "FrameRound$Table"), .arrayOver (.array .int)], w.before #[Value.ref b] s = true := fun w hw => hts w (le_t1 w hw)
  have hA : ∀ a : Nat, a < s.heap.size → ¬ (fun q : Nat => s.heap.size ≤ q) a := fun a ha => Nat.not_le.mpr ha
  have h0 : ∀ c : Nat, ∃ d : ClassId × (Nat → Nat), ∀ q, jm_cl[c]? = some q → u_Kn s q.1 q.2.1 q.2.2 d.1 d.2 := by
    intro c
    cases h : jm_cl[c]? with
    | none => exact ⟨(0, fun _ => 0), fun q hq => (by cases hq)⟩
    | some q =>
      obtain ⟨cC, iS, hk⟩ := u_known (n := q.2.2) hT (jm_cf h).2.1 (hts _ (le_t4 q (List.mem_of_getElem? h)))
      exact ⟨(cC, iS), fun q' hq => (by cases hq; exact hk)⟩
  obtain ⟨f, hf⟩ := Classical.axiomOfChoice h0
  obtain ⟨a0, k0, p0, f0, g0, e0⟩ := Cond.arrayClass_spec (ht (.arrayClass .int) (by simp))
  obtain ⟨a1, k1, p1, f1, g1, e1⟩ := Cond.arrayClass_spec (ht (.arrayClass .byte) (by simp))
  obtain ⟨a2, k2, p2, f2, g2, e2⟩ := Cond.arrayClass_spec (ht (.arrayClass .long) (by simp))
  have o3 := ht (.arrayOver (.object "FrameRound$Mode")) (by simp)
  have o4 := ht (.arrayOver (.object "FrameRound$Table")) (by simp)
  obtain ⟨p3, a3, k3, -, -, g3, e3, f3⟩ := Cond.arrayOver_spec o3
  obtain ⟨p4, a4, k4, -, -, g4, e4, f4⟩ := Cond.arrayOver_spec o4
  obtain ⟨p5, a5, k5, h5, g5, e5, f5⟩ := Cond.arrayOver_specA (ht (.arrayOver (.array .int)) (by simp))
  have e50 : p5 = a0 := Option.some.inj (h5.symm.trans f0)
  obtain ⟨adK, adV, hS, hev⟩ := vk_Sof (A := fun q : Nat => s.heap.size ≤ q) (N := 8) (tm := tm_R) (len := jm_slens) (byt := jm_sbyts) gv_9 (fun i hi => hg _ (gv_1 i hi)) (fun i hi => hg _ (gv_2 i hi)) (fun i hi => hg _ (gv_3 i hi)) (fun i hi => hg _ (gv_4 i hi)) (fun i hi j hj => hg _ (gv_5 i hi j hj)) (fun i j hi hj hij => (gv_6 i hi j hj hij).imp (hg _) (hg _)) hA
  have hevM : ∀ i, i < 8 → (tm_M i).eval #[Value.ref b] s none [] s = some (.ref (adK i)) := fun i hi => va_eqB (hg _ (gv_7 i hi)) (hev i hi)
  refine ⟨(fun c => (f c).1, fun c => (f c).2), fun t => [a0, a1, a2, a3, a4, a5].getD t 0, adK, adV, ⟨fun c q hq => hf c q hq, f0, f1, f2, f3, f4, f5, va_AO.of o3, va_AO.of o4, k5, g5, by rw [e5, e50]; rfl⟩, fun c q hq => hf c q hq, fun K hK1 hK2 => ?_, va_Nw.of rfl (ht jm_nest (by simp)), hS, fun q hq => ?_, va_Zof (ht _ (by simp)) (ht _ (by simp)) (va_eqi (hg _ gv_8.1)) hA, va_Zqof (ht _ (by simp)) (ht _ (by simp)) (hg _ gv_8.2.1) hA, fun w hw => va_Nw.of (le_t2 w hw).2 (hts w (le_t2 w hw).1), vx_Zqof (ht _ (by simp)) (ht _ (by simp)) (hg _ gv_8.2.2.1) hA, vx_Zqof (ht _ (by simp)) (ht _ (by simp)) (hg _ gv_8.2.2.2) hA⟩
  · obtain ⟨ety, elt⟩ := le_t5 K hK2 hK1
    show ArrOfT s ([a0, a1, a2, a3, a4, a5].getD (jz_at K) 0) (jm_ety K)
    rw [ety]
    generalize jz_at K = t at elt ⊢
    match t, elt with
    | 0, _ => exact fun n z => ⟨fun k h => (by cases h), k0, g0, p0, e0⟩
    | 1, _ => exact fun n z => ⟨fun k h => (by cases h), k1, g1, p1, e1⟩
    | 2, _ => exact fun n z => ⟨fun k h => (by cases h), k2, g2, p2, e2⟩
    | 3, _ => exact fun n z => ⟨fun k h => (by cases h), k3, g3, p3, e3⟩
    | 4, _ => exact fun n z => ⟨fun k h => (by cases h), k4, g4, p4, e4⟩
    | 5, _ => exact fun n z => ⟨fun k h => (by cases h), k5, g5, p5, e5⟩
    | t + 6, h => omega
  · obtain ⟨w1, w2, w3⟩ := le_t3 q hq
    refine vk_R.of (hts _ w1) ?_
    show (Term.string q.1 q.2.1).eval #[Value.ref b] s none [] s = some (.ref (adK q.2.2))
    rcases w3 with ⟨x1, x2⟩ | ⟨x1, x2⟩
    · rw [x1, x2]; exact hev _ w2
    · rw [x1, x2]; exact hevM _ w2
