/-! ===== the law's loop in the machine ===== -/
theorem lw_1060 : (Jvm.Cond.methodLink "FrameRoundLaw" (210 : Nat) ({ cls := "FrameRoundLaw", name := "idle", desc := "(LFrameRound;I[J)I" } : Jvm.MethodName)) ∈ jm_T := jm_inT' (List.mem_append_right _ (List.mem_of_getElem? (i := 1060) (by decide +kernel))) (by decide +kernel)
theorem lw_1061 : (Jvm.Cond.static ({ cls := "FrameRoundLaw", name := "idle", desc := "(LFrameRound;I[J)I" } : Jvm.MethodName)) ∈ jm_T := jm_inT' (List.mem_append_right _ (List.mem_of_getElem? (i := 1061) (by decide +kernel))) (by decide +kernel)
theorem lw_0 : (Jvm.Cond.initialized "FrameRoundLaw") ∈ jm_T := jm_inT' (List.mem_append_right _ (List.mem_of_getElem? (i := 0) (by decide +kernel))) (by decide +kernel)
section MACH
variable {p : Program} {l : Launch} {e : Env} {R : Room} {s : State} {m : MethodId} {args : Array Value} {below : List Frame} {meth : Method} {c : Code} {cells slots : Nat} {Q : State → Prop} {G : jm_G} {L : Nat} {xs : Nat → Int32}
theorem jm_back2 {H : Heap} {locs : List Loc} {g : JFrame} {rest : List Value} {h : jm_H} {r : jm_Rs} {a : Array Value} {mc ms : Nat}
    (hr : va_Run p l e R s m args below meth c H locs cells slots mc ms g rest (jm_Qc G r a) (fun q => jm_bs G ≤ q)) (hR : jm_Rel G h H) (hS : va_S (fun q => jm_bs G ≤ q) s.heap H locs)
    (kk : ∀ (H1 : Heap) (locs1 : List Loc), jm_Rel G r.2 H1 → va_S (fun q => jm_bs G ≤ q) s.heap H1 locs1 → W p l e R s m args below meth c H1 locs1 (cells + mc) (slots + ms) Q { g with pc := g.pc + 3, stack := (r.1.map (jm_sh G)).toList ++ rest }) : W p l e R s m args below meth c H locs cells slots Q g := by
  intro T hT X
  obtain ⟨v, st₀, t, T', L, h0, X', hL, e1, e2, ⟨hv, hR1, hz⟩, st⟩ := hr T hT X
  cases hv
  have hS1 : va_S (fun q => jm_bs G ≤ q) s.heap t.heap (locs ++ L) := by
    refine ⟨Nat.le_trans hS.1 (by rw [h0] at hz; exact hz), fun q h1 h2 => ?_, fun q hq => ?_⟩
    · rw [← hS.2.1 q h1 h2, hR1.2.1 q (by omega), hR.2.1 q (by omega)]
    · rcases List.mem_append.mp hq with h1 | h1
      · exact hS.2.2 q h1
      · exact hL q h1
  obtain ⟨t2, a1, b1⟩ := kk t.heap _ hR1 hS1 T' e1 X'
  exact ⟨t2, st t2 a1, b1⟩
theorem law_snd (Cx : jm_Cx G (met_law L xs) p R s m args c cells slots) (Xs : jm_Xs L xs G s) (hAm : jm_Amb G) {x x' : jm_S} (hP : jm_P (cod_law L xs) x x') (hW : jm_W G (met_law L xs) p l e R s m args below meth c cells slots Q x'.1 x'.2.1 x'.2.2.1 x'.2.2.2) : jm_W G (met_law L xs) p l e R s m args below meth c cells slots Q x.1 x.2.1 x.2.2.1 x.2.2.2 := by
  obtain ⟨n, hn⟩ := hP
  have hS0 : ∀ (k : Nat) (i : jm_I), (cod_law L xs)[k]? = some i → jm_Sndx L xs jm_ms (met_law L xs) k i := fun k i hi => by
    have := jm_all_get (sndL L xs) k i hi
    rwa [Nat.zero_add] at this
  exact jm_pr_sound (l := l) (e := e) (below := below) (meth := meth) (Q := Q) jm_all_ok hAm (y := met_law L xs) (cd := cod_law L xs) (fun k f hi => hS0 k _ hi G p l e _ s m _ below meth c _ _ _ Cx Xs) (fun k c0 hi => hS0 k _ hi) Cx n _ _ hn hW
set_option maxRecDepth 100000 in
theorem law_call {i a v : Int32} {h h1 : jm_H} (hM : Met l jx_ly (Cond.codeWith jx_ly method_3_code 4 (some .int) [(0, 9, 12, 13)] :: jm_T) { frames := 8, cells := 1, slots := 6, locals := 160 } (jm_Pc G [jm_r 7 0, jm_i a, jm_r 58 0] h) (jm_Qc G (some (jm_i v), h1)) 1 6 (fun q => jm_bs G ≤ q))
    (Cx : jm_Cx G (met_law L xs) p R s m args c cells slots) (hc : cells + 1 ≤ R.cells) (hs : slots + 6 ≤ R.slots) {ls : jm_L}
    (hW : jm_W G (met_law L xs) p l e R s m args below meth c (cells + 1) (slots + 6) Q 1127 ls [jm_i v] h1) : jm_W G (met_law L xs) p l e R s m args below meth c cells slots Q 1126 ls [jm_r 58 0, jm_i a, jm_r 7 0] h := by
  obtain ⟨hx, hb, hml, hown, hts, hE, hAm, hfr, hlo, hce, hsl, hZ⟩ := Cx
  intro ok okL H locs A hR hS hL
  have f1 : 13 ≤ R.frames := hfr
  have f2 : 488 ≤ R.locals := hlo
  have cw : vx_CSW R s args "FrameRoundLaw" 210 jx_ly method_3_code 4 (some .int) [(0, 9, 12, 13)] (Cond.codeWith jx_ly method_3_code 4 (some .int) [(0, 9, 12, 13)] :: jm_T) { frames := 8, cells := 1, slots := 6, locals := 160 } 1 6 3 := by
    refine ⟨⟨rfl, rfl, by show 8 + 1 ≤ R.frames; omega, by show 8 + (4 + 11) + 160 ≤ R.locals; omega, pay_in hts (jm_good jx_li_code), List.mem_cons_self⟩, hts _ jx_li_code, hts _ lw_0, ⟨by decide +kernel, by decide +kernel⟩, fun sig hsig => ?_, hts _ lw_1060, hts _ lw_1061⟩
    have h2 : (parseMethodDescriptor jx_ly.desc).map (fun d => d.parameters.length) = some 3 := by decide +kernel
    rw [hsig] at h2
    exact (Option.some.inj h2).symm
  have run := vx_runSW (l := l) (e := e) (below := below) (meth := meth) (H := H) (locs := locs) (cells := cells) (slots := slots) (cc := code) (nL := 7) (Ts := jm_T) (own := "FrameRoundLaw") (rest := []) (g := F0 m (jm_pc (met_law L xs) 1126) A ([jm_r 58 0, jm_i a, jm_r 7 0].map (jm_sh G))) (As := [jm_r 7 0, jm_i a, jm_r 58 0].map (jm_sh G)) ⟨hx, hb, hml, hown, hts⟩ hM cw
    ⟨jm_blind G _ h, fun U hU hW => ⟨rfl, by rw [hU]; exact hR, hE.warm hW⟩⟩ rfl rfl hL.2.1 rfl (lv_room (m := m) (pc := 0) (ls := A) (rest := []) (Nat.le_of_ble_eq_true rfl)) (law_d (L := L) (xs := xs) (k := 1126) (by decide +kernel)) ⟨hc, hs⟩
  refine jm_back2 run hR hS (fun H1 locs1 hR1 hS1 => ?_)
  have := hW ⟨trivial, trivial⟩ okL H1 locs1 A hR1 hS1 hL
  rw [law_p (L := L) (xs := xs) (k := 1126) (n := 3) (by decide +kernel)] at this
  exact this
end MACH
