/-! ===== the law, given load, ticks and astray ===== -/
theorem whole_start0 {p : Program} {e : Env} {s : State} {m : MethodId} {below : List Frame} {meth : Method} {c : Code} (l : Launch) (hflags : l.flags = flags0) {b L : Nat} {xs : Nat → Int32} (hL : L ≤ 3072) (C0 : lw_At p s m meth c b L xs) (X1 : ∀ B, HL B) (X2 : ∀ B, HT B) (X3 : ∀ B, HA B) : W p l e room_1 s m #[Value.ref b] below meth c s.heap [] 0 0 (lw_Z below #[Value.ref b] s) (entryFrame m ([Value.ref b] : List Value).toArray 7) := by
  obtain ⟨hx, hb, hr, hml, hown, hts, hX, hbl, hlocks, hgv⟩ := id C0
  obtain ⟨D, aT, adK, adV, hJ, hE⟩ := law_env hts hgv
  exact law_entry hflags hL C0 (fun w hw => hts w (List.mem_filter.mp hw).1) hJ hE X1 X2 X3
