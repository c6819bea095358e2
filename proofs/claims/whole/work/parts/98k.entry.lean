/-! ===== from the law's entry to its loop ===== -/
def jz_G2 (D : va_G) (aT : Nat → ClassId) (HZ : Heap) (adK adV : Nat → Nat) (b : Nat) : jm_G := (fun K i => if K = 62 then b else (jz_G D aT HZ adK adV).1 K i, (jz_G D aT HZ adK adV).2)
theorem jz_n1 : ∀ K, K < 9 → ∀ j, j < jm_nf K → (jm_ft K j).2.1 ≠ 62 := by decide +kernel
theorem jz_n2 : ∀ K, K < 59 → (jm_el K).2.1 ≠ 62 := by decide +kernel
section ENTRY
variable {D : va_G} {aT : Nat → ClassId} {HZ : Heap} {adK adV : Nat → Nat} {b : Nat}
theorem jz_g2 {K i : Nat} (h : K ≠ 62) : (jz_G2 D aT HZ adK adV b).1 K i = (jz_G D aT HZ adK adV).1 K i := if_neg h
theorem jz_rel2 {h : jm_H} {H : Heap} (hR : jm_Rel (jz_G D aT HZ adK adV) h H) : jm_Rel (jz_G2 D aT HZ adK adV b) h H := by
  refine ⟨fun K i hK hi => ?_, hR.2.1, hR.2.2⟩
  have h0 := hR.1 K i hK hi
  have e := jz_g2 (D := D) (aT := aT) (HZ := HZ) (adK := adK) (adV := adV) (b := b) (K := K) (i := i) (by omega)
  unfold jm_at at h0 ⊢
  rw [e]
  by_cases h9 : K < 9
  · rw [if_pos h9] at h0 ⊢
    refine h0.to (fun j hj => ?_)
    have n1 := jz_n1 K h9 j hj
    unfold jm_fv
    split
    · rfl
    · rw [jz_g2 n1]
    · rw [jz_g2 n1]
  · rw [if_neg h9] at h0 ⊢
    rw [h0]
    refine congrArg some (jz_arrV (fun j _ => ?_))
    have n2 := jz_n2 K hK
    unfold jm_av
    split
    · rfl
    · rw [jz_g2 n2]
    · rfl
theorem jz_amb2 : jm_Amb (jz_G2 D aT HZ adK adV b) := by
  have h0 := jz_amb (D := D) (aT := aT) (HZ := HZ) (adK := adK) (adV := adV)
  refine ⟨fun K i K' i' hK hK' hi hi' e => ?_, fun K i hK hi => ?_⟩
  · rw [jz_g2 (by omega), jz_g2 (by omega)] at e
    exact h0.1 K i K' i' hK hK' hi hi' e
  · rw [jz_g2 (by omega)]
    exact h0.2 K i hK hi
end ENTRY
theorem lw_stack {l : Launch} (hflags : l.flags = flags0) : l.stackTraces = false := by
  unfold Launch.stackTraces
  rw [hflags]
  decide +kernel
section WALK
variable {p : Program} {l : Launch} {e : Env} {s : State} {m : MethodId} {below : List Frame} {meth : Method} {c : Code} {b L : Nat} {xs : Nat → Int32} {G : jm_G}
/-- the loop, from the first heap -/
theorem law_run (hflags : l.flags = flags0) (hL : L ≤ 3072) (C0 : lw_At p s m meth c b L xs) (hts : ∀ w ∈ jm_T, w.before #[Value.ref b] s = true) (hE : jm_Env G s) (hAm : jm_Amb G) (hb2 : G.1 62 0 = b) (hG : G.2.2.2 = s.heap) (X1 : ∀ B, HL B) (X2 : ∀ B, HT B) (X3 : ∀ B, HA B) :
    jm_W G (met_law L xs) p l e room_1 s m #[Value.ref b] below meth c 226 9529 (lw_Z below #[Value.ref b] s) 13 [some (jm_r 62 0), some (jm_r 7 0), some (jm_r 8 0), some (jm_r 58 0), some (jm_i 0), none, none] [] jz_h := by
  obtain ⟨hx, hb, hr, hml, hown, -, hX, hbl, hlocks, hgv⟩ := C0
  have Cx : ∀ t, t ≤ 512 → jm_Cx G (met_law L xs) p room_1 s m #[Value.ref b] c (226 + t) (9529 + 6 * t) := fun t ht => ⟨hx, hb, hml, hown, hts, hE, hAm, Nat.le_of_ble_eq_true rfl, Nat.le_of_ble_eq_true rfl, by show 226 + t ≤ 601024; omega, by show 9529 + 6 * t ≤ 7293034; omega, fun q _ => by rw [hG]⟩
  have Xs : jm_Xs L xs G s := ⟨by rw [hb2]; exact hX, by rw [hb2]; show b < G.2.2.2.size; rw [hG]; exact hbl, by show G.2.2.2.size ≤ _; rw [hG]; exact Nat.le_refl _⟩
  have key := law_loop (L := L) (xs := xs) (K := fun t x => jm_W G (met_law L xs) p l e room_1 s m #[Value.ref b] below meth c (226 + t) (9529 + 6 * t) (lw_Z below #[Value.ref b] s) x.1 x.2.1 x.2.2.1 x.2.2.2)
    (fun t x ht hW ok okL H locs A hR hS hLo => W.widen (by omega) (by omega) (hW ok okL H locs A hR hS hLo))
    (fun t x x' ht hP hW => law_snd (Cx t ht) Xs hAm hP hW)
    (fun t i a v h ht hF hW => law_call (i := i) (jx_li_A l hAm hF) (Cx t (by omega)) (by show 226 + t + 1 ≤ 601024; omega) (by show 9529 + 6 * t + 6 ≤ 7293034; omega) hW)
    (fun t i a h k ls ht hk hP hW => law_call (i := i) (jx_li_B l (lw_stack hflags) hAm hk hP) (Cx t (by omega)) (by show 226 + t + 1 ≤ 601024; omega) (by show 9529 + 6 * t + 6 ≤ 7293034; omega) hW)
    (fun t i h ht ok okL H locs A hR hS hLo => ?_) hL X1 X2 X3 512 0 jz_h (by omega) inv0
  · exact key
  · refine lv_iconst (n := 1) (v := 1) hx hb (law_d (L := L) (xs := xs) (k := 1180) (by decide +kernel)) (by decide) ?_
    refine va_forget (fun q hq => ?_) ?_
    · have := hS.2.2 q hq
      have hbs : jm_bs G = s.heap.size := by show G.2.2.2.size = _; rw [hG]
      show s.heap.size ≤ q.base
      have h2 : jm_bs G ≤ q.base := this
      omega
    refine W.widen (k := 601024) (n := 7293034) (by omega) (by omega) ?_
    refine W.base ?_
    exact lw_ret (d0 := s.drawn) (Drawn.sameBut.refl s.drawn lw_cs) hx hb hr hlocks (by rw [← law_p (L := L) (xs := xs) (k := 1180) (n := 1) (by decide +kernel)]; exact law_d (L := L) (xs := xs) (k := 1181) (by decide +kernel))
end WALK
