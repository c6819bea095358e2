/-! ===== fields and arrays of the small machine ===== -/
theorem jm_lw_len : lw_tbl.length = 1923 ∨ True := Or.inr trivial
theorem jm_inT {w : Cond} (i : Nat) (h : lw_tbl[i]? = some w) (g : goodWord w = true) : w ∈ jm_T := List.mem_filter.mpr ⟨List.mem_of_getElem? h, g⟩
theorem jm_inT' {w : Cond} (h : w ∈ lw_tbl) (g : goodWord w = true) : w ∈ jm_T := List.mem_filter.mpr ⟨h, g⟩
theorem jm_in_all (ws : List Cond) (h : ws.all (fun w => decide (w ∈ lw_tbl) && goodWord w) = true) : ∀ w ∈ ws, w ∈ jm_T := fun w hw => by
  have := List.all_eq_true.mp h w hw
  rw [Bool.and_eq_true, decide_eq_true_eq] at this
  exact jm_inT' this.1 this.2
def jm_cfP (K : Nat) (q : vw_C) : Prop := (∀ w ∈ u_ws q.1 q.2.1 q.2.2, w ∈ jm_T) ∧ (∃ ty0 : Nat → FieldType, ∀ k, k < q.2.2 → parseFieldDescriptor (q.2.1 k).2.2.1 = some (ty0 k)) ∧ (∀ a, a < q.2.2 → ∀ b, b < q.2.2 → a ≠ b → (q.2.1 a).2.1 ≠ (q.2.1 b).2.1) ∧ jm_nf K = q.2.2
set_option maxRecDepth 100000 in
theorem jm_cf0 : jm_cfP 0 (RX0, TX0, 12) := ⟨jm_in_all _ (by decide +kernel), ⟨tyX0, by decide +kernel⟩, by decide +kernel, rfl⟩
set_option maxRecDepth 100000 in
theorem jm_cf1 : jm_cfP 1 (RX1, TX1, 13) := ⟨jm_in_all _ (by decide +kernel), ⟨tyX1, by decide +kernel⟩, by decide +kernel, rfl⟩
set_option maxRecDepth 100000 in
theorem jm_cf2 : jm_cfP 2 (RX2, TX2, 11) := ⟨jm_in_all _ (by decide +kernel), ⟨tyX2, by decide +kernel⟩, by decide +kernel, rfl⟩
set_option maxRecDepth 100000 in
theorem jm_cf3 : jm_cfP 3 (RX3, TX3, 2) := ⟨jm_in_all _ (by decide +kernel), ⟨tyX3, by decide +kernel⟩, by decide +kernel, rfl⟩
set_option maxRecDepth 100000 in
theorem jm_cf4 : jm_cfP 4 (RX4, TX4, 10) := ⟨jm_in_all _ (by decide +kernel), ⟨tyX4, by decide +kernel⟩, by decide +kernel, rfl⟩
set_option maxRecDepth 100000 in
theorem jm_cf5 : jm_cfP 5 (RX5, TX5, 3) := ⟨jm_in_all _ (by decide +kernel), ⟨tyX5, by decide +kernel⟩, by decide +kernel, rfl⟩
set_option maxRecDepth 100000 in
theorem jm_cf6 : jm_cfP 6 (RX6, TX6, 4) := ⟨jm_in_all _ (by decide +kernel), ⟨tyX6, by decide +kernel⟩, by decide +kernel, rfl⟩
set_option maxRecDepth 100000 in
theorem jm_cf7 : jm_cfP 7 (RX8, TX8, 11) := ⟨jm_in_all _ (by decide +kernel), ⟨tyX8, by decide +kernel⟩, by decide +kernel, rfl⟩
set_option maxRecDepth 100000 in
theorem jm_cf8 : jm_cfP 8 (RX9, TX9, 49) := ⟨jm_in_all _ (by decide +kernel), ⟨tyX9, by decide +kernel⟩, by decide +kernel, rfl⟩
theorem jm_cf {K : Nat} {q : vw_C} (h : jm_cl[K]? = some q) : K < 9 ∧ jm_cfP K q := by
  have hl : K < 9 := (List.getElem?_eq_some_iff.mp h).1
  refine ⟨hl, ?_⟩
  match K, h with
  | 0, h => cases h; exact jm_cf0
  | 1, h => cases h; exact jm_cf1
  | 2, h => cases h; exact jm_cf2
  | 3, h => cases h; exact jm_cf3
  | 4, h => cases h; exact jm_cf4
  | 5, h => cases h; exact jm_cf5
  | 6, h => cases h; exact jm_cf6
  | 7, h => cases h; exact jm_cf7
  | 8, h => cases h; exact jm_cf8
/-- one thing changes -/
theorem jm_Rel.put {G : jm_G} {h h' : jm_H} {H H' : Heap} {K i : Nat} (hR : jm_Rel G h H) (hA : jm_Amb G) (hK : K < 59) (hi : i < jm_cnt K) (ho : ∀ q : Nat, q ≠ G.1 K i → H'[q]? = H[q]?) (hat : jm_at G h' K i H')
    (hs : ∀ K' i' : Nat, K' < 59 → i' < jm_cnt K' → ¬ (K' = K ∧ i' = i) → (∀ j, jm_fv G h' K' i' j = jm_fv G h K' i' j) ∧ ∀ j, jm_av G h' K' i' j = jm_av G h K' i' j) (hr : ∀ K i j : Nat, (jm_ft K j).1 = 2 → i < jm_cnt K → h'.2.1 K i j < jm_cnt (jm_ft K j).2.1) : jm_Rel G h' H' := by
  refine ⟨fun K' i' hK' hi' => ?_, fun q hq => ?_, hr⟩
  · by_cases e : K' = K ∧ i' = i
    · obtain ⟨rfl, rfl⟩ := e
      exact hat
    · have hne : G.1 K' i' ≠ G.1 K i := fun q => e (hA.1 K' i' K i hK' hK hi' hi q)
      have h0 := hR.1 K' i' hK' hi'
      obtain ⟨h1, h2⟩ := hs K' i' hK' hi' e
      unfold jm_at at h0 ⊢
      split
      · rename_i hc
        rw [if_pos hc] at h0
        exact (h0.kept (ho _ hne)).to (fun k _ => (h1 k).symm)
      · rename_i hc
        rw [if_neg hc] at h0
        rw [ho _ hne, h0, funext h2]
  · rw [ho q (fun e => by have := hA.2 K i hK hi; omega)]
    exact hR.2.1 q hq
theorem jm_sI_ne {G : jm_G} {h : jm_H} {K i j : Nat} {x : Int32} (K' i' : Nat) (e : ¬ (K' = K ∧ i' = i)) : (∀ j', jm_fv G (jm_sI h K i j x) K' i' j' = jm_fv G h K' i' j') ∧ ∀ j', jm_av G (jm_sI h K i j x) K' i' j' = jm_av G h K' i' j' := by
  have h1 : ∀ j', (jm_sI h K i j x).1 K' i' j' = h.1 K' i' j' := fun j' => if_neg (fun q => e ⟨q.1, q.2.2⟩)
  refine ⟨fun j' => ?_, fun j' => ?_⟩
  · unfold jm_fv
    rw [h1]
    rfl
  · unfold jm_av
    rw [h1]
    rfl
abbrev jm_in (j : Int32) (n : Nat) : Prop := 0 ≤ j.toInt ∧ j.toInt < n
theorem jm_in_vp {j : Int32} {n : Nat} (h : jm_in j n) : ¬ (j < 0 ∨ n ≤ j.toNatClampNeg) := by
  intro q
  have e : (j.toNatClampNeg : Int) = j.toInt := by
    show ((j.toInt.toNat : Nat) : Int) = j.toInt
    have := h.1
    omega
  rcases q with q | q
  · rw [Int32.lt_iff_toInt_lt, Int32.toInt_zero] at q
    have := h.1
    omega
  · have := h.2
    omega
theorem jm_in_lt {j : Int32} {n : Nat} (h : jm_in j n) : j.toNatClampNeg < n := by
  have := jm_in_vp h
  omega
/-- counts of things that fields and arrays point to -/
theorem jm_el_ok : ∀ K, K < 59 → (jm_el K).1 = 3 → ∀ i, i < jm_cnt K → ∀ j, j < jm_ln K → (jm_el K).2.2 * i + j < jm_cnt (jm_el K).2.1 := by decide +kernel
theorem jm_el_obj : ∀ K, K < 59 → (jm_el K).1 ≤ 3 → 9 < K := by decide +kernel
theorem jm_el_big : ∀ K, 59 ≤ K → (jm_el K).1 = 9 := fun K h => by
  unfold jm_el
  rw [List.getD_eq_getElem?_getD, List.getElem?_eq_none (by simpa using h)]
  rfl
theorem jm_el_K {K : Nat} (h : (jm_el K).1 ≤ 3) : 9 < K ∧ K < 59 := by
  have h1 : K < 59 := Nat.lt_of_not_le fun q => by
    have := jm_el_big K q
    omega
  exact ⟨jm_el_obj K h1 h, h1⟩
theorem jm_ety0 : ∀ K, K < 59 → (jm_el K).1 = 0 → jm_ety K = .int := by decide +kernel
theorem jm_ety1 : ∀ K, K < 59 → (jm_el K).1 = 1 → jm_ety K = .byte := by decide +kernel
theorem jm_ety2 : ∀ K, K < 59 → (jm_el K).1 = 2 → jm_ety K = .long := by decide +kernel
theorem jm_ety3 : ∀ K, K < 59 → (jm_el K).1 = 3 → (jm_ety K).isReference = true := by decide +kernel
theorem jm_Rel.arr {G : jm_G} {h : jm_H} {H : Heap} {K i : Nat} (hR : jm_Rel G h H) (hK : (jm_el K).1 ≤ 3) (hi : i < jm_cnt K) : H[G.1 K i]? = some (arrV (G.2.2.1 K) (jm_ln K) (jm_av G h K i)) := by
  have h1 := jm_el_K hK
  have h2 := hR.1 K i h1.2 hi
  unfold jm_at at h2
  rwa [if_neg (by omega)] at h2
section JMH
variable {y : jm_M} {k : Nat}
def jm_gI (K j : Nat) : jm_F := fun k ls st h => match st with
  | .inr q :: r => if q.1 = K then some (k, ls, .inl (.int (h.1 K q.2 j)) :: r, h) else none
  | _ => none
def jm_gS (K j K' : Nat) (g : Nat → Nat) : jm_F := fun k ls st h => match st with
  | .inr q :: r => if q.1 = K then some (k, ls, .inr (K', g q.2) :: r, h) else none
  | _ => none
def jm_gM (K j K' : Nat) : jm_F := fun k ls st h => match st with
  | .inr q :: r => if q.1 = K then some (k, ls, .inr (K', h.2.1 K q.2 j) :: r, h) else none
  | _ => none
theorem jm_get {G : jm_G} {p : Program} {l : Launch} {e : Env} {R : Room} {s : State} {m : MethodId} {args : Array Value} {below : List Frame} {meth : Method} {c : Code} {cells slots : Nat} {Q : State → Prop} {h : jm_H} {H : Heap} {locs : List Loc} {A : Array Slot} {rest : List Value} {K i j n pc : Nat} {q : vw_C} {cc : ByteArray} {own : String}
    (hx : p.tables.exec = Jvm.exec) (hb : c.code = cc) (hown : s.vm.findClass own = some m.cls) (hts : ∀ w ∈ jm_T, w.before args s = true) (hE : jm_Env G s) (hR : jm_Rel G h H) (hc : jm_cl[K]? = some q) (hj : j < q.2.2) (hi : i < jm_cnt K) (hw : Cond.fieldLink own n (q.2.1 j).1 (q.2.1 j).2.1 (q.2.1 j).2.2.1 ∈ jm_T) (hd : decode cc pc = .ok (.getfield n, 3))
    (kk : W p l e R s m args below meth c H locs cells slots Q (F0 m (pc + 3) A (jm_fv G h K i j :: rest))) : W p l e R s m args below meth c H locs cells slots Q (F0 m pc A (.ref (G.1 K i) :: rest)) := by
  obtain ⟨hK, hins, -, -, hnf⟩ := jm_cf hc
  have hat := hR.1 K i (by omega) hi
  unfold jm_at at hat
  rw [if_pos hK] at hat
  obtain ⟨cell, q1, q2, q3, q4⟩ := hat
  obtain ⟨hS, hfc, kC, hkC, hkind⟩ := hE.1 K q hc
  obtain ⟨cf, kf, fi, f, hfi, hsl⟩ := hS j hj
  refine W.getf hx hb hown (hts _ hw) hfi (u_facts hfc hkC (u_lays hts hins hj) hfi).1 q1 (by rw [q3]; exact fun h => by cases h) (v := jm_fv G h K i j) ?_ rfl rfl hd kk
  rw [hsl]
  exact q4 j (by omega)
theorem jm_n_gI {K j n : Nat} {q : vw_C} (hc : jm_cl[K]? = some q) (hj : j < q.2.2) (h0 : (jm_ft K j).1 = 0) (hw : Cond.fieldLink (jm_nm y).cls n (q.2.1 j).1 (q.2.1 j).2.1 (q.2.1 j).2.2.1 ∈ jm_T) (hd : decode (jm_by y) (jm_pc y k) = .ok (.getfield n, 3)) (hp : jm_pc y (k + 1) = jm_pc y k + 3) : jm_SN y k (jm_gI K j) := by
  intro G p l e R s m args below meth c cells slots Q C ls st h k' ls' st' h' hf hW
  obtain ⟨hx, hb, hml, hown, hts, hE, hAm, hfr, hlo, hce, hsl, hZ⟩ := C
  unfold jm_gI at hf
  split at hf
  · rename_i qq r
    obtain ⟨K1, i⟩ := qq
    split at hf
    · rename_i e1
      dsimp only at e1
      subst e1
      cases hf
      intro ok okL H locs A hR hS hL
      refine jm_get hx hb hown hts hE hR hc hj ok.1 hw hd ?_
      have := hW ⟨trivial, ok.2⟩ okL H locs A hR hS hL
      rw [hp] at this
      have e : jm_fv G h K1 i j = .int (h.1 K1 i j) := by unfold jm_fv; rw [h0]; rfl
      rw [e]
      exact this
    · cases hf
  · cases hf
theorem jm_n_gS {K j n K' : Nat} {g : Nat → Nat} {q : vw_C} (hc : jm_cl[K]? = some q) (hj : j < q.2.2) (h0 : jm_ft K j = (1, K', g)) (hg : ∀ i, i < jm_cnt K → g i < jm_cnt K') (hw : Cond.fieldLink (jm_nm y).cls n (q.2.1 j).1 (q.2.1 j).2.1 (q.2.1 j).2.2.1 ∈ jm_T) (hd : decode (jm_by y) (jm_pc y k) = .ok (.getfield n, 3)) (hp : jm_pc y (k + 1) = jm_pc y k + 3) : jm_SN y k (jm_gS K j K' g) := by
  intro G p l e R s m args below meth c cells slots Q C ls st h k' ls' st' h' hf hW
  obtain ⟨hx, hb, hml, hown, hts, hE, hAm, hfr, hlo, hce, hsl, hZ⟩ := C
  unfold jm_gS at hf
  split at hf
  · rename_i qq r
    obtain ⟨K1, i⟩ := qq
    split at hf
    · rename_i e1
      dsimp only at e1
      subst e1
      cases hf
      intro ok okL H locs A hR hS hL
      refine jm_get hx hb hown hts hE hR hc hj ok.1 hw hd ?_
      have := hW ⟨hg _ ok.1, ok.2⟩ okL H locs A hR hS hL
      rw [hp] at this
      have e : jm_fv G h K1 i j = .ref (G.1 K' (g i)) := by unfold jm_fv; rw [h0]; rfl
      rw [e]
      exact this
    · cases hf
  · cases hf
theorem jm_n_gM {K j n K' : Nat} {q : vw_C} (hc : jm_cl[K]? = some q) (hj : j < q.2.2) (h0 : jm_ft K j = (2, K', fun i => i)) (hw : Cond.fieldLink (jm_nm y).cls n (q.2.1 j).1 (q.2.1 j).2.1 (q.2.1 j).2.2.1 ∈ jm_T) (hd : decode (jm_by y) (jm_pc y k) = .ok (.getfield n, 3)) (hp : jm_pc y (k + 1) = jm_pc y k + 3) : jm_SN y k (jm_gM K j K') := by
  intro G p l e R s m args below meth c cells slots Q C ls st h k' ls' st' h' hf hW
  obtain ⟨hx, hb, hml, hown, hts, hE, hAm, hfr, hlo, hce, hsl, hZ⟩ := C
  unfold jm_gM at hf
  split at hf
  · rename_i qq r
    obtain ⟨K1, i⟩ := qq
    split at hf
    · rename_i e1
      dsimp only at e1
      subst e1
      cases hf
      intro ok okL H locs A hR hS hL
      refine jm_get hx hb hown hts hE hR hc hj ok.1 hw hd ?_
      have hv := hR.2.2 K1 i j (by rw [h0]) ok.1
      rw [h0] at hv
      have := hW ⟨hv, ok.2⟩ okL H locs A hR hS hL
      rw [hp] at this
      have e : jm_fv G h K1 i j = .ref (G.1 K' (h.2.1 K1 i j)) := by unfold jm_fv; rw [h0]; rfl
      rw [e]
      exact this
    · cases hf
  · cases hf
def jm_pI (K j : Nat) : jm_F := fun k ls st h => match st with
  | .inl (.int x) :: .inr q :: r => if q.1 = K then some (k, ls, r, jm_sI h K q.2 j x) else none
  | _ => none
def jm_pZ (K j : Nat) : jm_F := fun k ls st h => match st with
  | .inl (.int x) :: .inr q :: r => if q.1 = K ∧ (x = 0 ∨ x = 1) then some (k, ls, r, jm_sI h K q.2 j x) else none
  | _ => none
def jm_pM (K j K' : Nat) : jm_F := fun k ls st h => match st with
  | .inr x :: .inr q :: r => if q.1 = K ∧ x.1 = K' then some (k, ls, r, jm_sR h K q.2 j x.2) else none
  | _ => none
theorem jm_putf {G : jm_G} {p : Program} {l : Launch} {e : Env} {R : Room} {s : State} {m : MethodId} {args : Array Value} {below : List Frame} {meth : Method} {c : Code} {cells slots : Nat} {Q : State → Prop} {h h' : jm_H} {H : Heap} {locs : List Loc} {A : Array Slot} {rest : List Value} {K i j n pc : Nat} {q : vw_C} {cc : ByteArray} {own : String} {v : Value} {ty : FieldType}
    (hx : p.tables.exec = Jvm.exec) (hb : c.code = cc) (hown : s.vm.findClass own = some m.cls) (hts : ∀ w ∈ jm_T, w.before args s = true) (hE : jm_Env G s) (hAm : jm_Amb G) (hR : jm_Rel G h H) (hc : jm_cl[K]? = some q) (hj : j < q.2.2) (hi : i < jm_cnt K) (hw : Cond.fieldLink own n (q.2.1 j).1 (q.2.1 j).2.1 (q.2.1 j).2.2.1 ∈ jm_T) (hfin : (q.2.1 j).2.2.2 = false) (hty : parseFieldDescriptor (q.2.1 j).2.2.1 = some ty) (hn : narrow ty v = v) (hfit : fits ty v = true) (hd : decode cc pc = .ok (.putfield n, 3))
    (hs : ∀ K' i' : Nat, K' < 59 → i' < jm_cnt K' → ¬ (K' = K ∧ i' = i) → (∀ j, jm_fv G h' K' i' j = jm_fv G h K' i' j) ∧ ∀ j, jm_av G h' K' i' j = jm_av G h K' i' j) (hs2 : ∀ j', jm_fv G h' K i j' = updV (jm_fv G h K i) j v j') (hr : ∀ K i j : Nat, (jm_ft K j).1 = 2 → i < jm_cnt K → h'.2.1 K i j < jm_cnt (jm_ft K j).2.1) (hS0 : va_S (fun q => jm_bs G ≤ q) s.heap H locs)
    (kk : ∀ (H1 : Heap) (locs1 : List Loc), jm_Rel G h' H1 → va_S (fun q => jm_bs G ≤ q) s.heap H1 locs1 → W p l e R s m args below meth c H1 locs1 cells slots Q (F0 m (pc + 3) A rest)) : W p l e R s m args below meth c H locs cells slots Q (F0 m pc A (v :: .ref (G.1 K i) :: rest)) := by
  obtain ⟨hK, hins, ⟨ty0, hty0⟩, hnm, hnf⟩ := jm_cf hc
  have hKK : va_K G.2.1 jm_cl [] s := ⟨hE.1, fun k q h => by simp at h⟩
  have hap := va_apart (own := own) hts hins ty0 hty0 hnm hKK hc
  have hat := hR.1 K i (by omega) hi
  unfold jm_at at hat
  rw [if_pos hK] at hat
  obtain ⟨cell, q1, q2, q3, q4⟩ := hat
  obtain ⟨hS, hfc, kC, hkC, hkind⟩ := hE.1 K q hc
  obtain ⟨cf, kf, fi, f, hfi, hsl⟩ := hS j hj
  have hlay := hts _ (hins _ (u_in_lay hj))
  unfold u_lay at hlay
  rw [if_neg (by rw [hfin]; decide)] at hlay
  have hst := (u_facts hfc hkC (u_lays hts hins hj) hfi).1
  have h6 := u_store hfc hkC hkind hlay hfi hty hn hfit
  refine W.putK hx hb (f := f) ⟨hown, hts _ hw, ⟨_, _, _, hfi⟩, hst⟩ (by rw [q2]; exact h6) q1 q3 (by rw [hsl]; exact k2_hasslot (q4 j (by omega))) rfl rfl hd fun H' e1 e2 e3 => ?_
  rw [hsl] at e1 ⊢
  refine kk H' _ (hR.put hAm (by omega) hi e3 ?_ hs hr) (hS0.put e2 e3 (hAm.2 K i (by omega) hi))
  unfold jm_at
  rw [if_pos hK]
  rw [hnf] at q4 ⊢
  exact t_OB.to ⟨_, e1, q2, q3, t_set q4 hap hj v⟩ (fun k _ => (hs2 k).symm)
theorem jm_sI_fv {G : jm_G} {h : jm_H} {K i j : Nat} {x : Int32} (h0 : (jm_ft K j).1 = 0) (j' : Nat) : jm_fv G (jm_sI h K i j x) K i j' = updV (jm_fv G h K i) j (.int x) j' := by
  by_cases e : j' = j
  · subst e
    simp [updV, jm_fv, h0, jm_sI]
  · have h1 : (jm_sI h K i j x).1 K i j' = h.1 K i j' := if_neg (fun q => e q.2.1)
    simp only [updV, e, if_false]
    unfold jm_fv
    rw [h1]
    rfl
theorem jm_n_pI {K j n : Nat} {q : vw_C} (hc : jm_cl[K]? = some q) (hj : j < q.2.2) (h0 : (jm_ft K j).1 = 0) (hw : Cond.fieldLink (jm_nm y).cls n (q.2.1 j).1 (q.2.1 j).2.1 (q.2.1 j).2.2.1 ∈ jm_T) (hfin : (q.2.1 j).2.2.2 = false) (hty : parseFieldDescriptor (q.2.1 j).2.2.1 = some .int) (hd : decode (jm_by y) (jm_pc y k) = .ok (.putfield n, 3)) (hp : jm_pc y (k + 1) = jm_pc y k + 3) : jm_SN y k (jm_pI K j) := by
  intro G p l e R s m args below meth c cells slots Q C ls st h k' ls' st' h' hf hW
  obtain ⟨hx, hb, hml, hown, hts, hE, hAm, hfr, hlo, hce, hsl, hZ⟩ := C
  unfold jm_pI at hf
  split at hf
  · rename_i x qq r
    obtain ⟨K1, i⟩ := qq
    split at hf
    · rename_i e1
      dsimp only at e1
      subst e1
      cases hf
      intro ok okL H locs A hR hS hL
      refine jm_putf (h' := jm_sI h K1 i j x) hx hb hown hts hE hAm hR hc hj ok.2.1 hw hfin hty rfl rfl hd (fun K' i' _ _ e => jm_sI_ne K' i' e) (jm_sI_fv h0) hR.2.2 hS (fun H1 locs1 hR1 hS1 => ?_)
      have := hW ok.2.2 okL H1 locs1 A hR1 hS1 hL
      rw [hp] at this
      exact this
    · cases hf
  · cases hf
theorem jm_n_pZ {K j n : Nat} {q : vw_C} (hc : jm_cl[K]? = some q) (hj : j < q.2.2) (h0 : (jm_ft K j).1 = 0) (hw : Cond.fieldLink (jm_nm y).cls n (q.2.1 j).1 (q.2.1 j).2.1 (q.2.1 j).2.2.1 ∈ jm_T) (hfin : (q.2.1 j).2.2.2 = false) (hty : parseFieldDescriptor (q.2.1 j).2.2.1 = some .boolean) (hd : decode (jm_by y) (jm_pc y k) = .ok (.putfield n, 3)) (hp : jm_pc y (k + 1) = jm_pc y k + 3) : jm_SN y k (jm_pZ K j) := by
  intro G p l e R s m args below meth c cells slots Q C ls st h k' ls' st' h' hf hW
  obtain ⟨hx, hb, hml, hown, hts, hE, hAm, hfr, hlo, hce, hsl, hZ⟩ := C
  unfold jm_pZ at hf
  split at hf
  · rename_i x qq r
    obtain ⟨K1, i⟩ := qq
    split at hf
    · rename_i e1
      obtain ⟨e1, e2⟩ := e1
      dsimp only at e1
      subst e1
      cases hf
      intro ok okL H locs A hR hS hL
      refine jm_putf (h' := jm_sI h K1 i j x) hx hb hown hts hE hAm hR hc hj ok.2.1 hw hfin hty (by rcases e2 with rfl | rfl <;> rfl) (by rcases e2 with rfl | rfl <;> rfl) hd (fun K' i' _ _ e => jm_sI_ne K' i' e) (jm_sI_fv h0) hR.2.2 hS (fun H1 locs1 hR1 hS1 => ?_)
      have := hW ok.2.2 okL H1 locs1 A hR1 hS1 hL
      rw [hp] at this
      exact this
    · cases hf
  · cases hf
theorem jm_n_pM {K j n K' : Nat} {q : vw_C} {C0 : String} (hc : jm_cl[K]? = some q) (hj : j < q.2.2) (h0 : jm_ft K j = (2, K', fun i => i)) (hw : Cond.fieldLink (jm_nm y).cls n (q.2.1 j).1 (q.2.1 j).2.1 (q.2.1 j).2.2.1 ∈ jm_T) (hfin : (q.2.1 j).2.2.2 = false) (hty : parseFieldDescriptor (q.2.1 j).2.2.1 = some (.object C0)) (hd : decode (jm_by y) (jm_pc y k) = .ok (.putfield n, 3)) (hp : jm_pc y (k + 1) = jm_pc y k + 3) : jm_SN y k (jm_pM K j K') := by
  intro G p l e R s m args below meth c cells slots Q C ls st h k' ls' st' h' hf hW
  obtain ⟨hx, hb, hml, hown, hts, hE, hAm, hfr, hlo, hce, hsl, hZ⟩ := C
  unfold jm_pM at hf
  split at hf
  · rename_i xx qq r
    obtain ⟨K1, i⟩ := qq
    obtain ⟨K2, x⟩ := xx
    split at hf
    · rename_i e1
      obtain ⟨e1, e2⟩ := e1
      dsimp only at e1 e2
      subst e1
      subst e2
      cases hf
      intro ok okL H locs A hR hS hL
      refine jm_putf (h' := jm_sR h K1 i j x) hx hb hown hts hE hAm hR hc hj ok.2.1 hw hfin hty rfl rfl hd (fun K' i' _ _ e => ?_) (fun j' => ?_) (fun K' i' j' hf2 hi2 => ?_) hS (fun H1 locs1 hR1 hS1 => ?_)
      · have h1 : ∀ j', (jm_sR h K1 i j x).2.1 K' i' j' = h.2.1 K' i' j' := fun j' => if_neg (fun q => e ⟨q.1, q.2.2⟩)
        refine ⟨fun j' => ?_, fun j' => rfl⟩
        unfold jm_fv
        rw [h1]
        rfl
      · by_cases e : j' = j
        · subst e
          simp [updV, jm_fv, h0, jm_sR, jm_sh]
        · have h1 : (jm_sR h K1 i j x).2.1 K1 i j' = h.2.1 K1 i j' := if_neg (fun q => e q.2.1)
          simp only [updV, e, if_false]
          unfold jm_fv
          rw [h1]
          rfl
      · show (if K' = K1 ∧ j' = j ∧ i' = i then x else h.2.1 K' i' j') < _
        split
        · rename_i e3
          obtain ⟨rfl, rfl, rfl⟩ := e3
          rw [h0]
          exact ok.1
        · exact hR.2.2 K' i' j' hf2 hi2
      · have := hW ok.2.2 okL H1 locs1 A hR1 hS1 hL
        rw [hp] at this
        exact this
    · cases hf
  · cases hf
def jm_iald : jm_F := fun k ls st h => match st with
  | .inl (.int j) :: .inr q :: r => if (jm_el q.1).1 = 0 ∧ jm_in j (jm_ln q.1) then some (k, ls, .inl (.int (h.1 q.1 q.2 j.toNatClampNeg)) :: r, h) else none
  | _ => none
def jm_bald : jm_F := fun k ls st h => match st with
  | .inl (.int j) :: .inr q :: r => if (jm_el q.1).1 = 1 ∧ jm_in j (jm_ln q.1) then some (k, ls, .inl (.int (h.1 q.1 q.2 j.toNatClampNeg)) :: r, h) else none
  | _ => none
def jm_lald : jm_F := fun k ls st h => match st with
  | .inl (.int j) :: .inr q :: r => if (jm_el q.1).1 = 2 ∧ jm_in j (jm_ln q.1) then some (k, ls, .inl (.long h.2.2) :: r, h) else none
  | _ => none
def jm_aald : jm_F := fun k ls st h => match st with
  | .inl (.int j) :: .inr q :: r => if (jm_el q.1).1 = 3 ∧ jm_in j (jm_ln q.1) then some (k, ls, .inr ((jm_el q.1).2.1, (jm_el q.1).2.2 * q.2 + j.toNatClampNeg) :: r, h) else none
  | _ => none
theorem jm_n_iald (hd : decode (jm_by y) (jm_pc y k) = .ok (.iaload, 1)) (hp : jm_pc y (k + 1) = jm_pc y k + 1) : jm_SN y k jm_iald := by
  intro G p l e R s m args below meth c cells slots Q C ls st h k' ls' st' h' hf hW
  obtain ⟨hx, hb, hml, hown, hts, hE, hAm, hfr, hlo, hce, hsl, hZ⟩ := C
  unfold jm_iald at hf
  split at hf
  · rename_i j qq r
    obtain ⟨K, i⟩ := qq
    split at hf
    · rename_i e1
      obtain ⟨e1, e2⟩ := e1
      dsimp only at e1 e2
      cases hf
      intro ok okL H locs A hR hS hL
      have hK := jm_el_K (K := K) (by omega)
      have hv : jm_av G h K i j.toNatClampNeg = .int (h.1 K i j.toNatClampNeg) := by unfold jm_av; rw [e1]; rfl
      refine W.iald (v := .int (h.1 K i j.toNatClampNeg)) hx hb (hR.arr (K := K) (i := i) (by omega) ok.2.1) (by have := hE.2.1 K hK.1 hK.2; rw [jm_ety0 K hK.2 e1] at this; exact this _ _) (fun q => by cases q) (by rw [arrV_size]; exact jm_in_vp e2) (by rw [arrV_read _ _ (jm_in_lt e2), hv]) rfl rfl hd ?_
      have := hW ⟨trivial, ok.2.2⟩ okL H locs A hR hS hL
      rw [hp] at this
      exact this
    · cases hf
  · cases hf
theorem jm_n_bald (hd : decode (jm_by y) (jm_pc y k) = .ok (.baload, 1)) (hp : jm_pc y (k + 1) = jm_pc y k + 1) : jm_SN y k jm_bald := by
  intro G p l e R s m args below meth c cells slots Q C ls st h k' ls' st' h' hf hW
  obtain ⟨hx, hb, hml, hown, hts, hE, hAm, hfr, hlo, hce, hsl, hZ⟩ := C
  unfold jm_bald at hf
  split at hf
  · rename_i j qq r
    obtain ⟨K, i⟩ := qq
    split at hf
    · rename_i e1
      obtain ⟨e1, e2⟩ := e1
      dsimp only at e1 e2
      cases hf
      intro ok okL H locs A hR hS hL
      have hK := jm_el_K (K := K) (by omega)
      have hv : jm_av G h K i j.toNatClampNeg = .int (h.1 K i j.toNatClampNeg) := by unfold jm_av; rw [e1]; rfl
      refine W.bald (v := .int (h.1 K i j.toNatClampNeg)) hx hb (hR.arr (K := K) (i := i) (by omega) ok.2.1) (by have := hE.2.1 K hK.1 hK.2; rw [jm_ety1 K hK.2 e1] at this; exact this _ _) (fun q => by cases q) (by rw [arrV_size]; exact jm_in_vp e2) (by rw [arrV_read _ _ (jm_in_lt e2), hv]) rfl rfl hd ?_
      have := hW ⟨trivial, ok.2.2⟩ okL H locs A hR hS hL
      rw [hp] at this
      exact this
    · cases hf
  · cases hf
theorem jm_n_lald (hd : decode (jm_by y) (jm_pc y k) = .ok (.laload, 1)) (hp : jm_pc y (k + 1) = jm_pc y k + 1) : jm_SN y k jm_lald := by
  intro G p l e R s m args below meth c cells slots Q C ls st h k' ls' st' h' hf hW
  obtain ⟨hx, hb, hml, hown, hts, hE, hAm, hfr, hlo, hce, hsl, hZ⟩ := C
  unfold jm_lald at hf
  split at hf
  · rename_i j qq r
    obtain ⟨K, i⟩ := qq
    split at hf
    · rename_i e1
      obtain ⟨e1, e2⟩ := e1
      dsimp only at e1 e2
      cases hf
      intro ok okL H locs A hR hS hL
      have hK := jm_el_K (K := K) (by omega)
      have hj0 : j.toNatClampNeg = 0 := by
        have h58 : ∀ K, K < 59 → (jm_el K).1 = 2 → jm_ln K = 1 := by decide +kernel
        have := jm_in_lt e2
        have := h58 K hK.2 e1
        omega
      have hv : jm_av G h K i j.toNatClampNeg = .long h.2.2 := by unfold jm_av; rw [e1, hj0]; rfl
      refine W.lald (v := .long h.2.2) hx hb (hR.arr (K := K) (i := i) (by omega) ok.2.1) (by have := hE.2.1 K hK.1 hK.2; rw [jm_ety2 K hK.2 e1] at this; exact this _ _) (fun q => by cases q) (by rw [arrV_size]; exact jm_in_vp e2) (by rw [arrV_read _ _ (jm_in_lt e2), hv]) rfl rfl hd ?_
      have := hW ⟨trivial, ok.2.2⟩ okL H locs A hR hS hL
      rw [hp] at this
      exact this
    · cases hf
  · cases hf
theorem jm_n_aald (hd : decode (jm_by y) (jm_pc y k) = .ok (.aaload, 1)) (hp : jm_pc y (k + 1) = jm_pc y k + 1) : jm_SN y k jm_aald := by
  intro G p l e R s m args below meth c cells slots Q C ls st h k' ls' st' h' hf hW
  obtain ⟨hx, hb, hml, hown, hts, hE, hAm, hfr, hlo, hce, hsl, hZ⟩ := C
  unfold jm_aald at hf
  split at hf
  · rename_i j qq r
    obtain ⟨K, i⟩ := qq
    split at hf
    · rename_i e1
      obtain ⟨e1, e2⟩ := e1
      dsimp only at e1 e2
      cases hf
      intro ok okL H locs A hR hS hL
      have hK := jm_el_K (K := K) (by omega)
      have hv : jm_av G h K i j.toNatClampNeg = .ref (G.1 (jm_el K).2.1 ((jm_el K).2.2 * i + j.toNatClampNeg)) := by unfold jm_av; rw [e1]; rfl
      refine W.aald (v := .ref (G.1 (jm_el K).2.1 ((jm_el K).2.2 * i + j.toNatClampNeg))) (ty := jm_ety K) hx hb (hR.arr (K := K) (i := i) (by omega) ok.2.1) (hE.2.1 K hK.1 hK.2 _ _) (jm_ety3 K hK.2 e1) (fun q => by cases q) (by rw [arrV_size]; exact jm_in_vp e2) (by rw [arrV_read _ _ (jm_in_lt e2), hv]) rfl rfl hd ?_
      have := hW ⟨jm_el_ok K hK.2 e1 i ok.2.1 _ (jm_in_lt e2), ok.2.2⟩ okL H locs A hR hS hL
      rw [hp] at this
      exact this
    · cases hf
  · cases hf
def jm_iast : jm_F := fun k ls st h => match st with
  | .inl (.int x) :: .inl (.int j) :: .inr q :: r => if (jm_el q.1).1 = 0 ∧ jm_in j (jm_ln q.1) then some (k, ls, r, jm_sI h q.1 q.2 j.toNatClampNeg x) else none
  | _ => none
def jm_bast : jm_F := fun k ls st h => match st with
  | .inl (.int x) :: .inl (.int j) :: .inr q :: r => if (jm_el q.1).1 = 1 ∧ jm_in j (jm_ln q.1) then some (k, ls, r, jm_sI h q.1 q.2 j.toNatClampNeg x.toInt8.toInt32) else none
  | _ => none
def jm_last : jm_F := fun k ls st h => match st with
  | .inl (.long x) :: .inl (.int j) :: .inr q :: r => if (jm_el q.1).1 = 2 ∧ jm_in j (jm_ln q.1) then some (k, ls, r, jm_sL h x) else none
  | _ => none
theorem jm_sI_av {G : jm_G} {h : jm_H} {K i j : Nat} {x : Int32} (h0 : (jm_el K).1 ≤ 1) (j' : Nat) : jm_av G (jm_sI h K i j x) K i j' = updV (jm_av G h K i) j (.int x) j' := by
  have key : ∀ h2 : jm_H, jm_av G h2 K i j' = .int (h2.1 K i j') := fun h2 => by
    unfold jm_av
    split
    · omega
    · omega
    · rfl
  rw [key]
  by_cases e : j' = j
  · subst e
    simp [updV, jm_sI]
  · have h1 : (jm_sI h K i j x).1 K i j' = h.1 K i j' := if_neg (fun q => e q.2.1)
    simp only [updV, e, if_false]
    rw [key, h1]
theorem jm_Rel.ast {G : jm_G} {h : jm_H} {H H' : Heap} {K i j : Nat} {x : Int32} (hR : jm_Rel G h H) (hAm : jm_Amb G) (h0 : (jm_el K).1 ≤ 1) (hi : i < jm_cnt K) (e1 : H'[G.1 K i]? = some ((arrV (G.2.2.1 K) (jm_ln K) (jm_av G h K i)).setSlot j (.int x))) (e3 : ∀ q : Nat, q ≠ G.1 K i → H'[q]? = H[q]?) : jm_Rel G (jm_sI h K i j x) H' := by
  have hK := jm_el_K (K := K) (by omega)
  refine hR.put hAm hK.2 hi e3 ?_ (fun K' i' _ _ e => jm_sI_ne K' i' e) hR.2.2
  unfold jm_at
  rw [if_neg (by omega), e1, arrV_store, ← funext (jm_sI_av h0)]
theorem jm_n_iast (hd : decode (jm_by y) (jm_pc y k) = .ok (.iastore, 1)) (hp : jm_pc y (k + 1) = jm_pc y k + 1) : jm_SN y k jm_iast := by
  intro G p l e R s m args below meth c cells slots Q C ls st h k' ls' st' h' hf hW
  obtain ⟨hx, hb, hml, hown, hts, hE, hAm, hfr, hlo, hce, hsl, hZ⟩ := C
  unfold jm_iast at hf
  split at hf
  · rename_i x j qq r
    obtain ⟨K, i⟩ := qq
    split at hf
    · rename_i e1
      obtain ⟨e1, e2⟩ := e1
      dsimp only at e1 e2
      cases hf
      intro ok okL H locs A hR hS hL
      have hK := jm_el_K (K := K) (by omega)
      refine W.iast hx hb (hR.arr (K := K) (i := i) (by omega) ok.2.2.1) (by have := hE.2.1 K hK.1 hK.2; rw [jm_ety0 K hK.2 e1] at this; exact this _ _) (fun q => by cases q) (by rw [arrV_size]; exact jm_in_vp e2) rfl rfl hd (fun H1 h1 h2 h3 => ?_)
      have := hW ok.2.2.2 okL H1 _ A (hR.ast (K := K) (i := i) hAm (by omega) ok.2.2.1 h1 h3) (hS.put (k := j.toNatClampNeg) h2 h3 (hAm.2 K i hK.2 ok.2.2.1)) hL
      rw [hp] at this
      exact this
    · cases hf
  · cases hf
theorem jm_n_bast (hd : decode (jm_by y) (jm_pc y k) = .ok (.bastore, 1)) (hp : jm_pc y (k + 1) = jm_pc y k + 1) : jm_SN y k jm_bast := by
  intro G p l e R s m args below meth c cells slots Q C ls st h k' ls' st' h' hf hW
  obtain ⟨hx, hb, hml, hown, hts, hE, hAm, hfr, hlo, hce, hsl, hZ⟩ := C
  unfold jm_bast at hf
  split at hf
  · rename_i x j qq r
    obtain ⟨K, i⟩ := qq
    split at hf
    · rename_i e1
      obtain ⟨e1, e2⟩ := e1
      dsimp only at e1 e2
      cases hf
      intro ok okL H locs A hR hS hL
      have hK := jm_el_K (K := K) (by omega)
      refine W.bast hx hb (hR.arr (K := K) (i := i) (by omega) ok.2.2.1) (by have := hE.2.1 K hK.1 hK.2; rw [jm_ety1 K hK.2 e1] at this; exact this _ _) (fun q => by cases q) (by rw [arrV_size]; exact jm_in_vp e2) rfl rfl hd (fun H1 h1 h2 h3 => ?_)
      have := hW ok.2.2.2 okL H1 _ A (hR.ast (K := K) (i := i) hAm (by omega) ok.2.2.1 h1 h3) (hS.put (k := j.toNatClampNeg) h2 h3 (hAm.2 K i hK.2 ok.2.2.1)) hL
      rw [hp] at this
      exact this
    · cases hf
  · cases hf
theorem jm_n_last (hd : decode (jm_by y) (jm_pc y k) = .ok (.lastore, 1)) (hp : jm_pc y (k + 1) = jm_pc y k + 1) : jm_SN y k jm_last := by
  intro G p l e R s m args below meth c cells slots Q C ls st h k' ls' st' h' hf hW
  obtain ⟨hx, hb, hml, hown, hts, hE, hAm, hfr, hlo, hce, hsl, hZ⟩ := C
  unfold jm_last at hf
  split at hf
  · rename_i x j qq r
    obtain ⟨K, i⟩ := qq
    split at hf
    · rename_i e1
      obtain ⟨e1, e2⟩ := e1
      dsimp only at e1 e2
      cases hf
      intro ok okL H locs A hR hS hL
      have hK := jm_el_K (K := K) (by omega)
      have hK58 : K = 58 := by
        have : ∀ K, K < 59 → (jm_el K).1 = 2 → K = 58 := by decide +kernel
        exact this K hK.2 e1
      subst hK58
      have hi0 : i = 0 := by
        have : i < 1 := ok.2.2.1
        omega
      subst hi0
      have hj0 : j.toNatClampNeg = 0 := by
        have : j.toNatClampNeg < 1 := jm_in_lt e2
        omega
      refine W.last hx hb (hR.arr (K := 58) (i := 0) (by decide) ok.2.2.1) (by have := hE.2.1 58 hK.1 hK.2; exact this _ _) (fun q => by cases q) (by rw [arrV_size]; exact jm_in_vp e2) rfl rfl hd (fun H1 h1 h2 h3 => ?_)
      have hR1 : jm_Rel G (jm_sL h x) H1 := by
        refine hR.put hAm (K := 58) (i := 0) (by omega) (by decide) h3 ?_ (fun K' i' hK' hi' e => ⟨fun j' => rfl, fun j' => ?_⟩) hR.2.2
        · unfold jm_at
          rw [if_neg (by omega), h1, arrV_store]
          congr 2
          funext q
          have hv : ∀ h2 : jm_H, jm_av G h2 58 0 q = .long (if q = 0 then h2.2.2 else 0) := fun _ => rfl
          rw [hv]
          by_cases e : q = 0
          · subst e
            rw [hj0]
            simp [updV, jm_sL]
          · simp [updV, hj0, e, hv, jm_sL]
        · unfold jm_av
          split
          · rename_i e9
            have hK9 : K' = 58 := by
              have : ∀ K, K < 59 → (jm_el K).1 = 2 → K = 58 := by decide +kernel
              exact this K' hK' e9
            subst hK9
            have : i' < 1 := hi'
            exact absurd ⟨rfl, by omega⟩ e
          · rfl
          · rfl
      have := hW ok.2.2.2 okL H1 _ A hR1 (hS.put (k := j.toNatClampNeg) h2 h3 (hAm.2 58 0 hK.2 ok.2.2.1)) hL
      rw [hp] at this
      exact this
    · cases hf
  · cases hf
def jm_alen : jm_F := fun k ls st h => match st with
  | .inr q :: r => if (jm_el q.1).1 ≤ 3 then some (k, ls, .inl (.int (jm_ln q.1).toInt32) :: r, h) else none
  | _ => none
theorem jm_n_alen (hd : decode (jm_by y) (jm_pc y k) = .ok (.arraylength, 1)) (hp : jm_pc y (k + 1) = jm_pc y k + 1) : jm_SN y k jm_alen := by
  intro G p l e R s m args below meth c cells slots Q C ls st h k' ls' st' h' hf hW
  obtain ⟨hx, hb, hml, hown, hts, hE, hAm, hfr, hlo, hce, hsl, hZ⟩ := C
  unfold jm_alen at hf
  split at hf
  · rename_i qq r
    obtain ⟨K, i⟩ := qq
    split at hf
    · rename_i e1
      dsimp only at e1
      cases hf
      intro ok okL H locs A hR hS hL
      have hK := jm_el_K e1
      refine W.alen (n := (jm_ln K).toInt32) hx hb (hR.arr e1 ok.1) (hE.2.1 K hK.1 hK.2 _ _) (by rw [arrV_size]) rfl rfl hd ?_
      have := hW ⟨trivial, ok.2⟩ okL H locs A hR hS hL
      rw [hp] at this
      exact this
    · cases hf
  · cases hf
end JMH
