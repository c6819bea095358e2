abbrev jm_F : Type := Nat → jm_L → List jm_V → jm_H → Option jm_S
section JMI
variable {y : jm_M} {k : Nat}
def jm_iload (i : Nat) : jm_F := fun k ls st h => match ls[i]? with
  | some (some (.inl (.int x))) => some (k, ls, .inl (.int x) :: st, h)
  | _ => none
theorem jm_n_iload {i : Nat} (hd : decode (jm_by y) (jm_pc y k) = .ok (.iload i, 2)) (hp : jm_pc y (k + 1) = jm_pc y k + 2) : jm_SN y k (jm_iload i) := by
  intro G p l e R s m args below meth c cells slots Q C ls st h k' ls' st' h' hf hW
  obtain ⟨hx, hb, hml, hown, hts, hE, hAm, hfr, hlo, hce, hsl, hZ⟩ := C
  unfold jm_iload at hf
  split at hf
  · cases hf
    intro ok okL H locs A hR hS hL
    have hq := hL.2.2.2 _ _ (by assumption)
    refine lv_iload hx hb hd hq ?_
    have := hW ⟨trivial, ok⟩ okL H locs A hR hS hL
    rw [hp] at this
    exact this
  · cases hf
theorem jm_n_iload_n {i : Nat} {n : Fin 4} (hn : (n : Nat) = i) (hd : decode (jm_by y) (jm_pc y k) = .ok (.iload_n n, 1)) (hp : jm_pc y (k + 1) = jm_pc y k + 1) : jm_SN y k (jm_iload i) := by
  intro G p l e R s m args below meth c cells slots Q C ls st h k' ls' st' h' hf hW
  obtain ⟨hx, hb, hml, hown, hts, hE, hAm, hfr, hlo, hce, hsl, hZ⟩ := C
  unfold jm_iload at hf
  split at hf
  · cases hf
    intro ok okL H locs A hR hS hL
    have hq := hL.2.2.2 _ _ (by assumption)
    refine lv_iload_n hx hb hd hn hq ?_
    have := hW ⟨trivial, ok⟩ okL H locs A hR hS hL
    rw [hp] at this
    exact this
  · cases hf
def jm_aload (i : Nat) : jm_F := fun k ls st h => match ls[i]? with
  | some (some (.inr q)) => some (k, ls, .inr q :: st, h)
  | _ => none
theorem jm_n_aload {i : Nat} (hd : decode (jm_by y) (jm_pc y k) = .ok (.aload i, 2)) (hp : jm_pc y (k + 1) = jm_pc y k + 2) : jm_SN y k (jm_aload i) := by
  intro G p l e R s m args below meth c cells slots Q C ls st h k' ls' st' h' hf hW
  obtain ⟨hx, hb, hml, hown, hts, hE, hAm, hfr, hlo, hce, hsl, hZ⟩ := C
  unfold jm_aload at hf
  split at hf
  · cases hf
    intro ok okL H locs A hR hS hL
    have hq := hL.2.2.2 _ _ (by assumption)
    refine lv_aload hx hb hd hq ?_
    have := hW ⟨okL _ _ (by assumption), ok⟩ okL H locs A hR hS hL
    rw [hp] at this
    exact this
  · cases hf
theorem jm_n_aload_n {i : Nat} {n : Fin 4} (hn : (n : Nat) = i) (hd : decode (jm_by y) (jm_pc y k) = .ok (.aload_n n, 1)) (hp : jm_pc y (k + 1) = jm_pc y k + 1) : jm_SN y k (jm_aload i) := by
  intro G p l e R s m args below meth c cells slots Q C ls st h k' ls' st' h' hf hW
  obtain ⟨hx, hb, hml, hown, hts, hE, hAm, hfr, hlo, hce, hsl, hZ⟩ := C
  unfold jm_aload at hf
  split at hf
  · cases hf
    intro ok okL H locs A hR hS hL
    have hq := hL.2.2.2 _ _ (by assumption)
    refine lv_aload_n hx hb hd hn hq ?_
    have := hW ⟨okL _ _ (by assumption), ok⟩ okL H locs A hR hS hL
    rw [hp] at this
    exact this
  · cases hf
def jm_dload (i : Nat) : jm_F := fun k ls st h => match ls[i]? with
  | some (some (.inl (.double x))) => some (k, ls, .inl (.double x) :: st, h)
  | _ => none
theorem jm_n_dload {i : Nat} (hd : decode (jm_by y) (jm_pc y k) = .ok (.dload i, 2)) (hp : jm_pc y (k + 1) = jm_pc y k + 2) : jm_SN y k (jm_dload i) := by
  intro G p l e R s m args below meth c cells slots Q C ls st h k' ls' st' h' hf hW
  obtain ⟨hx, hb, hml, hown, hts, hE, hAm, hfr, hlo, hce, hsl, hZ⟩ := C
  unfold jm_dload at hf
  split at hf
  · cases hf
    intro ok okL H locs A hR hS hL
    have hq := hL.2.2.2 _ _ (by assumption)
    refine lv_dload hx hb hd hq ?_
    have := hW ⟨trivial, ok⟩ okL H locs A hR hS hL
    rw [hp] at this
    exact this
  · cases hf
theorem jm_n_dload_n {i : Nat} {n : Fin 4} (hn : (n : Nat) = i) (hd : decode (jm_by y) (jm_pc y k) = .ok (.dload_n n, 1)) (hp : jm_pc y (k + 1) = jm_pc y k + 1) : jm_SN y k (jm_dload i) := by
  intro G p l e R s m args below meth c cells slots Q C ls st h k' ls' st' h' hf hW
  obtain ⟨hx, hb, hml, hown, hts, hE, hAm, hfr, hlo, hce, hsl, hZ⟩ := C
  unfold jm_dload at hf
  split at hf
  · cases hf
    intro ok okL H locs A hR hS hL
    have hq := hL.2.2.2 _ _ (by assumption)
    refine lv_dload_n hx hb hd hn hq ?_
    have := hW ⟨trivial, ok⟩ okL H locs A hR hS hL
    rw [hp] at this
    exact this
  · cases hf
def jm_lload (i : Nat) : jm_F := fun k ls st h => match ls[i]? with
  | some (some (.inl (.long x))) => some (k, ls, .inl (.long x) :: st, h)
  | _ => none
theorem jm_n_lload {i : Nat} (hd : decode (jm_by y) (jm_pc y k) = .ok (.lload i, 2)) (hp : jm_pc y (k + 1) = jm_pc y k + 2) : jm_SN y k (jm_lload i) := by
  intro G p l e R s m args below meth c cells slots Q C ls st h k' ls' st' h' hf hW
  obtain ⟨hx, hb, hml, hown, hts, hE, hAm, hfr, hlo, hce, hsl, hZ⟩ := C
  unfold jm_lload at hf
  split at hf
  · cases hf
    intro ok okL H locs A hR hS hL
    have hq := hL.2.2.2 _ _ (by assumption)
    refine lv_lload hx hb hd hq ?_
    have := hW ⟨trivial, ok⟩ okL H locs A hR hS hL
    rw [hp] at this
    exact this
  · cases hf
theorem jm_n_lload_n {i : Nat} {n : Fin 4} (hn : (n : Nat) = i) (hd : decode (jm_by y) (jm_pc y k) = .ok (.lload_n n, 1)) (hp : jm_pc y (k + 1) = jm_pc y k + 1) : jm_SN y k (jm_lload i) := by
  intro G p l e R s m args below meth c cells slots Q C ls st h k' ls' st' h' hf hW
  obtain ⟨hx, hb, hml, hown, hts, hE, hAm, hfr, hlo, hce, hsl, hZ⟩ := C
  unfold jm_lload at hf
  split at hf
  · cases hf
    intro ok okL H locs A hR hS hL
    have hq := hL.2.2.2 _ _ (by assumption)
    refine lv_lload_n hx hb hd hn hq ?_
    have := hW ⟨trivial, ok⟩ okL H locs A hR hS hL
    rw [hp] at this
    exact this
  · cases hf
def jm_fload (i : Nat) : jm_F := fun k ls st h => match ls[i]? with
  | some (some (.inl (.float x))) => some (k, ls, .inl (.float x) :: st, h)
  | _ => none
theorem jm_n_fload {i : Nat} (hd : decode (jm_by y) (jm_pc y k) = .ok (.fload i, 2)) (hp : jm_pc y (k + 1) = jm_pc y k + 2) : jm_SN y k (jm_fload i) := by
  intro G p l e R s m args below meth c cells slots Q C ls st h k' ls' st' h' hf hW
  obtain ⟨hx, hb, hml, hown, hts, hE, hAm, hfr, hlo, hce, hsl, hZ⟩ := C
  unfold jm_fload at hf
  split at hf
  · cases hf
    intro ok okL H locs A hR hS hL
    have hq := hL.2.2.2 _ _ (by assumption)
    refine lv_fload hx hb hd hq ?_
    have := hW ⟨trivial, ok⟩ okL H locs A hR hS hL
    rw [hp] at this
    exact this
  · cases hf
def jm_istore (i : Nat) : jm_F := fun k ls st h => match st with
  | .inl (.int x) :: r => some (k, jm_s1 ls i (.inl (.int x)), r, h)
  | _ => none
theorem jm_n_istore {i : Nat} (hi : i < jm_mx y) (hd : decode (jm_by y) (jm_pc y k) = .ok (.istore i, 2)) (hp : jm_pc y (k + 1) = jm_pc y k + 2) : jm_SN y k (jm_istore i) := by
  intro G p l e R s m args below meth c cells slots Q C ls st h k' ls' st' h' hf hW
  obtain ⟨hx, hb, hml, hown, hts, hE, hAm, hfr, hlo, hce, hsl, hZ⟩ := C
  unfold jm_istore at hf
  split at hf
  · cases hf
    intro ok okL H locs A hR hS hL
    refine lv_istore hx hb hd hL.has hi rfl (fun A1 hA1 => ?_)
    have := hW ok.2 (jm_okL_s1 okL trivial) H locs A1 hR hS (hL.s1 rfl A1 hA1)
    rw [hp] at this
    exact this
  · cases hf
theorem jm_n_istore_n {i : Nat} {n : Fin 4} (hn : (n : Nat) = i) (hi : i < jm_mx y) (hd : decode (jm_by y) (jm_pc y k) = .ok (.istore_n n, 1)) (hp : jm_pc y (k + 1) = jm_pc y k + 1) : jm_SN y k (jm_istore i) := by
  intro G p l e R s m args below meth c cells slots Q C ls st h k' ls' st' h' hf hW
  obtain ⟨hx, hb, hml, hown, hts, hE, hAm, hfr, hlo, hce, hsl, hZ⟩ := C
  unfold jm_istore at hf
  split at hf
  · cases hf
    intro ok okL H locs A hR hS hL
    refine lv_istore_n hx hb hd hn hL.has hi rfl (fun A1 hA1 => ?_)
    have := hW ok.2 (jm_okL_s1 okL trivial) H locs A1 hR hS (hL.s1 rfl A1 hA1)
    rw [hp] at this
    exact this
  · cases hf
def jm_astore (i : Nat) : jm_F := fun k ls st h => match st with
  | .inr q :: r => some (k, jm_s1 ls i (.inr q), r, h)
  | _ => none
theorem jm_n_astore {i : Nat} (hi : i < jm_mx y) (hd : decode (jm_by y) (jm_pc y k) = .ok (.astore i, 2)) (hp : jm_pc y (k + 1) = jm_pc y k + 2) : jm_SN y k (jm_astore i) := by
  intro G p l e R s m args below meth c cells slots Q C ls st h k' ls' st' h' hf hW
  obtain ⟨hx, hb, hml, hown, hts, hE, hAm, hfr, hlo, hce, hsl, hZ⟩ := C
  unfold jm_astore at hf
  split at hf
  · cases hf
    intro ok okL H locs A hR hS hL
    refine lv_astore hx hb hd hL.has hi rfl (fun A1 hA1 => ?_)
    have := hW ok.2 (jm_okL_s1 okL ok.1) H locs A1 hR hS (hL.s1 rfl A1 hA1)
    rw [hp] at this
    exact this
  · cases hf
theorem jm_n_astore_n {i : Nat} {n : Fin 4} (hn : (n : Nat) = i) (hi : i < jm_mx y) (hd : decode (jm_by y) (jm_pc y k) = .ok (.astore_n n, 1)) (hp : jm_pc y (k + 1) = jm_pc y k + 1) : jm_SN y k (jm_astore i) := by
  intro G p l e R s m args below meth c cells slots Q C ls st h k' ls' st' h' hf hW
  obtain ⟨hx, hb, hml, hown, hts, hE, hAm, hfr, hlo, hce, hsl, hZ⟩ := C
  unfold jm_astore at hf
  split at hf
  · cases hf
    intro ok okL H locs A hR hS hL
    refine lv_astore_n hx hb hd hn hL.has hi rfl (fun A1 hA1 => ?_)
    have := hW ok.2 (jm_okL_s1 okL ok.1) H locs A1 hR hS (hL.s1 rfl A1 hA1)
    rw [hp] at this
    exact this
  · cases hf
def jm_fstore (i : Nat) : jm_F := fun k ls st h => match st with
  | .inl (.float x) :: r => some (k, jm_s1 ls i (.inl (.float x)), r, h)
  | _ => none
theorem jm_n_fstore {i : Nat} (hi : i < jm_mx y) (hd : decode (jm_by y) (jm_pc y k) = .ok (.fstore i, 2)) (hp : jm_pc y (k + 1) = jm_pc y k + 2) : jm_SN y k (jm_fstore i) := by
  intro G p l e R s m args below meth c cells slots Q C ls st h k' ls' st' h' hf hW
  obtain ⟨hx, hb, hml, hown, hts, hE, hAm, hfr, hlo, hce, hsl, hZ⟩ := C
  unfold jm_fstore at hf
  split at hf
  · cases hf
    intro ok okL H locs A hR hS hL
    refine lv_fstore hx hb hd hL.has hi rfl (fun A1 hA1 => ?_)
    have := hW ok.2 (jm_okL_s1 okL trivial) H locs A1 hR hS (hL.s1 rfl A1 hA1)
    rw [hp] at this
    exact this
  · cases hf
def jm_lstore (i : Nat) : jm_F := fun k ls st h => match st with
  | .inl (.long x) :: r => some (k, jm_s2 ls i (.inl (.long x)), r, h)
  | _ => none
theorem jm_n_lstore {i : Nat} (hi : i + 1 < jm_mx y) (hd : decode (jm_by y) (jm_pc y k) = .ok (.lstore i, 2)) (hp : jm_pc y (k + 1) = jm_pc y k + 2) : jm_SN y k (jm_lstore i) := by
  intro G p l e R s m args below meth c cells slots Q C ls st h k' ls' st' h' hf hW
  obtain ⟨hx, hb, hml, hown, hts, hE, hAm, hfr, hlo, hce, hsl, hZ⟩ := C
  unfold jm_lstore at hf
  split at hf
  · cases hf
    intro ok okL H locs A hR hS hL
    refine lv_lstore hx hb hd hL.has hi rfl (fun A1 hA1 => ?_)
    have := hW ok.2 (jm_okL_s2 okL trivial) H locs A1 hR hS (hL.s2 rfl A1 hA1)
    rw [hp] at this
    exact this
  · cases hf
theorem jm_n_lstore_n {i : Nat} {n : Fin 4} (hn : (n : Nat) = i) (hi : i + 1 < jm_mx y) (hd : decode (jm_by y) (jm_pc y k) = .ok (.lstore_n n, 1)) (hp : jm_pc y (k + 1) = jm_pc y k + 1) : jm_SN y k (jm_lstore i) := by
  intro G p l e R s m args below meth c cells slots Q C ls st h k' ls' st' h' hf hW
  obtain ⟨hx, hb, hml, hown, hts, hE, hAm, hfr, hlo, hce, hsl, hZ⟩ := C
  unfold jm_lstore at hf
  split at hf
  · cases hf
    intro ok okL H locs A hR hS hL
    refine lv_lstore_n hx hb hd hn hL.has hi rfl (fun A1 hA1 => ?_)
    have := hW ok.2 (jm_okL_s2 okL trivial) H locs A1 hR hS (hL.s2 rfl A1 hA1)
    rw [hp] at this
    exact this
  · cases hf
def jm_dstore (i : Nat) : jm_F := fun k ls st h => match st with
  | .inl (.double x) :: r => some (k, jm_s2 ls i (.inl (.double x)), r, h)
  | _ => none
theorem jm_n_dstore {i : Nat} (hi : i + 1 < jm_mx y) (hd : decode (jm_by y) (jm_pc y k) = .ok (.dstore i, 2)) (hp : jm_pc y (k + 1) = jm_pc y k + 2) : jm_SN y k (jm_dstore i) := by
  intro G p l e R s m args below meth c cells slots Q C ls st h k' ls' st' h' hf hW
  obtain ⟨hx, hb, hml, hown, hts, hE, hAm, hfr, hlo, hce, hsl, hZ⟩ := C
  unfold jm_dstore at hf
  split at hf
  · cases hf
    intro ok okL H locs A hR hS hL
    refine lv_dstore hx hb hd hL.has hi rfl (fun A1 hA1 => ?_)
    have := hW ok.2 (jm_okL_s2 okL trivial) H locs A1 hR hS (hL.s2 rfl A1 hA1)
    rw [hp] at this
    exact this
  · cases hf
theorem jm_n_dstore_n {i : Nat} {n : Fin 4} (hn : (n : Nat) = i) (hi : i + 1 < jm_mx y) (hd : decode (jm_by y) (jm_pc y k) = .ok (.dstore_n n, 1)) (hp : jm_pc y (k + 1) = jm_pc y k + 1) : jm_SN y k (jm_dstore i) := by
  intro G p l e R s m args below meth c cells slots Q C ls st h k' ls' st' h' hf hW
  obtain ⟨hx, hb, hml, hown, hts, hE, hAm, hfr, hlo, hce, hsl, hZ⟩ := C
  unfold jm_dstore at hf
  split at hf
  · cases hf
    intro ok okL H locs A hR hS hL
    refine lv_dstore_n hx hb hd hn hL.has hi rfl (fun A1 hA1 => ?_)
    have := hW ok.2 (jm_okL_s2 okL trivial) H locs A1 hR hS (hL.s2 rfl A1 hA1)
    rw [hp] at this
    exact this
  · cases hf
def jm_iinc (i : Nat) (n : Int32) : jm_F := fun k ls st h => match ls[i]? with
  | some (some (.inl (.int x))) => some (k, jm_s1 ls i (.inl (.int (x + n))), st, h)
  | _ => none
theorem jm_n_iinc {i : Nat} {n : Int} {v : Int32} (hv : Int32.ofInt n = v) (hi : i < jm_mx y) (hd : decode (jm_by y) (jm_pc y k) = .ok (.iinc i n, 3)) (hp : jm_pc y (k + 1) = jm_pc y k + 3) : jm_SN y k (jm_iinc i v) := by
  intro G p l e R s m args below meth c cells slots Q C ls st h k' ls' st' h' hf hW
  obtain ⟨hx, hb, hml, hown, hts, hE, hAm, hfr, hlo, hce, hsl, hZ⟩ := C
  unfold jm_iinc at hf
  split at hf
  · rename_i x hx1
    cases hf
    intro ok okL H locs A hR hS hL
    obtain ⟨kk, hkk⟩ := List.getElem?_of_mem (jm_prs_mem (G := G) hx1)
    refine lv_iinc (v := x + v) hx hb hd hL.has hkk (by rw [hv]) hi rfl (fun A1 hA1 => ?_)
    have := hW ok (jm_okL_s1 okL trivial) H locs A1 hR hS (hL.s1 rfl A1 hA1)
    rw [hp] at this
    exact this
  · cases hf
def jm_ic (v : Int32) : jm_F := fun k ls st h => some (k, ls, .inl (.int v) :: st, h)
def jm_lc (v : Int64) : jm_F := fun k ls st h => some (k, ls, .inl (.long v) :: st, h)
def jm_dc (v : UInt64) : jm_F := fun k ls st h => some (k, ls, .inl (.double v) :: st, h)
theorem jm_n_iconst {n : Int} {v : Int32} (hv : Int32.ofInt n = v) (hd : decode (jm_by y) (jm_pc y k) = .ok (.iconst n, 1)) (hp : jm_pc y (k + 1) = jm_pc y k + 1) : jm_SN y k (jm_ic v) := by
  intro G p l e R s m args below meth c cells slots Q C ls st h k' ls' st' h' hf hW
  obtain ⟨hx, hb, hml, hown, hts, hE, hAm, hfr, hlo, hce, hsl, hZ⟩ := C
  cases hf
  intro ok okL H locs A hR hS hL
  refine lv_iconst hx hb hd hv ?_
  have := hW ⟨trivial, ok⟩ okL H locs A hR hS hL
  rw [hp] at this
  exact this
theorem jm_n_bipush {n : Int} {v : Int32} (hv : (Int8.ofInt n).toInt32 = v) (hd : decode (jm_by y) (jm_pc y k) = .ok (.bipush n, 2)) (hp : jm_pc y (k + 1) = jm_pc y k + 2) : jm_SN y k (jm_ic v) := by
  intro G p l e R s m args below meth c cells slots Q C ls st h k' ls' st' h' hf hW
  obtain ⟨hx, hb, hml, hown, hts, hE, hAm, hfr, hlo, hce, hsl, hZ⟩ := C
  cases hf
  intro ok okL H locs A hR hS hL
  refine lv_bipush hx hb hd hv ?_
  have := hW ⟨trivial, ok⟩ okL H locs A hR hS hL
  rw [hp] at this
  exact this
theorem jm_n_sipush {n : Int} {v : Int32} (hv : (Int16.ofInt n).toInt32 = v) (hd : decode (jm_by y) (jm_pc y k) = .ok (.sipush n, 3)) (hp : jm_pc y (k + 1) = jm_pc y k + 3) : jm_SN y k (jm_ic v) := by
  intro G p l e R s m args below meth c cells slots Q C ls st h k' ls' st' h' hf hW
  obtain ⟨hx, hb, hml, hown, hts, hE, hAm, hfr, hlo, hce, hsl, hZ⟩ := C
  cases hf
  intro ok okL H locs A hR hS hL
  refine lv_sipush hx hb hd hv ?_
  have := hW ⟨trivial, ok⟩ okL H locs A hR hS hL
  rw [hp] at this
  exact this
theorem jm_n_ldc {n : Nat} {v : Int32} (hw : Cond.constant (jm_nm y).cls n v ∈ jm_T) (hd : decode (jm_by y) (jm_pc y k) = .ok (.ldc n, 2)) (hp : jm_pc y (k + 1) = jm_pc y k + 2) : jm_SN y k (jm_ic v) := by
  intro G p l e R s m args below meth c cells slots Q C ls st h k' ls' st' h' hf hW
  obtain ⟨hx, hb, hml, hown, hts, hE, hAm, hfr, hlo, hce, hsl, hZ⟩ := C
  cases hf
  intro ok okL H locs A hR hS hL
  refine lv_ldc hx hb hown (hts _ hw) hd ?_
  have := hW ⟨trivial, ok⟩ okL H locs A hR hS hL
  rw [hp] at this
  exact this
theorem jm_n_ldcw {n : Nat} {v : Int32} (hw : Cond.constant (jm_nm y).cls n v ∈ jm_T) (hd : decode (jm_by y) (jm_pc y k) = .ok (.ldc_w n, 3)) (hp : jm_pc y (k + 1) = jm_pc y k + 3) : jm_SN y k (jm_ic v) := by
  intro G p l e R s m args below meth c cells slots Q C ls st h k' ls' st' h' hf hW
  obtain ⟨hx, hb, hml, hown, hts, hE, hAm, hfr, hlo, hce, hsl, hZ⟩ := C
  cases hf
  intro ok okL H locs A hR hS hL
  refine lv_ldcw hx hb hown (hts _ hw) hd ?_
  have := hW ⟨trivial, ok⟩ okL H locs A hR hS hL
  rw [hp] at this
  exact this
theorem jm_n_lconst {n : Fin 2} {v : Int64} (hv : Int64.ofNat (n : Nat) = v) (hd : decode (jm_by y) (jm_pc y k) = .ok (.lconst n, 1)) (hp : jm_pc y (k + 1) = jm_pc y k + 1) : jm_SN y k (jm_lc v) := by
  intro G p l e R s m args below meth c cells slots Q C ls st h k' ls' st' h' hf hW
  obtain ⟨hx, hb, hml, hown, hts, hE, hAm, hfr, hlo, hce, hsl, hZ⟩ := C
  cases hf
  intro ok okL H locs A hR hS hL
  refine lv_lconst hx hb hd hv ?_
  have := hW ⟨trivial, ok⟩ okL H locs A hR hS hL
  rw [hp] at this
  exact this
theorem jm_n_ldc2 {n : Nat} {v : Int64} (hw : Cond.constantLong (jm_nm y).cls n v ∈ jm_T) (hd : decode (jm_by y) (jm_pc y k) = .ok (.ldc2_w n, 3)) (hp : jm_pc y (k + 1) = jm_pc y k + 3) : jm_SN y k (jm_lc v) := by
  intro G p l e R s m args below meth c cells slots Q C ls st h k' ls' st' h' hf hW
  obtain ⟨hx, hb, hml, hown, hts, hE, hAm, hfr, hlo, hce, hsl, hZ⟩ := C
  cases hf
  intro ok okL H locs A hR hS hL
  refine lv_ldc2 hx hb hown (hts _ hw) hd ?_
  have := hW ⟨trivial, ok⟩ okL H locs A hR hS hL
  rw [hp] at this
  exact this
theorem jm_n_ldc2d {n : Nat} {v : UInt64} (hw : Cond.constantDouble (jm_nm y).cls n v ∈ jm_T) (hd : decode (jm_by y) (jm_pc y k) = .ok (.ldc2_w n, 3)) (hp : jm_pc y (k + 1) = jm_pc y k + 3) : jm_SN y k (jm_dc v) := by
  intro G p l e R s m args below meth c cells slots Q C ls st h k' ls' st' h' hf hW
  obtain ⟨hx, hb, hml, hown, hts, hE, hAm, hfr, hlo, hce, hsl, hZ⟩ := C
  cases hf
  intro ok okL H locs A hR hS hL
  refine lv_ldc2d hx hb hown (hts _ hw) hd ?_
  have := hW ⟨trivial, ok⟩ okL H locs A hR hS hL
  rw [hp] at this
  exact this
theorem jm_n_dconst0  (hd : decode (jm_by y) (jm_pc y k) = .ok (.dconst 0, 1)) (hp : jm_pc y (k + 1) = jm_pc y k + 1) : jm_SN y k (jm_dc FP.dconst0) := by
  intro G p l e R s m args below meth c cells slots Q C ls st h k' ls' st' h' hf hW
  obtain ⟨hx, hb, hml, hown, hts, hE, hAm, hfr, hlo, hce, hsl, hZ⟩ := C
  cases hf
  intro ok okL H locs A hR hS hL
  refine lv_dconst0 hx hb hd ?_
  have := hW ⟨trivial, ok⟩ okL H locs A hR hS hL
  rw [hp] at this
  exact this
theorem jm_n_dconst1  (hd : decode (jm_by y) (jm_pc y k) = .ok (.dconst 1, 1)) (hp : jm_pc y (k + 1) = jm_pc y k + 1) : jm_SN y k (jm_dc FP.dconst1) := by
  intro G p l e R s m args below meth c cells slots Q C ls st h k' ls' st' h' hf hW
  obtain ⟨hx, hb, hml, hown, hts, hE, hAm, hfr, hlo, hce, hsl, hZ⟩ := C
  cases hf
  intro ok okL H locs A hR hS hL
  refine lv_dconst1 hx hb hd ?_
  have := hW ⟨trivial, ok⟩ okL H locs A hR hS hL
  rw [hp] at this
  exact this
def jm_bin (f : Int32 → Int32 → Int32) : jm_F := fun k ls st h => match st with
  | .inl (.int b) :: .inl (.int a) :: r => some (k, ls, .inl (.int (f a b)) :: r, h)
  | _ => none
theorem jm_n_iadd  (hd : decode (jm_by y) (jm_pc y k) = .ok (.iadd, 1)) (hp : jm_pc y (k + 1) = jm_pc y k + 1) : jm_SN y k (jm_bin (fun a b => a + b)) := by
  intro G p l e R s m args below meth c cells slots Q C ls st h k' ls' st' h' hf hW
  obtain ⟨hx, hb, hml, hown, hts, hE, hAm, hfr, hlo, hce, hsl, hZ⟩ := C
  unfold jm_bin at hf
  split at hf
  · cases hf
    intro ok okL H locs A hR hS hL
    refine lv_iadd hx hb hd ?_
    have := hW ⟨trivial, ok.2.2⟩ okL H locs A hR hS hL
    rw [hp] at this
    exact this
  · cases hf
theorem jm_n_isub  (hd : decode (jm_by y) (jm_pc y k) = .ok (.isub, 1)) (hp : jm_pc y (k + 1) = jm_pc y k + 1) : jm_SN y k (jm_bin (fun a b => a - b)) := by
  intro G p l e R s m args below meth c cells slots Q C ls st h k' ls' st' h' hf hW
  obtain ⟨hx, hb, hml, hown, hts, hE, hAm, hfr, hlo, hce, hsl, hZ⟩ := C
  unfold jm_bin at hf
  split at hf
  · cases hf
    intro ok okL H locs A hR hS hL
    refine lv_isub hx hb hd ?_
    have := hW ⟨trivial, ok.2.2⟩ okL H locs A hR hS hL
    rw [hp] at this
    exact this
  · cases hf
theorem jm_n_imul  (hd : decode (jm_by y) (jm_pc y k) = .ok (.imul, 1)) (hp : jm_pc y (k + 1) = jm_pc y k + 1) : jm_SN y k (jm_bin (fun a b => a * b)) := by
  intro G p l e R s m args below meth c cells slots Q C ls st h k' ls' st' h' hf hW
  obtain ⟨hx, hb, hml, hown, hts, hE, hAm, hfr, hlo, hce, hsl, hZ⟩ := C
  unfold jm_bin at hf
  split at hf
  · cases hf
    intro ok okL H locs A hR hS hL
    refine lv_imul hx hb hd ?_
    have := hW ⟨trivial, ok.2.2⟩ okL H locs A hR hS hL
    rw [hp] at this
    exact this
  · cases hf
theorem jm_n_ishl  (hd : decode (jm_by y) (jm_pc y k) = .ok (.ishl, 1)) (hp : jm_pc y (k + 1) = jm_pc y k + 1) : jm_SN y k (jm_bin (fun a b => a <<< (b &&& 31))) := by
  intro G p l e R s m args below meth c cells slots Q C ls st h k' ls' st' h' hf hW
  obtain ⟨hx, hb, hml, hown, hts, hE, hAm, hfr, hlo, hce, hsl, hZ⟩ := C
  unfold jm_bin at hf
  split at hf
  · cases hf
    intro ok okL H locs A hR hS hL
    refine lv_ishl hx hb hd ?_
    have := hW ⟨trivial, ok.2.2⟩ okL H locs A hR hS hL
    rw [hp] at this
    exact this
  · cases hf
theorem jm_n_ishr  (hd : decode (jm_by y) (jm_pc y k) = .ok (.ishr, 1)) (hp : jm_pc y (k + 1) = jm_pc y k + 1) : jm_SN y k (jm_bin (fun a b => a >>> (b &&& 31))) := by
  intro G p l e R s m args below meth c cells slots Q C ls st h k' ls' st' h' hf hW
  obtain ⟨hx, hb, hml, hown, hts, hE, hAm, hfr, hlo, hce, hsl, hZ⟩ := C
  unfold jm_bin at hf
  split at hf
  · cases hf
    intro ok okL H locs A hR hS hL
    refine lv_ishr hx hb hd ?_
    have := hW ⟨trivial, ok.2.2⟩ okL H locs A hR hS hL
    rw [hp] at this
    exact this
  · cases hf
theorem jm_n_iushr  (hd : decode (jm_by y) (jm_pc y k) = .ok (.iushr, 1)) (hp : jm_pc y (k + 1) = jm_pc y k + 1) : jm_SN y k (jm_bin (fun a b => (a.toUInt32 >>> (b.toUInt32 &&& Int32.toUInt32 31)).toInt32)) := by
  intro G p l e R s m args below meth c cells slots Q C ls st h k' ls' st' h' hf hW
  obtain ⟨hx, hb, hml, hown, hts, hE, hAm, hfr, hlo, hce, hsl, hZ⟩ := C
  unfold jm_bin at hf
  split at hf
  · cases hf
    intro ok okL H locs A hR hS hL
    refine lv_iushr hx hb hd rfl ?_
    have := hW ⟨trivial, ok.2.2⟩ okL H locs A hR hS hL
    rw [hp] at this
    exact this
  · cases hf
theorem jm_n_iand  (hd : decode (jm_by y) (jm_pc y k) = .ok (.iand, 1)) (hp : jm_pc y (k + 1) = jm_pc y k + 1) : jm_SN y k (jm_bin (fun a b => a &&& b)) := by
  intro G p l e R s m args below meth c cells slots Q C ls st h k' ls' st' h' hf hW
  obtain ⟨hx, hb, hml, hown, hts, hE, hAm, hfr, hlo, hce, hsl, hZ⟩ := C
  unfold jm_bin at hf
  split at hf
  · cases hf
    intro ok okL H locs A hR hS hL
    refine lv_iand hx hb hd ?_
    have := hW ⟨trivial, ok.2.2⟩ okL H locs A hR hS hL
    rw [hp] at this
    exact this
  · cases hf
theorem jm_n_ior  (hd : decode (jm_by y) (jm_pc y k) = .ok (.ior, 1)) (hp : jm_pc y (k + 1) = jm_pc y k + 1) : jm_SN y k (jm_bin (fun a b => a ||| b)) := by
  intro G p l e R s m args below meth c cells slots Q C ls st h k' ls' st' h' hf hW
  obtain ⟨hx, hb, hml, hown, hts, hE, hAm, hfr, hlo, hce, hsl, hZ⟩ := C
  unfold jm_bin at hf
  split at hf
  · cases hf
    intro ok okL H locs A hR hS hL
    refine lv_ior hx hb hd ?_
    have := hW ⟨trivial, ok.2.2⟩ okL H locs A hR hS hL
    rw [hp] at this
    exact this
  · cases hf
theorem jm_n_ixor  (hd : decode (jm_by y) (jm_pc y k) = .ok (.ixor, 1)) (hp : jm_pc y (k + 1) = jm_pc y k + 1) : jm_SN y k (jm_bin (fun a b => a ^^^ b)) := by
  intro G p l e R s m args below meth c cells slots Q C ls st h k' ls' st' h' hf hW
  obtain ⟨hx, hb, hml, hown, hts, hE, hAm, hfr, hlo, hce, hsl, hZ⟩ := C
  unfold jm_bin at hf
  split at hf
  · cases hf
    intro ok okL H locs A hR hS hL
    refine lv_ixor hx hb hd ?_
    have := hW ⟨trivial, ok.2.2⟩ okL H locs A hR hS hL
    rw [hp] at this
    exact this
  · cases hf
def jm_idiv : jm_F := fun k ls st h => match st with
  | .inl (.int b) :: .inl (.int a) :: r => if b = 0 then none else some (k, ls, .inl (.int (a / b)) :: r, h)
  | _ => none
theorem jm_n_idiv  (hd : decode (jm_by y) (jm_pc y k) = .ok (.idiv, 1)) (hp : jm_pc y (k + 1) = jm_pc y k + 1) : jm_SN y k (jm_idiv) := by
  intro G p l e R s m args below meth c cells slots Q C ls st h k' ls' st' h' hf hW
  obtain ⟨hx, hb, hml, hown, hts, hE, hAm, hfr, hlo, hce, hsl, hZ⟩ := C
  unfold jm_idiv at hf
  split at hf
  · split at hf
    · cases hf
    · cases hf
      intro ok okL H locs A hR hS hL
      refine lv_idiv hx hb hd (by assumption) ?_
      have := hW ⟨trivial, ok.2.2⟩ okL H locs A hR hS hL
      rw [hp] at this
      exact this
  · cases hf
def jm_irem : jm_F := fun k ls st h => match st with
  | .inl (.int b) :: .inl (.int a) :: r => if b = 0 then none else some (k, ls, .inl (.int (a - a / b * b)) :: r, h)
  | _ => none
theorem jm_n_irem  (hd : decode (jm_by y) (jm_pc y k) = .ok (.irem, 1)) (hp : jm_pc y (k + 1) = jm_pc y k + 1) : jm_SN y k (jm_irem) := by
  intro G p l e R s m args below meth c cells slots Q C ls st h k' ls' st' h' hf hW
  obtain ⟨hx, hb, hml, hown, hts, hE, hAm, hfr, hlo, hce, hsl, hZ⟩ := C
  unfold jm_irem at hf
  split at hf
  · split at hf
    · cases hf
    · cases hf
      intro ok okL H locs A hR hS hL
      refine lv_irem hx hb hd (by assumption) ?_
      have := hW ⟨trivial, ok.2.2⟩ okL H locs A hR hS hL
      rw [hp] at this
      exact this
  · cases hf
def jm_ineg : jm_F := fun k ls st h => match st with
  | .inl (.int a) :: r => some (k, ls, .inl (.int (-a)) :: r, h)
  | _ => none
theorem jm_n_ineg  (hd : decode (jm_by y) (jm_pc y k) = .ok (.ineg, 1)) (hp : jm_pc y (k + 1) = jm_pc y k + 1) : jm_SN y k (jm_ineg) := by
  intro G p l e R s m args below meth c cells slots Q C ls st h k' ls' st' h' hf hW
  obtain ⟨hx, hb, hml, hown, hts, hE, hAm, hfr, hlo, hce, hsl, hZ⟩ := C
  unfold jm_ineg at hf
  split at hf
  · cases hf
    intro ok okL H locs A hR hS hL
    refine lv_ineg hx hb hd ?_
    have := hW ⟨trivial, ok.2⟩ okL H locs A hR hS hL
    rw [hp] at this
    exact this
  · cases hf
def jm_i2b : jm_F := fun k ls st h => match st with
  | .inl (.int a) :: r => some (k, ls, .inl (.int a.toInt8.toInt32) :: r, h)
  | _ => none
theorem jm_n_i2b  (hd : decode (jm_by y) (jm_pc y k) = .ok (.i2b, 1)) (hp : jm_pc y (k + 1) = jm_pc y k + 1) : jm_SN y k (jm_i2b) := by
  intro G p l e R s m args below meth c cells slots Q C ls st h k' ls' st' h' hf hW
  obtain ⟨hx, hb, hml, hown, hts, hE, hAm, hfr, hlo, hce, hsl, hZ⟩ := C
  unfold jm_i2b at hf
  split at hf
  · cases hf
    intro ok okL H locs A hR hS hL
    refine lv_i2b hx hb hd rfl ?_
    have := hW ⟨trivial, ok.2⟩ okL H locs A hR hS hL
    rw [hp] at this
    exact this
  · cases hf
def jm_i2c : jm_F := fun k ls st h => match st with
  | .inl (.int a) :: r => some (k, ls, .inl (.int (a.toUInt32 % 65536).toInt32) :: r, h)
  | _ => none
theorem jm_n_i2c  (hd : decode (jm_by y) (jm_pc y k) = .ok (.i2c, 1)) (hp : jm_pc y (k + 1) = jm_pc y k + 1) : jm_SN y k (jm_i2c) := by
  intro G p l e R s m args below meth c cells slots Q C ls st h k' ls' st' h' hf hW
  obtain ⟨hx, hb, hml, hown, hts, hE, hAm, hfr, hlo, hce, hsl, hZ⟩ := C
  unfold jm_i2c at hf
  split at hf
  · cases hf
    intro ok okL H locs A hR hS hL
    refine lv_i2c hx hb hd rfl ?_
    have := hW ⟨trivial, ok.2⟩ okL H locs A hR hS hL
    rw [hp] at this
    exact this
  · cases hf
def jm_i2l : jm_F := fun k ls st h => match st with
  | .inl (.int a) :: r => some (k, ls, .inl (.long a.toInt64) :: r, h)
  | _ => none
theorem jm_n_i2l  (hd : decode (jm_by y) (jm_pc y k) = .ok (.i2l, 1)) (hp : jm_pc y (k + 1) = jm_pc y k + 1) : jm_SN y k (jm_i2l) := by
  intro G p l e R s m args below meth c cells slots Q C ls st h k' ls' st' h' hf hW
  obtain ⟨hx, hb, hml, hown, hts, hE, hAm, hfr, hlo, hce, hsl, hZ⟩ := C
  unfold jm_i2l at hf
  split at hf
  · cases hf
    intro ok okL H locs A hR hS hL
    refine lv_i2l hx hb hd rfl ?_
    have := hW ⟨trivial, ok.2⟩ okL H locs A hR hS hL
    rw [hp] at this
    exact this
  · cases hf
def jm_i2d : jm_F := fun k ls st h => match st with
  | .inl (.int a) :: r => some (k, ls, .inl (.double (FP.i2d a)) :: r, h)
  | _ => none
theorem jm_n_i2d  (hd : decode (jm_by y) (jm_pc y k) = .ok (.i2d, 1)) (hp : jm_pc y (k + 1) = jm_pc y k + 1) : jm_SN y k (jm_i2d) := by
  intro G p l e R s m args below meth c cells slots Q C ls st h k' ls' st' h' hf hW
  obtain ⟨hx, hb, hml, hown, hts, hE, hAm, hfr, hlo, hce, hsl, hZ⟩ := C
  unfold jm_i2d at hf
  split at hf
  · cases hf
    intro ok okL H locs A hR hS hL
    refine lv_i2d hx hb hd ?_
    have := hW ⟨trivial, ok.2⟩ okL H locs A hR hS hL
    rw [hp] at this
    exact this
  · cases hf
def jm_l2i : jm_F := fun k ls st h => match st with
  | .inl (.long a) :: r => some (k, ls, .inl (.int a.toInt32) :: r, h)
  | _ => none
theorem jm_n_l2i  (hd : decode (jm_by y) (jm_pc y k) = .ok (.l2i, 1)) (hp : jm_pc y (k + 1) = jm_pc y k + 1) : jm_SN y k (jm_l2i) := by
  intro G p l e R s m args below meth c cells slots Q C ls st h k' ls' st' h' hf hW
  obtain ⟨hx, hb, hml, hown, hts, hE, hAm, hfr, hlo, hce, hsl, hZ⟩ := C
  unfold jm_l2i at hf
  split at hf
  · cases hf
    intro ok okL H locs A hR hS hL
    refine lv_l2i hx hb hd rfl ?_
    have := hW ⟨trivial, ok.2⟩ okL H locs A hR hS hL
    rw [hp] at this
    exact this
  · cases hf
def jm_l2d : jm_F := fun k ls st h => match st with
  | .inl (.long a) :: r => some (k, ls, .inl (.double (FP.l2d a)) :: r, h)
  | _ => none
theorem jm_n_l2d  (hd : decode (jm_by y) (jm_pc y k) = .ok (.l2d, 1)) (hp : jm_pc y (k + 1) = jm_pc y k + 1) : jm_SN y k (jm_l2d) := by
  intro G p l e R s m args below meth c cells slots Q C ls st h k' ls' st' h' hf hW
  obtain ⟨hx, hb, hml, hown, hts, hE, hAm, hfr, hlo, hce, hsl, hZ⟩ := C
  unfold jm_l2d at hf
  split at hf
  · cases hf
    intro ok okL H locs A hR hS hL
    refine lv_l2d hx hb hd ?_
    have := hW ⟨trivial, ok.2⟩ okL H locs A hR hS hL
    rw [hp] at this
    exact this
  · cases hf
def jm_d2l : jm_F := fun k ls st h => match st with
  | .inl (.double a) :: r => some (k, ls, .inl (.long (FP.d2l a)) :: r, h)
  | _ => none
theorem jm_n_d2l  (hd : decode (jm_by y) (jm_pc y k) = .ok (.d2l, 1)) (hp : jm_pc y (k + 1) = jm_pc y k + 1) : jm_SN y k (jm_d2l) := by
  intro G p l e R s m args below meth c cells slots Q C ls st h k' ls' st' h' hf hW
  obtain ⟨hx, hb, hml, hown, hts, hE, hAm, hfr, hlo, hce, hsl, hZ⟩ := C
  unfold jm_d2l at hf
  split at hf
  · cases hf
    intro ok okL H locs A hR hS hL
    refine lv_d2l hx hb hd ?_
    have := hW ⟨trivial, ok.2⟩ okL H locs A hR hS hL
    rw [hp] at this
    exact this
  · cases hf
def jm_ladd : jm_F := fun k ls st h => match st with
  | .inl (.long b) :: .inl (.long a) :: r => some (k, ls, .inl (.long (a + b)) :: r, h)
  | _ => none
theorem jm_n_ladd  (hd : decode (jm_by y) (jm_pc y k) = .ok (.ladd, 1)) (hp : jm_pc y (k + 1) = jm_pc y k + 1) : jm_SN y k (jm_ladd) := by
  intro G p l e R s m args below meth c cells slots Q C ls st h k' ls' st' h' hf hW
  obtain ⟨hx, hb, hml, hown, hts, hE, hAm, hfr, hlo, hce, hsl, hZ⟩ := C
  unfold jm_ladd at hf
  split at hf
  · cases hf
    intro ok okL H locs A hR hS hL
    refine lv_ladd hx hb hd ?_
    have := hW ⟨trivial, ok.2.2⟩ okL H locs A hR hS hL
    rw [hp] at this
    exact this
  · cases hf
def jm_lsub : jm_F := fun k ls st h => match st with
  | .inl (.long b) :: .inl (.long a) :: r => some (k, ls, .inl (.long (a - b)) :: r, h)
  | _ => none
theorem jm_n_lsub  (hd : decode (jm_by y) (jm_pc y k) = .ok (.lsub, 1)) (hp : jm_pc y (k + 1) = jm_pc y k + 1) : jm_SN y k (jm_lsub) := by
  intro G p l e R s m args below meth c cells slots Q C ls st h k' ls' st' h' hf hW
  obtain ⟨hx, hb, hml, hown, hts, hE, hAm, hfr, hlo, hce, hsl, hZ⟩ := C
  unfold jm_lsub at hf
  split at hf
  · cases hf
    intro ok okL H locs A hR hS hL
    refine lv_lsub hx hb hd ?_
    have := hW ⟨trivial, ok.2.2⟩ okL H locs A hR hS hL
    rw [hp] at this
    exact this
  · cases hf
def jm_lshl : jm_F := fun k ls st h => match st with
  | .inl (.int b) :: .inl (.long a) :: r => some (k, ls, .inl (.long (a <<< (b.toInt64 &&& 63))) :: r, h)
  | _ => none
theorem jm_n_lshl  (hd : decode (jm_by y) (jm_pc y k) = .ok (.lshl, 1)) (hp : jm_pc y (k + 1) = jm_pc y k + 1) : jm_SN y k (jm_lshl) := by
  intro G p l e R s m args below meth c cells slots Q C ls st h k' ls' st' h' hf hW
  obtain ⟨hx, hb, hml, hown, hts, hE, hAm, hfr, hlo, hce, hsl, hZ⟩ := C
  unfold jm_lshl at hf
  split at hf
  · cases hf
    intro ok okL H locs A hR hS hL
    refine lv_lshl hx hb hd rfl ?_
    have := hW ⟨trivial, ok.2.2⟩ okL H locs A hR hS hL
    rw [hp] at this
    exact this
  · cases hf
def jm_dbin (f : UInt64 → UInt64 → UInt64) : jm_F := fun k ls st h => match st with
  | .inl (.double b) :: .inl (.double a) :: r => if f a b &&& 0x7fffffffffffffff ≤ 0x7ff0000000000000 then some (k, ls, .inl (.double (f a b)) :: r, h) else none
  | _ => none
theorem jm_n_dadd  (hd : decode (jm_by y) (jm_pc y k) = .ok (.dadd, 1)) (hp : jm_pc y (k + 1) = jm_pc y k + 1) : jm_SN y k (jm_dbin FP.dadd) := by
  intro G p l e R s m args below meth c cells slots Q C ls st h k' ls' st' h' hf hW
  obtain ⟨hx, hb, hml, hown, hts, hE, hAm, hfr, hlo, hce, hsl, hZ⟩ := C
  unfold jm_dbin at hf
  split at hf
  · split at hf
    · cases hf
      intro ok okL H locs A hR hS hL
      refine lv_dadd hx hb hd (by assumption) ?_
      have := hW ⟨trivial, ok.2.2⟩ okL H locs A hR hS hL
      rw [hp] at this
      exact this
    · cases hf
  · cases hf
theorem jm_n_dsub  (hd : decode (jm_by y) (jm_pc y k) = .ok (.dsub, 1)) (hp : jm_pc y (k + 1) = jm_pc y k + 1) : jm_SN y k (jm_dbin FP.dsub) := by
  intro G p l e R s m args below meth c cells slots Q C ls st h k' ls' st' h' hf hW
  obtain ⟨hx, hb, hml, hown, hts, hE, hAm, hfr, hlo, hce, hsl, hZ⟩ := C
  unfold jm_dbin at hf
  split at hf
  · split at hf
    · cases hf
      intro ok okL H locs A hR hS hL
      refine lv_dsub hx hb hd (by assumption) ?_
      have := hW ⟨trivial, ok.2.2⟩ okL H locs A hR hS hL
      rw [hp] at this
      exact this
    · cases hf
  · cases hf
theorem jm_n_dmul  (hd : decode (jm_by y) (jm_pc y k) = .ok (.dmul, 1)) (hp : jm_pc y (k + 1) = jm_pc y k + 1) : jm_SN y k (jm_dbin FP.dmul) := by
  intro G p l e R s m args below meth c cells slots Q C ls st h k' ls' st' h' hf hW
  obtain ⟨hx, hb, hml, hown, hts, hE, hAm, hfr, hlo, hce, hsl, hZ⟩ := C
  unfold jm_dbin at hf
  split at hf
  · split at hf
    · cases hf
      intro ok okL H locs A hR hS hL
      refine lv_dmul hx hb hd (by assumption) ?_
      have := hW ⟨trivial, ok.2.2⟩ okL H locs A hR hS hL
      rw [hp] at this
      exact this
    · cases hf
  · cases hf
theorem jm_n_ddiv  (hd : decode (jm_by y) (jm_pc y k) = .ok (.ddiv, 1)) (hp : jm_pc y (k + 1) = jm_pc y k + 1) : jm_SN y k (jm_dbin FP.ddiv) := by
  intro G p l e R s m args below meth c cells slots Q C ls st h k' ls' st' h' hf hW
  obtain ⟨hx, hb, hml, hown, hts, hE, hAm, hfr, hlo, hce, hsl, hZ⟩ := C
  unfold jm_dbin at hf
  split at hf
  · split at hf
    · cases hf
      intro ok okL H locs A hR hS hL
      refine lv_ddiv hx hb hd (by assumption) ?_
      have := hW ⟨trivial, ok.2.2⟩ okL H locs A hR hS hL
      rw [hp] at this
      exact this
    · cases hf
  · cases hf
theorem jm_n_drem  (hd : decode (jm_by y) (jm_pc y k) = .ok (.drem, 1)) (hp : jm_pc y (k + 1) = jm_pc y k + 1) : jm_SN y k (jm_dbin FP.drem) := by
  intro G p l e R s m args below meth c cells slots Q C ls st h k' ls' st' h' hf hW
  obtain ⟨hx, hb, hml, hown, hts, hE, hAm, hfr, hlo, hce, hsl, hZ⟩ := C
  unfold jm_dbin at hf
  split at hf
  · split at hf
    · cases hf
      intro ok okL H locs A hR hS hL
      refine lv_drem hx hb hd (by assumption) ?_
      have := hW ⟨trivial, ok.2.2⟩ okL H locs A hR hS hL
      rw [hp] at this
      exact this
    · cases hf
  · cases hf
def jm_d2f : jm_F := fun k ls st h => match st with
  | .inl (.double a) :: r => if FP.d2f a &&& 0x7fffffff ≤ 0x7f800000 then some (k, ls, .inl (.float (FP.d2f a)) :: r, h) else none
  | _ => none
theorem jm_n_d2f  (hd : decode (jm_by y) (jm_pc y k) = .ok (.d2f, 1)) (hp : jm_pc y (k + 1) = jm_pc y k + 1) : jm_SN y k (jm_d2f) := by
  intro G p l e R s m args below meth c cells slots Q C ls st h k' ls' st' h' hf hW
  obtain ⟨hx, hb, hml, hown, hts, hE, hAm, hfr, hlo, hce, hsl, hZ⟩ := C
  unfold jm_d2f at hf
  split at hf
  · split at hf
    · cases hf
      intro ok okL H locs A hR hS hL
      refine lv_d2f hx hb hd (by assumption) ?_
      have := hW ⟨trivial, ok.2⟩ okL H locs A hR hS hL
      rw [hp] at this
      exact this
    · cases hf
  · cases hf
def jm_f2d : jm_F := fun k ls st h => match st with
  | .inl (.float a) :: r => if FP.f2d a &&& 0x7fffffffffffffff ≤ 0x7ff0000000000000 then some (k, ls, .inl (.double (FP.f2d a)) :: r, h) else none
  | _ => none
theorem jm_n_f2d  (hd : decode (jm_by y) (jm_pc y k) = .ok (.f2d, 1)) (hp : jm_pc y (k + 1) = jm_pc y k + 1) : jm_SN y k (jm_f2d) := by
  intro G p l e R s m args below meth c cells slots Q C ls st h k' ls' st' h' hf hW
  obtain ⟨hx, hb, hml, hown, hts, hE, hAm, hfr, hlo, hce, hsl, hZ⟩ := C
  unfold jm_f2d at hf
  split at hf
  · split at hf
    · cases hf
      intro ok okL H locs A hR hS hL
      refine lv_f2d hx hb hd (by assumption) ?_
      have := hW ⟨trivial, ok.2⟩ okL H locs A hR hS hL
      rw [hp] at this
      exact this
    · cases hf
  · cases hf
def jm_dcmp (op : CmpOp) : jm_F := fun k ls st h => match st with
  | .inl (.double b) :: .inl (.double a) :: r => some (k, ls, .inl (.int (Op.cmpValue (FP.dcmp a b) op)) :: r, h)
  | _ => none
theorem jm_n_dcmp {op : CmpOp} (hd : decode (jm_by y) (jm_pc y k) = .ok (.dcmp op, 1)) (hp : jm_pc y (k + 1) = jm_pc y k + 1) : jm_SN y k (jm_dcmp op) := by
  intro G p l e R s m args below meth c cells slots Q C ls st h k' ls' st' h' hf hW
  obtain ⟨hx, hb, hml, hown, hts, hE, hAm, hfr, hlo, hce, hsl, hZ⟩ := C
  unfold jm_dcmp at hf
  split at hf
  · cases hf
    intro ok okL H locs A hR hS hL
    refine lv_dcmp hx hb hd ?_
    have := hW ⟨trivial, ok.2.2⟩ okL H locs A hR hS hL
    rw [hp] at this
    exact this
  · cases hf
def jm_goto (t : Nat) : jm_F := fun _ ls st h => some (t, ls, st, h)
theorem jm_n_goto {t : Nat} {off : Int} (ht : (jm_pc y k : Int) + off = (jm_pc y t : Int)) (hd : decode (jm_by y) (jm_pc y k) = .ok (.goto off, 3)) : jm_SN y k (jm_goto t) := by
  intro G p l e R s m args below meth c cells slots Q C ls st h k' ls' st' h' hf hW
  obtain ⟨hx, hb, hml, hown, hts, hE, hAm, hfr, hlo, hce, hsl, hZ⟩ := C
  cases hf
  intro ok okL H locs A hR hS hL
  exact lv_goto hx hb hd ht (hW ok okL H locs A hR hS hL)
def jm_ifeq (t : Nat) : jm_F := fun k ls st h => match st with
  | .inl (.int a) :: r => some (if a = 0 then t else k, ls, r, h)
  | _ => none
theorem jm_n_ifeq {t : Nat} {off : Int} (ht : (jm_pc y k : Int) + off = (jm_pc y t : Int)) (hd : decode (jm_by y) (jm_pc y k) = .ok (.ifCond .eq off, 3)) (hp : jm_pc y (k + 1) = jm_pc y k + 3) : jm_SN y k (jm_ifeq t) := by
  intro G p l e R s m args below meth c cells slots Q C ls st h k' ls' st' h' hf hW
  obtain ⟨hx, hb, hml, hown, hts, hE, hAm, hfr, hlo, hce, hsl, hZ⟩ := C
  unfold jm_ifeq at hf
  split at hf
  · cases hf
    intro ok okL H locs A hR hS hL
    have := hW ok.2 okL H locs A hR hS hL
    refine lv_if_eq (tgt := jm_pc y t) hx hb hd ht (fun hc => ?_) (fun hc => ?_)
    · rw [if_pos hc] at this
      exact this
    · rw [if_neg hc, hp] at this
      exact this
  · cases hf
def jm_ifne (t : Nat) : jm_F := fun k ls st h => match st with
  | .inl (.int a) :: r => some (if a = 0 then k else t, ls, r, h)
  | _ => none
theorem jm_n_ifne {t : Nat} {off : Int} (ht : (jm_pc y k : Int) + off = (jm_pc y t : Int)) (hd : decode (jm_by y) (jm_pc y k) = .ok (.ifCond .ne off, 3)) (hp : jm_pc y (k + 1) = jm_pc y k + 3) : jm_SN y k (jm_ifne t) := by
  intro G p l e R s m args below meth c cells slots Q C ls st h k' ls' st' h' hf hW
  obtain ⟨hx, hb, hml, hown, hts, hE, hAm, hfr, hlo, hce, hsl, hZ⟩ := C
  unfold jm_ifne at hf
  split at hf
  · cases hf
    intro ok okL H locs A hR hS hL
    have := hW ok.2 okL H locs A hR hS hL
    refine lv_if_ne (tgt := jm_pc y t) hx hb hd ht (fun hc => ?_) (fun hc => ?_)
    · rw [if_neg hc] at this
      exact this
    · rw [if_pos hc, hp] at this
      exact this
  · cases hf
def jm_iflt (t : Nat) : jm_F := fun k ls st h => match st with
  | .inl (.int a) :: r => some (if a < 0 then t else k, ls, r, h)
  | _ => none
theorem jm_n_iflt {t : Nat} {off : Int} (ht : (jm_pc y k : Int) + off = (jm_pc y t : Int)) (hd : decode (jm_by y) (jm_pc y k) = .ok (.ifCond .lt off, 3)) (hp : jm_pc y (k + 1) = jm_pc y k + 3) : jm_SN y k (jm_iflt t) := by
  intro G p l e R s m args below meth c cells slots Q C ls st h k' ls' st' h' hf hW
  obtain ⟨hx, hb, hml, hown, hts, hE, hAm, hfr, hlo, hce, hsl, hZ⟩ := C
  unfold jm_iflt at hf
  split at hf
  · cases hf
    intro ok okL H locs A hR hS hL
    have := hW ok.2 okL H locs A hR hS hL
    refine lv_if_lt (tgt := jm_pc y t) hx hb hd ht (fun hc => ?_) (fun hc => ?_)
    · rw [if_pos hc] at this
      exact this
    · rw [if_neg hc, hp] at this
      exact this
  · cases hf
def jm_ifge (t : Nat) : jm_F := fun k ls st h => match st with
  | .inl (.int a) :: r => some (if 0 ≤ a then t else k, ls, r, h)
  | _ => none
theorem jm_n_ifge {t : Nat} {off : Int} (ht : (jm_pc y k : Int) + off = (jm_pc y t : Int)) (hd : decode (jm_by y) (jm_pc y k) = .ok (.ifCond .ge off, 3)) (hp : jm_pc y (k + 1) = jm_pc y k + 3) : jm_SN y k (jm_ifge t) := by
  intro G p l e R s m args below meth c cells slots Q C ls st h k' ls' st' h' hf hW
  obtain ⟨hx, hb, hml, hown, hts, hE, hAm, hfr, hlo, hce, hsl, hZ⟩ := C
  unfold jm_ifge at hf
  split at hf
  · cases hf
    intro ok okL H locs A hR hS hL
    have := hW ok.2 okL H locs A hR hS hL
    refine lv_if_ge (tgt := jm_pc y t) hx hb hd ht (fun hc => ?_) (fun hc => ?_)
    · rw [if_pos hc] at this
      exact this
    · rw [if_neg hc, hp] at this
      exact this
  · cases hf
def jm_ifgt (t : Nat) : jm_F := fun k ls st h => match st with
  | .inl (.int a) :: r => some (if 0 < a then t else k, ls, r, h)
  | _ => none
theorem jm_n_ifgt {t : Nat} {off : Int} (ht : (jm_pc y k : Int) + off = (jm_pc y t : Int)) (hd : decode (jm_by y) (jm_pc y k) = .ok (.ifCond .gt off, 3)) (hp : jm_pc y (k + 1) = jm_pc y k + 3) : jm_SN y k (jm_ifgt t) := by
  intro G p l e R s m args below meth c cells slots Q C ls st h k' ls' st' h' hf hW
  obtain ⟨hx, hb, hml, hown, hts, hE, hAm, hfr, hlo, hce, hsl, hZ⟩ := C
  unfold jm_ifgt at hf
  split at hf
  · cases hf
    intro ok okL H locs A hR hS hL
    have := hW ok.2 okL H locs A hR hS hL
    refine lv_if_gt (tgt := jm_pc y t) hx hb hd ht (fun hc => ?_) (fun hc => ?_)
    · rw [if_pos hc] at this
      exact this
    · rw [if_neg hc, hp] at this
      exact this
  · cases hf
def jm_ifle (t : Nat) : jm_F := fun k ls st h => match st with
  | .inl (.int a) :: r => some (if a ≤ 0 then t else k, ls, r, h)
  | _ => none
theorem jm_n_ifle {t : Nat} {off : Int} (ht : (jm_pc y k : Int) + off = (jm_pc y t : Int)) (hd : decode (jm_by y) (jm_pc y k) = .ok (.ifCond .le off, 3)) (hp : jm_pc y (k + 1) = jm_pc y k + 3) : jm_SN y k (jm_ifle t) := by
  intro G p l e R s m args below meth c cells slots Q C ls st h k' ls' st' h' hf hW
  obtain ⟨hx, hb, hml, hown, hts, hE, hAm, hfr, hlo, hce, hsl, hZ⟩ := C
  unfold jm_ifle at hf
  split at hf
  · cases hf
    intro ok okL H locs A hR hS hL
    have := hW ok.2 okL H locs A hR hS hL
    refine lv_if_le (tgt := jm_pc y t) hx hb hd ht (fun hc => ?_) (fun hc => ?_)
    · rw [if_pos hc] at this
      exact this
    · rw [if_neg hc, hp] at this
      exact this
  · cases hf
def jm_iceq (t : Nat) : jm_F := fun k ls st h => match st with
  | .inl (.int b) :: .inl (.int a) :: r => some (if a = b then t else k, ls, r, h)
  | _ => none
theorem jm_n_iceq {t : Nat} {off : Int} (ht : (jm_pc y k : Int) + off = (jm_pc y t : Int)) (hd : decode (jm_by y) (jm_pc y k) = .ok (.if_icmp .eq off, 3)) (hp : jm_pc y (k + 1) = jm_pc y k + 3) : jm_SN y k (jm_iceq t) := by
  intro G p l e R s m args below meth c cells slots Q C ls st h k' ls' st' h' hf hW
  obtain ⟨hx, hb, hml, hown, hts, hE, hAm, hfr, hlo, hce, hsl, hZ⟩ := C
  unfold jm_iceq at hf
  split at hf
  · cases hf
    intro ok okL H locs A hR hS hL
    have := hW ok.2.2 okL H locs A hR hS hL
    refine lv_icmp_eq (tgt := jm_pc y t) hx hb hd ht (fun hc => ?_) (fun hc => ?_)
    · rw [if_pos hc] at this
      exact this
    · rw [if_neg hc, hp] at this
      exact this
  · cases hf
def jm_icne (t : Nat) : jm_F := fun k ls st h => match st with
  | .inl (.int b) :: .inl (.int a) :: r => some (if a = b then k else t, ls, r, h)
  | _ => none
theorem jm_n_icne {t : Nat} {off : Int} (ht : (jm_pc y k : Int) + off = (jm_pc y t : Int)) (hd : decode (jm_by y) (jm_pc y k) = .ok (.if_icmp .ne off, 3)) (hp : jm_pc y (k + 1) = jm_pc y k + 3) : jm_SN y k (jm_icne t) := by
  intro G p l e R s m args below meth c cells slots Q C ls st h k' ls' st' h' hf hW
  obtain ⟨hx, hb, hml, hown, hts, hE, hAm, hfr, hlo, hce, hsl, hZ⟩ := C
  unfold jm_icne at hf
  split at hf
  · cases hf
    intro ok okL H locs A hR hS hL
    have := hW ok.2.2 okL H locs A hR hS hL
    refine lv_icmp_ne (tgt := jm_pc y t) hx hb hd ht (fun hc => ?_) (fun hc => ?_)
    · rw [if_neg hc] at this
      exact this
    · rw [if_pos hc, hp] at this
      exact this
  · cases hf
def jm_iclt (t : Nat) : jm_F := fun k ls st h => match st with
  | .inl (.int b) :: .inl (.int a) :: r => some (if a < b then t else k, ls, r, h)
  | _ => none
theorem jm_n_iclt {t : Nat} {off : Int} (ht : (jm_pc y k : Int) + off = (jm_pc y t : Int)) (hd : decode (jm_by y) (jm_pc y k) = .ok (.if_icmp .lt off, 3)) (hp : jm_pc y (k + 1) = jm_pc y k + 3) : jm_SN y k (jm_iclt t) := by
  intro G p l e R s m args below meth c cells slots Q C ls st h k' ls' st' h' hf hW
  obtain ⟨hx, hb, hml, hown, hts, hE, hAm, hfr, hlo, hce, hsl, hZ⟩ := C
  unfold jm_iclt at hf
  split at hf
  · cases hf
    intro ok okL H locs A hR hS hL
    have := hW ok.2.2 okL H locs A hR hS hL
    refine lv_icmp_lt (tgt := jm_pc y t) hx hb hd ht (fun hc => ?_) (fun hc => ?_)
    · rw [if_pos hc] at this
      exact this
    · rw [if_neg hc, hp] at this
      exact this
  · cases hf
def jm_icge (t : Nat) : jm_F := fun k ls st h => match st with
  | .inl (.int b) :: .inl (.int a) :: r => some (if b ≤ a then t else k, ls, r, h)
  | _ => none
theorem jm_n_icge {t : Nat} {off : Int} (ht : (jm_pc y k : Int) + off = (jm_pc y t : Int)) (hd : decode (jm_by y) (jm_pc y k) = .ok (.if_icmp .ge off, 3)) (hp : jm_pc y (k + 1) = jm_pc y k + 3) : jm_SN y k (jm_icge t) := by
  intro G p l e R s m args below meth c cells slots Q C ls st h k' ls' st' h' hf hW
  obtain ⟨hx, hb, hml, hown, hts, hE, hAm, hfr, hlo, hce, hsl, hZ⟩ := C
  unfold jm_icge at hf
  split at hf
  · cases hf
    intro ok okL H locs A hR hS hL
    have := hW ok.2.2 okL H locs A hR hS hL
    refine lv_icmp_ge (tgt := jm_pc y t) hx hb hd ht (fun hc => ?_) (fun hc => ?_)
    · rw [if_pos hc] at this
      exact this
    · rw [if_neg hc, hp] at this
      exact this
  · cases hf
def jm_icgt (t : Nat) : jm_F := fun k ls st h => match st with
  | .inl (.int b) :: .inl (.int a) :: r => some (if b < a then t else k, ls, r, h)
  | _ => none
theorem jm_n_icgt {t : Nat} {off : Int} (ht : (jm_pc y k : Int) + off = (jm_pc y t : Int)) (hd : decode (jm_by y) (jm_pc y k) = .ok (.if_icmp .gt off, 3)) (hp : jm_pc y (k + 1) = jm_pc y k + 3) : jm_SN y k (jm_icgt t) := by
  intro G p l e R s m args below meth c cells slots Q C ls st h k' ls' st' h' hf hW
  obtain ⟨hx, hb, hml, hown, hts, hE, hAm, hfr, hlo, hce, hsl, hZ⟩ := C
  unfold jm_icgt at hf
  split at hf
  · cases hf
    intro ok okL H locs A hR hS hL
    have := hW ok.2.2 okL H locs A hR hS hL
    refine lv_icmp_gt (tgt := jm_pc y t) hx hb hd ht (fun hc => ?_) (fun hc => ?_)
    · rw [if_pos hc] at this
      exact this
    · rw [if_neg hc, hp] at this
      exact this
  · cases hf
def jm_icle (t : Nat) : jm_F := fun k ls st h => match st with
  | .inl (.int b) :: .inl (.int a) :: r => some (if a ≤ b then t else k, ls, r, h)
  | _ => none
theorem jm_n_icle {t : Nat} {off : Int} (ht : (jm_pc y k : Int) + off = (jm_pc y t : Int)) (hd : decode (jm_by y) (jm_pc y k) = .ok (.if_icmp .le off, 3)) (hp : jm_pc y (k + 1) = jm_pc y k + 3) : jm_SN y k (jm_icle t) := by
  intro G p l e R s m args below meth c cells slots Q C ls st h k' ls' st' h' hf hW
  obtain ⟨hx, hb, hml, hown, hts, hE, hAm, hfr, hlo, hce, hsl, hZ⟩ := C
  unfold jm_icle at hf
  split at hf
  · cases hf
    intro ok okL H locs A hR hS hL
    have := hW ok.2.2 okL H locs A hR hS hL
    refine lv_icmp_le (tgt := jm_pc y t) hx hb hd ht (fun hc => ?_) (fun hc => ?_)
    · rw [if_pos hc] at this
      exact this
    · rw [if_neg hc, hp] at this
      exact this
  · cases hf
/-- a switch over lo, lo + 1 ..: where each goes, and the rest -/
def jm_tsw (lo : Int) (ts : List Nat) (t : Nat) : jm_F := fun _ ls st h => match st with
  | .inl (.int a) :: r => some (if a.toInt < lo ∨ lo + ts.length ≤ a.toInt then t else ts.getD (a.toInt - lo).toNat 0, ls, r, h)
  | _ => none
theorem jm_n_tsw {lo hi dflt : Int} {offs : Array Int} {len : Nat} {ts : List Nat} {t : Nat} (hlen : lo + ts.length = hi + 1) (ht : (jm_pc y k : Int) + dflt = (jm_pc y t : Int)) (hts0 : offs.toList = ts.map (fun t => (jm_pc y t : Int) - (jm_pc y k : Int))) (hd : decode (jm_by y) (jm_pc y k) = .ok (.tableswitch dflt lo hi offs, len)) : jm_SN y k (jm_tsw lo ts t) := by
  intro G p l e R s m args below meth c cells slots Q C ls st h k' ls' st' h' hf hW
  obtain ⟨hx, hb, hml, hown, hts, hE, hAm, hfr, hlo, hce, hsl, hZ⟩ := C
  unfold jm_tsw at hf
  split at hf
  · rename_i a r
    cases hf
    intro ok okL H locs A hR hS hL
    have := hW ok.2 okL H locs A hR hS hL
    by_cases hc : a.toInt < lo ∨ lo + ts.length ≤ a.toInt
    · rw [if_pos hc] at this
      exact lv_tableOut hx hb hd (by omega) ht this
    · rw [if_neg hc] at this
      have hn : (a.toInt - lo).toNat < ts.length := by omega
      refine lv_tableIn (off := (jm_pc y (ts.getD (a.toInt - lo).toNat 0) : Int) - (jm_pc y k : Int)) hx hb hd (by omega) (by omega) ?_ (by omega) this
      rw [← Array.getElem?_toList, hts0, List.getElem?_map, List.getD_eq_getElem?_getD, List.getElem?_eq_getElem hn]
      rfl
  · cases hf
def jm_lsf (x : Int) (t : Nat) : List (Int × Nat) → Nat
  | [] => t
  | q :: r => if q.1 = x then q.2 else jm_lsf x t r
def jm_lsw (ps : List (Int × Nat)) (t : Nat) : jm_F := fun _ ls st h => match st with
  | .inl (.int a) :: r => some (jm_lsf a.toInt t ps, ls, r, h)
  | _ => none
def jm_dup : jm_F := fun k ls st h => match st with
  | v :: r => if jm_ct v = 1 then some (k, ls, v :: v :: r, h) else none
  | _ => none
theorem jm_n_dup  (hd : decode (jm_by y) (jm_pc y k) = .ok (.dup, 1)) (hp : jm_pc y (k + 1) = jm_pc y k + 1) : jm_SN y k (jm_dup) := by
  intro G p l e R s m args below meth c cells slots Q C ls st h k' ls' st' h' hf hW
  obtain ⟨hx, hb, hml, hown, hts, hE, hAm, hfr, hlo, hce, hsl, hZ⟩ := C
  unfold jm_dup at hf
  split at hf
  · split at hf
    · cases hf
      intro ok okL H locs A hR hS hL
      refine lv_dup hx hb hd (by rw [jm_sh_cat]; assumption) ?_
      have := hW ⟨ok.1, ok.1, ok.2⟩ okL H locs A hR hS hL
      rw [hp] at this
      exact this
    · cases hf
  · cases hf
def jm_dup2 : jm_F := fun k ls st h => match st with
  | v :: w :: r => if jm_ct v = 1 ∧ jm_ct w = 1 then some (k, ls, v :: w :: v :: w :: r, h) else none
  | _ => none
theorem jm_n_dup2  (hd : decode (jm_by y) (jm_pc y k) = .ok (.dup2, 1)) (hp : jm_pc y (k + 1) = jm_pc y k + 1) : jm_SN y k (jm_dup2) := by
  intro G p l e R s m args below meth c cells slots Q C ls st h k' ls' st' h' hf hW
  obtain ⟨hx, hb, hml, hown, hts, hE, hAm, hfr, hlo, hce, hsl, hZ⟩ := C
  unfold jm_dup2 at hf
  split at hf
  · split at hf
    · rename_i hc
      cases hf
      intro ok okL H locs A hR hS hL
      refine lv_dup2_11 hx hb hd (by rw [jm_sh_cat]; exact hc.1) (by rw [jm_sh_cat]; exact hc.2) ?_
      have := hW ⟨ok.1, ok.2.1, ok.1, ok.2.1, ok.2.2⟩ okL H locs A hR hS hL
      rw [hp] at this
      exact this
    · cases hf
  · cases hf
def jm_pop : jm_F := fun k ls st h => match st with
  | v :: r => if jm_ct v = 1 then some (k, ls, r, h) else none
  | _ => none
theorem jm_n_pop  (hd : decode (jm_by y) (jm_pc y k) = .ok (.pop, 1)) (hp : jm_pc y (k + 1) = jm_pc y k + 1) : jm_SN y k (jm_pop) := by
  intro G p l e R s m args below meth c cells slots Q C ls st h k' ls' st' h' hf hW
  obtain ⟨hx, hb, hml, hown, hts, hE, hAm, hfr, hlo, hce, hsl, hZ⟩ := C
  unfold jm_pop at hf
  split at hf
  · split at hf
    · cases hf
      intro ok okL H locs A hR hS hL
      refine lv_pop hx hb hd (by rw [jm_sh_cat]; assumption) ?_
      have := hW ok.2 okL H locs A hR hS hL
      rw [hp] at this
      exact this
    · cases hf
  · cases hf
def jm_max : jm_F := fun k ls st h => match st with
  | .inl (.int b) :: .inl (.int a) :: r => if (r.map jm_ct).sum ≤ 8 then some (k, ls, .inl (.int (if a < b then b else a)) :: r, h) else none
  | _ => none
theorem jm_n_max {n : Nat} (hf1 : 1 ≤ jm_fr y) (hl1 : 21 ≤ jm_lo y) (hl : Cond.methodLink (jm_nm y).cls n Lib.Math.max.name ∈ jm_T) (hs1 : Cond.static Lib.Math.max.name ∈ jm_T) (hi : Cond.initialized "java/lang/Math" ∈ jm_T) (hc0 : Cond.code Lib.Math.max.name Lib.Math.max.code 2 (some .int) ∈ jm_T) (hd : decode (jm_by y) (jm_pc y k) = .ok (.invokestatic n, 3)) (hp : jm_pc y (k + 1) = jm_pc y k + 3) : jm_SN y k (jm_max) := by
  intro G p l e R s m args below meth c cells slots Q C ls st h k' ls' st' h' hf hW
  obtain ⟨hx, hb, hml, hown, hts, hE, hAm, hfr, hlo, hce, hsl, hZ⟩ := C
  unfold jm_max at hf
  split at hf
  · split at hf
    · rename_i hc
      cases hf
      intro ok okL H locs A hR hS hL
      refine va_mmax hx hb (by rw [hml, hL.2.1]) hown (hts _ hl) (hts _ hs1) (hts _ hi) (hts _ hc0) (by omega) (by rw [List.map_map, show (fun v : Value => v.category) ∘ jm_sh G = jm_ct from funext (jm_sh_cat G)]; omega) hce hsl hd ?_
      have := hW ⟨trivial, ok.2.2⟩ okL H locs A hR hS hL
      rw [hp] at this
      exact this
    · cases hf
  · cases hf
def jm_min : jm_F := fun k ls st h => match st with
  | .inl (.int b) :: .inl (.int a) :: r => if (r.map jm_ct).sum ≤ 8 then some (k, ls, .inl (.int (if b < a then b else a)) :: r, h) else none
  | _ => none
theorem jm_n_min {n : Nat} (hf1 : 1 ≤ jm_fr y) (hl1 : 21 ≤ jm_lo y) (hl : Cond.methodLink (jm_nm y).cls n Lib.Math.min.name ∈ jm_T) (hs1 : Cond.static Lib.Math.min.name ∈ jm_T) (hi : Cond.initialized "java/lang/Math" ∈ jm_T) (hc0 : Cond.code Lib.Math.min.name Lib.Math.min.code 2 (some .int) ∈ jm_T) (hd : decode (jm_by y) (jm_pc y k) = .ok (.invokestatic n, 3)) (hp : jm_pc y (k + 1) = jm_pc y k + 3) : jm_SN y k (jm_min) := by
  intro G p l e R s m args below meth c cells slots Q C ls st h k' ls' st' h' hf hW
  obtain ⟨hx, hb, hml, hown, hts, hE, hAm, hfr, hlo, hce, hsl, hZ⟩ := C
  unfold jm_min at hf
  split at hf
  · split at hf
    · rename_i hc
      cases hf
      intro ok okL H locs A hR hS hL
      refine va_mmin hx hb (by rw [hml, hL.2.1]) hown (hts _ hl) (hts _ hs1) (hts _ hi) (hts _ hc0) (by omega) (by rw [List.map_map, show (fun v : Value => v.category) ∘ jm_sh G = jm_ct from funext (jm_sh_cat G)]; omega) hce hsl hd ?_
      have := hW ⟨trivial, ok.2.2⟩ okL H locs A hR hS hL
      rw [hp] at this
      exact this
    · cases hf
  · cases hf
end JMI
