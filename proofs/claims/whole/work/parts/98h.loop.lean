/-! ===== the first heap; the law's loop ===== -/
theorem inv0 : INV 0 jz_h := by
  refine ⟨0, fun _ => default, ⟨by omega, ⟨by decide, by decide⟩, rfl, rfl, fun m hm => absurd hm (Nat.not_lt_zero m)⟩, ⟨fun _ => rfl, fun x => absurd x (Nat.not_lt_zero 0), 0, Or.inl rfl, rfl, rfl, fun x => absurd x (by decide)⟩, ⟨rfl, rfl, fun x => absurd x (by decide)⟩, 0, by omega, rfl, rfl, fun i hi => absurd hi (Nat.not_lt_zero i)⟩
section LOOP
variable {L : Nat} {xs : Nat → Int32} {h : jm_H} {B : Int}
theorem turn {i : Int32} (X1 : HL B) (X2 : HT B) (X3 : HA B) (hin : ∀ j : Int32, 1 ≤ j → j ≤ 5 → jm_in (i + j) L) (b0 : 0 ≤ B) (b1 : B ≤ 900000000) (I : INV B h) (c : Nat) (hc : c < 49) (h46 : c ≠ 46) : ∃ h2, jm_P (cod_law L xs) (jl_cases.getD c 0, [some (jm_r 62 0), some (jm_r 7 0), some (jm_r 8 0), some (jm_r 58 0), some (jm_i i), none, none], [], h) (1178, [some (jm_r 62 0), some (jm_r 7 0), some (jm_r 8 0), some (jm_r 58 0), some (jm_i i), none, none], [], h2) ∧ INV (B + 6000) h2 := by
  match c, hc with
  | 0, _ => exact it_0 hin b0 b1 I
  | 1, _ => exact it_1 hin b0 b1 I
  | 2, _ => exact it_2 hin b0 b1 I
  | 3, _ => exact it_3 hin b0 b1 I
  | 4, _ => exact it_4 hin b0 b1 I
  | 5, _ => exact it_5 hin b0 b1 I
  | 6, _ => exact it_6 hin b0 b1 I
  | 7, _ => exact it_7 X1 hin b0 b1 I
  | 8, _ => exact it_8 hin b0 b1 I
  | 9, _ => exact it_9 hin b0 b1 I
  | 10, _ => exact it_10 hin b0 b1 I
  | 11, _ => exact it_11 hin b0 b1 I
  | 12, _ => exact it_12 hin b0 b1 I
  | 13, _ => exact it_13 hin b0 b1 I
  | 14, _ => exact it_14 hin b0 b1 I
  | 15, _ => exact it_15 hin b0 b1 I
  | 16, _ => exact it_16 hin b0 b1 I
  | 17, _ => exact it_17 hin b0 b1 I
  | 18, _ => exact it_18 hin b0 b1 I
  | 19, _ => exact it_19 hin b0 b1 I
  | 20, _ => exact it_20 hin b0 b1 I
  | 21, _ => exact it_21 hin b0 b1 I
  | 22, _ => exact it_22 hin b0 b1 I
  | 23, _ => exact it_23 hin b0 b1 I
  | 24, _ => exact it_24 hin b0 b1 I
  | 25, _ => exact it_25 hin b0 b1 I
  | 26, _ => exact it_26 hin b0 b1 I
  | 27, _ => exact it_27 hin b0 b1 I
  | 28, _ => exact it_28 hin b0 b1 I
  | 29, _ => exact it_29 hin b0 b1 I
  | 30, _ => exact it_30 hin b0 b1 I
  | 31, _ => exact it_31 hin b0 b1 I
  | 32, _ => exact it_32 hin b0 b1 I
  | 33, _ => exact it_33 hin b0 b1 I
  | 34, _ => exact it_34 hin b0 b1 I
  | 35, _ => exact it_35 hin b0 b1 I
  | 36, _ => exact it_36 hin b0 b1 I
  | 37, _ => exact it_37 hin b0 b1 I
  | 38, _ => exact it_38 hin b0 b1 I
  | 39, _ => exact it_39 hin b0 b1 I
  | 40, _ => exact it_40 hin b0 b1 I
  | 41, _ => exact it_41 hin b0 b1 I
  | 42, _ => exact it_42 hin b0 b1 I
  | 43, _ => exact it_43 hin b0 b1 I
  | 44, _ => exact it_44 X2 hin b0 b1 I
  | 45, _ => exact it_45 X3 hin b0 b1 I
  | 46, _ => exact absurd rfl h46
  | 47, _ => exact it_47 hin b0 b1 I
  | 48, _ => exact it_48 hin b0 b1 I
  | n + 49, hc => omega
theorem law_loop {K : Nat → jm_S → Prop} (hW : ∀ t x, t < 512 → K (t + 1) x → K t x) (hS : ∀ t x x', t ≤ 512 → jm_P (cod_law L xs) x x' → K t x' → K t x)
    (hA : ∀ t (i a v : Int32) h, t < 512 → m_FR_idle a h v h → K (t + 1) (1127, [some (jm_r 62 0), some (jm_r 7 0), some (jm_r 8 0), some (jm_r 58 0), some (jm_i i), none, none], [jm_i 0], jm_sL h v.toInt64) → K t (1126, [some (jm_r 62 0), some (jm_r 7 0), some (jm_r 8 0), some (jm_r 58 0), some (jm_i i), none, none], [jm_r 58 0, jm_i a, jm_r 7 0], h))
    (hB : ∀ t (i a : Int32) h k ls, t < 512 → (k = 6 ∨ k = 21) → jm_P cod_80 (0, [some (jm_r 7 0), some (jm_i a), none], [], h) (k, ls, [], h) → K (t + 1) (1127, [some (jm_r 62 0), some (jm_r 7 0), some (jm_r 8 0), some (jm_r 58 0), some (jm_i i), none, none], [jm_i 1], h) → K t (1126, [some (jm_r 62 0), some (jm_r 7 0), some (jm_r 8 0), some (jm_r 58 0), some (jm_i i), none, none], [jm_r 58 0, jm_i a, jm_r 7 0], h))
    (hE : ∀ t (i : Int32) h, t ≤ 512 → K t (1180, [some (jm_r 62 0), some (jm_r 7 0), some (jm_r 8 0), some (jm_r 58 0), some (jm_i i), none, none], [], h)) (hL : L ≤ 3072) (X1 : ∀ B, HL B) (X2 : ∀ B, HT B) (X3 : ∀ B, HA B) :
    ∀ (n t : Nat) (h : jm_H), t + n = 512 → INV (6000 * (t : Int)) h → K t (13, [some (jm_r 62 0), some (jm_r 7 0), some (jm_r 8 0), some (jm_r 58 0), some (jm_i (zI (6 * (t : Int)))), none, none], [], h) := by
  have eL : L.toInt32 - 6 = zI ((L : Int) - 6) := by
    rw [zl_6, show L.toInt32 = zI (L : Int) from rfl, zI_sub]
  intro n
  induction n with
  | zero =>
    intro t h et I
    refine hS t _ _ (by omega) (wl_head (fun _ => rfl) (fun hc => ?_)) (hE t _ h (by omega))
    rw [eL, zI_lt (by omega) (by omega) (by omega) (by omega)] at hc
    omega
  | succ n ih =>
    intro t h et I
    generalize hi : zI (6 * (t : Int)) = i
    by_cases hc : (L : Int) - 6 < 6 * (t : Int)
    · refine hS t _ _ (by omega) (wl_head (fun _ => rfl) (fun hc' => ?_)) (hE t _ h (by omega))
      rw [eL, ← hi, zI_lt (by omega) (by omega) (by omega) (by omega)] at hc'
      omega
    · have n1 : ¬ L.toInt32 - 6 < i := by rw [eL, ← hi, zI_lt (by omega) (by omega) (by omega) (by omega)]; exact hc
      have hin0 : jm_in i L := by rw [← hi]; exact zI_in (by omega) (by omega) (by omega)
      have hin : ∀ j : Int32, 1 ≤ j → j ≤ 5 → jm_in (i + j) L := fun j j1 j2 => by
        obtain ⟨x, rfl, x1, x2⟩ := i32x j
        rw [zl_1, zI_le (by omega) (by omega) (by omega) (by omega)] at j1
        rw [zl_5, zI_le (by omega) (by omega) (by omega) (by omega)] at j2
        rw [← hi, zI_add]
        exact zI_in (by omega) (by omega) (by omega)
      have fin : ∀ h2, INV (6000 * (t : Int) + 6000) h2 → K (t + 1) (1178, [some (jm_r 62 0), some (jm_r 7 0), some (jm_r 8 0), some (jm_r 58 0), some (jm_i i), none, none], [], h2) := fun h2 J => by
        refine hS (t + 1) _ _ (by omega) (wl_dflt rfl) ?_
        rw [← hi, zl_6, zI_add, show 6 * (t : Int) + 6 = 6 * ((t + 1 : Nat) : Int) by omega]
        exact ih (t + 1) h2 (by omega) (by rw [show 6000 * ((t + 1 : Nat) : Int) = 6000 * (t : Int) + 6000 by omega]; exact J)
      by_cases hz : (xs i.toNatClampNeg &&& 63).toInt < 0 ∨ 49 ≤ (xs i.toNatClampNeg &&& 63).toInt
      · refine hS t _ _ (by omega) (wl_head (x' := (1178, [some (jm_r 62 0), some (jm_r 7 0), some (jm_r 8 0), some (jm_r 58 0), some (jm_i i), none, none], [], h)) (fun hc' => absurd hc' n1) (fun _ => ⟨hin0, fun _ => jm_P_refl rfl, fun c hc1 hc2 => ?_⟩)) (hW t _ (by omega) (fin h (I.mono (by omega))))
        rw [hc2, nI_toInt (by omega)] at hz
        omega
      · have hcc : xs i.toNatClampNeg &&& 63 = nI (xs i.toNatClampNeg &&& 63).toInt.toNat := Int32.toInt_inj.mp (by rw [nI_toInt (by omega)]; omega)
        generalize hcd : (xs i.toNatClampNeg &&& 63).toInt.toNat = c at hcc
        have c49 : c < 49 := by omega
        have hd : jm_P (cod_law L xs) (13, [some (jm_r 62 0), some (jm_r 7 0), some (jm_r 8 0), some (jm_r 58 0), some (jm_i i), none, none], [], h) (jl_cases.getD c 0, [some (jm_r 62 0), some (jm_r 7 0), some (jm_r 8 0), some (jm_r 58 0), some (jm_i i), none, none], [], h) := by
          refine wl_head (fun hc' => absurd hc' n1) (fun _ => ⟨hin0, fun hz' => absurd hz' hz, fun c' hc1 hc2 => ?_⟩)
          have : c' = c := by rw [← hcd, hc2, nI_toInt (by omega)]; omega
          rw [this]; exact jm_P_refl rfl
        refine hS t _ _ (by omega) hd ?_
        by_cases h46 : c = 46
        · subst h46
          refine hS t _ _ (by omega) (wl_46 ⟨hin 1 (by decide) (by decide), rfl⟩) ?_
          rcases c_idle I (xs ((i + 1).toNatClampNeg)) with ⟨v, F, h2, M, e0, J, el⟩ | ⟨k, ls, hk, P, v, h2, M, e1, J⟩
          · refine hA t i _ v h (by omega) F (hS (t + 1) _ (1178, [some (jm_r 62 0), some (jm_r 7 0), some (jm_r 8 0), some (jm_r 58 0), some (jm_i i), some (jm_i 0), some (jm_i v)], [], h2) (by omega) (wl_idle ⟨hin 1 (by decide) (by decide), v, h2, M, h2.1 8 0 0, h2, wp_M_thrown rfl, fun _ => ⟨fun _ => ⟨fun _ => rfl, fun hc => absurd (by rw [el]; exact lg_cmp0 _) hc⟩, fun hc => absurd rfl hc⟩, fun hc => absurd e0 hc⟩) ?_)
            exact hS (t + 1) _ _ (by omega) (jm_P_weak (ls' := [some (jm_r 62 0), some (jm_r 7 0), some (jm_r 8 0), some (jm_r 58 0), some (jm_i i), none, none]) ⟨rfl, rfl, rfl, rfl, rfl, trivial⟩ (jm_P_refl rfl)) (fin h2 (J.mono (by omega)))
          · refine hB t i _ h k ls (by omega) hk P (hS (t + 1) _ (1178, [some (jm_r 62 0), some (jm_r 7 0), some (jm_r 8 0), some (jm_r 58 0), some (jm_i i), some (jm_i 1), some (jm_i v)], [], h2) (by omega) (wl_idle ⟨hin 1 (by decide) (by decide), v, h2, M, h2.1 8 0 0, h2, wp_M_thrown rfl, fun _ => ⟨fun hc => absurd hc (by decide), fun _ => rfl⟩, fun hc => absurd e1 hc⟩) ?_)
            exact hS (t + 1) _ _ (by omega) (jm_P_weak (ls' := [some (jm_r 62 0), some (jm_r 7 0), some (jm_r 8 0), some (jm_r 58 0), some (jm_i i), none, none]) ⟨rfl, rfl, rfl, rfl, rfl, trivial⟩ (jm_P_refl rfl)) (fin h2 (J.mono (by omega)))
        · obtain ⟨h2, P, J⟩ := turn (X1 _) (X2 _) (X3 _) hin (by omega) (by omega) I c c49 h46
          exact hS t _ _ (by omega) P (hW t _ (by omega) (fin h2 J))
end LOOP
