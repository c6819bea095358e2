/-! ===== texts: the constants of the class and of the reference (sound: below, still open) ===== -/
/-- the signs of a text -/
def jm_str : Nat → List Nat := fun i => ([[109, 111, 100, 101], [116, 97, 115, 107], [102, 114, 97, 109, 101], [114, 101, 115, 101, 114, 118, 101], [112, 104, 97, 115, 101], [101, 118, 101, 114, 121], [99, 111, 115, 116, 115], [119, 105, 116, 104, 105, 110]] : List (List Nat)).getD i []
def jm_strl (i : Nat) : Nat := (jm_str i).length
/-- which text a class's constant is -/
def jm_sref : List (String × Nat × Nat) := [("FrameRound$Reader", 101, 4), ("FrameRound$Reader", 103, 5), ("FrameRound$Reader", 115, 6), ("FrameRound$Reader", 121, 7), ("FrameRound$Reader", 47, 0), ("FrameRound$Reader", 57, 1), ("FrameRound$Reader", 83, 2), ("FrameRound$Reader", 92, 3), ("FrameRoundModel", 158, 2), ("FrameRoundModel", 163, 3), ("FrameRoundModel", 164, 4), ("FrameRoundModel", 165, 5), ("FrameRoundModel", 174, 6), ("FrameRoundModel", 176, 7), ("FrameRoundModel", 178, 0), ("FrameRoundModel", 183, 1)]
def jm_ldcs (i : Nat) : jm_F := fun k ls st h => some (k, ls, .inr (60, i) :: st, h)
def jm_slen : jm_F := fun k ls st h => match st with
  | .inr q :: r => if q.1 = 60 ∧ (r.map jm_ct).sum ≤ 8 then some (k, ls, .inl (.int (jm_strl q.2).toInt32) :: r, h) else none
  | _ => none
def jm_schr : jm_F := fun k ls st h => match st with
  | .inl (.int j) :: .inr q :: r => if q.1 = 60 ∧ jm_in j (jm_strl q.2) ∧ (r.map jm_ct).sum ≤ 8 then some (k, ls, .inl (.int ((jm_str q.2).getD j.toNatClampNeg 0).toInt32) :: r, h) else none
  | _ => none
section JMT
variable {y : jm_M} {k : Nat}
theorem jm_n_ldcs {n i : Nat} (hs : (jm_sref.find? (fun q => q.1 == (jm_nm y).cls && q.2.1 == n)).map (fun q => q.2.2) = some i) (hd : decode (jm_by y) (jm_pc y k) = .ok (.ldc n, 2)) (hp : jm_pc y (k + 1) = jm_pc y k + 2) : jm_SN y k (jm_ldcs i) := by
  sorry
theorem jm_n_slen {n : Nat} (hf1 : 5 ≤ jm_fr y) (hl1 : 130 ≤ jm_lo y) (hl : Cond.methodLink (jm_nm y).cls n ⟨"java/lang/String", "length", "()I"⟩ ∈ jm_T) (hd : decode (jm_by y) (jm_pc y k) = .ok (.invokevirtual n, 3)) (hp : jm_pc y (k + 1) = jm_pc y k + 3) : jm_SN y k jm_slen := by
  sorry
theorem jm_n_schr {n : Nat} (hf1 : 5 ≤ jm_fr y) (hl1 : 130 ≤ jm_lo y) (hl : Cond.methodLink (jm_nm y).cls n ⟨"java/lang/String", "charAt", "(I)C"⟩ ∈ jm_T) (hd : decode (jm_by y) (jm_pc y k) = .ok (.invokevirtual n, 3)) (hp : jm_pc y (k + 1) = jm_pc y k + 3) : jm_SN y k jm_schr := by
  sorry
end JMT
