/-! ===== sums ===== -/
def sm : Nat → (Nat → Int) → Int
  | 0, _ => 0
  | n + 1, f => sm n f + f n
theorem sm_0 (f : Nat → Int) : sm 0 f = 0 := rfl
theorem sm_s (n : Nat) (f : Nat → Int) : sm (n + 1) f = sm n f + f n := rfl
theorem sm_congr {n : Nat} {f g : Nat → Int} (h : ∀ i, i < n → f i = g i) : sm n f = sm n g := by
  induction n with
  | zero => rfl
  | succ n ih => rw [sm_s, sm_s, ih (fun i hi => h i (by omega)), h n (by omega)]
theorem sm_le {n : Nat} {f g : Nat → Int} (h : ∀ i, i < n → f i ≤ g i) : sm n f ≤ sm n g := by
  induction n with
  | zero => exact Int.le_refl _
  | succ n ih =>
    have h1 := ih (fun i hi => h i (by omega))
    have h2 := h n (by omega)
    rw [sm_s, sm_s]; omega
theorem sm_add (n : Nat) (f g : Nat → Int) : sm n (fun i => f i + g i) = sm n f + sm n g := by
  induction n with
  | zero => rfl
  | succ n ih => rw [sm_s, sm_s, sm_s, ih]; omega
theorem sm_sub (n : Nat) (f g : Nat → Int) : sm n (fun i => f i - g i) = sm n f - sm n g := by
  induction n with
  | zero => rfl
  | succ n ih => rw [sm_s, sm_s, sm_s, ih]; omega
theorem sm_zero {n : Nat} {f : Nat → Int} (h : ∀ i, i < n → f i = 0) : sm n f = 0 := by
  induction n with
  | zero => rfl
  | succ n ih => rw [sm_s, ih (fun i hi => h i (by omega)), h n (by omega)]; rfl
theorem sm_nn {n : Nat} {f : Nat → Int} (h : ∀ i, i < n → 0 ≤ f i) : 0 ≤ sm n f := by
  induction n with
  | zero => exact Int.le_refl _
  | succ n ih =>
    have h1 := ih (fun i hi => h i (by omega))
    have h2 := h n (by omega)
    rw [sm_s]; omega
theorem sm_ge {n : Nat} {f : Nat → Int} (h : ∀ i, i < n → 0 ≤ f i) {i : Nat} (hi : i < n) : f i ≤ sm n f := by
  induction n with
  | zero => omega
  | succ n ih =>
    rw [sm_s]
    have h1 := sm_nn (n := n) (f := f) (fun i hi => h i (by omega))
    by_cases e : i = n
    · subst e; omega
    · have h2 := ih (fun i hi => h i (by omega)) (by omega)
      have h3 := h n (by omega)
      omega
theorem sm_z {n : Nat} {f : Nat → Int} (h : ∀ i, i < n → 0 ≤ f i) (hz : sm n f = 0) {i : Nat} (hi : i < n) : f i = 0 := by
  have h1 := sm_ge h hi
  have h2 := h i hi
  omega
theorem sm_swap (n m : Nat) (f : Nat → Nat → Int) : sm n (fun i => sm m (fun j => f i j)) = sm m (fun j => sm n (fun i => f i j)) := by
  induction n with
  | zero => rw [sm_0]; exact (sm_zero (fun _ _ => rfl)).symm
  | succ n ih => rw [sm_s, ih, ← sm_add]; rfl
theorem sm_mono {n m : Nat} {f : Nat → Int} (h : ∀ i, n ≤ i → i < m → 0 ≤ f i) (hnm : n ≤ m) : sm n f ≤ sm m f := by
  induction m with
  | zero => rw [show n = 0 by omega]; exact Int.le_refl _
  | succ m ih =>
    by_cases e : n = m + 1
    · rw [e]; exact Int.le_refl _
    · have h1 := ih (fun i a b => h i a (by omega)) (by omega)
      have h2 := h m (by omega) (by omega)
      rw [sm_s]; omega
theorem sm_tail {n m : Nat} {f : Nat → Int} (h : ∀ i, n ≤ i → i < m → f i = 0) (hnm : n ≤ m) : sm m f = sm n f := by
  induction m with
  | zero => rw [show n = 0 by omega]
  | succ m ih =>
    by_cases e : n = m + 1
    · rw [e]
    · rw [sm_s, ih (fun i a b => h i a (by omega)) (by omega), h m (by omega) (by omega)]; omega
/-- one place changed -/
theorem sm_up {n : Nat} {f g : Nat → Int} {i : Nat} (hi : i < n) (h : ∀ k, k < n → k ≠ i → g k = f k) : sm n g = sm n f + (g i - f i) := by
  induction n with
  | zero => omega
  | succ n ih =>
    rw [sm_s, sm_s]
    by_cases e : i = n
    · subst e
      rw [sm_congr (fun k hk => h k (by omega) (by omega))]; omega
    · rw [ih (by omega) (fun k hk hne => h k (by omega) hne), h n (by omega) (by omega)]; omega
/-- a run of one value -/
theorem sm_run (n a b : Nat) (r : Int) (hab : a ≤ b) (hb : b < n) : sm n (fun k => if a ≤ k ∧ k ≤ b then r else 0) = r * ((b : Int) - a + 1) := by
  have key : ∀ m : Nat, m ≤ n → sm m (fun k => if a ≤ k ∧ k ≤ b then r else 0) = r * (if m ≤ a then 0 else if m ≤ b then (m : Int) - a else (b : Int) - a + 1) := by
    intro m
    induction m with
    | zero => intro _; rw [sm_0, if_pos (by omega), Int.mul_zero]
    | succ m ih =>
      intro hm
      rw [sm_s, ih (by omega)]
      by_cases h1 : m < a
      · rw [if_pos (by omega), if_neg (by omega), if_pos (by omega)]; omega
      · by_cases h2 : m ≤ b
        · rw [if_pos (⟨by omega, by omega⟩ : a ≤ m ∧ m ≤ b), if_neg (show ¬ m + 1 ≤ a by omega)]
          have e : ∀ x y : Int, x = y - 1 → r * x + r = r * y := fun x y e => by
            rw [e, Int.mul_sub, Int.mul_one]; omega
          apply e
          by_cases h3 : m ≤ a
          · rw [if_pos h3]
            by_cases h4 : m + 1 ≤ b
            · rw [if_pos h4]; omega
            · rw [if_neg h4]; omega
          · rw [if_neg h3, if_pos h2]
            by_cases h4 : m + 1 ≤ b
            · rw [if_pos h4]; omega
            · rw [if_neg h4]; omega
        · rw [if_neg (show ¬ (a ≤ m ∧ m ≤ b) by omega), if_neg (show ¬ m ≤ a by omega), if_neg h2, if_neg (show ¬ m + 1 ≤ a by omega), if_neg (show ¬ m + 1 ≤ b by omega)]; omega
  rw [key n (Nat.le_refl _), if_neg (by omega), if_neg (by omega)]
