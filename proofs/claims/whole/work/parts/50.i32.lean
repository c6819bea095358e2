/-! ===== ints as whole numbers ===== -/
abbrev zI (z : Int) : Int32 := Int32.ofInt z
theorem zI_toInt {a : Int} (h1 : -2147483648 ≤ a) (h2 : a ≤ 2147483647) : (Int32.ofInt a).toInt = a := Int32.toInt_ofInt_of_le (by omega) (by omega)
theorem zI_of (x : Int32) : Int32.ofInt x.toInt = x := Int32.ofInt_toInt x
theorem zI_lo (x : Int32) : -2147483648 ≤ x.toInt := by have := Int32.le_toInt x; omega
theorem zI_hi (x : Int32) : x.toInt ≤ 2147483647 := by have := Int32.toInt_lt x; omega
theorem zI_le {a b : Int} (h1 : -2147483648 ≤ a) (h2 : a ≤ 2147483647) (h3 : -2147483648 ≤ b) (h4 : b ≤ 2147483647) : Int32.ofInt a ≤ Int32.ofInt b ↔ a ≤ b := by
  rw [Int32.le_iff_toInt_le, zI_toInt h1 h2, zI_toInt h3 h4]
theorem zI_lt {a b : Int} (h1 : -2147483648 ≤ a) (h2 : a ≤ 2147483647) (h3 : -2147483648 ≤ b) (h4 : b ≤ 2147483647) : Int32.ofInt a < Int32.ofInt b ↔ a < b := by
  rw [Int32.lt_iff_toInt_lt, zI_toInt h1 h2, zI_toInt h3 h4]
theorem zI_eq {a b : Int} (h1 : -2147483648 ≤ a) (h2 : a ≤ 2147483647) (h3 : -2147483648 ≤ b) (h4 : b ≤ 2147483647) : Int32.ofInt a = Int32.ofInt b ↔ a = b := by
  rw [← Int32.toInt_inj, zI_toInt h1 h2, zI_toInt h3 h4]
theorem zI_nat {a : Int} (h1 : -2147483648 ≤ a) (h2 : a ≤ 2147483647) : (Int32.ofInt a).toNatClampNeg = a.toNat := Int32.toNatClampNeg_ofInt_of_le (by omega) (by omega)
theorem zI_cn {n : Nat} (h : n ≤ 2147483647) : (Int32.ofInt (n : Int)).toNatClampNeg = n := by rw [zI_nat (by omega) (by omega)]; omega
theorem zI_in {a : Int} {n : Nat} (h0 : n ≤ 2147483647) (h1 : 0 ≤ a) (h2 : a < n) : jm_in (Int32.ofInt a) n := by
  show 0 ≤ (Int32.ofInt a).toInt ∧ (Int32.ofInt a).toInt < n
  rw [zI_toInt (by omega) (by omega)]
  exact ⟨h1, h2⟩
theorem zI_add (a b : Int) : Int32.ofInt a + Int32.ofInt b = Int32.ofInt (a + b) := (Int32.ofInt_add a b).symm
theorem zI_sub (a b : Int) : Int32.ofInt a - Int32.ofInt b = Int32.ofInt (a - b) := (Int32.ofInt_sub a b).symm
theorem zI_mul (a b : Int) : Int32.ofInt a * Int32.ofInt b = Int32.ofInt (a * b) := (Int32.ofInt_mul a b).symm
theorem zI_div {a b : Int} (h1 : 0 ≤ a) (h2 : a ≤ 2147483647) (h3 : 0 ≤ b) (h4 : b ≤ 2147483647) : Int32.ofInt a / Int32.ofInt b = Int32.ofInt (a / b) := by
  have hm : Int32.minValue.toInt = -2147483648 := by decide
  have hx : Int32.maxValue.toInt = 2147483647 := by decide
  rw [← Int32.ofInt_tdiv (by omega) (by omega) (by omega) (by omega), Int.tdiv_eq_ediv_of_nonneg h1]
theorem zI_rem {a b : Int} (h1 : 0 ≤ a) (h2 : a ≤ 2147483647) (h3 : 0 ≤ b) (h4 : b ≤ 2147483647) : Int32.ofInt a - Int32.ofInt a / Int32.ofInt b * Int32.ofInt b = Int32.ofInt (a % b) := by
  rw [zI_div h1 h2 h3 h4, zI_mul, zI_sub, Int.emod_def, Int.mul_comm]
theorem zI_ite {c : Prop} [Decidable c] (a b : Int) : (if c then Int32.ofInt a else Int32.ofInt b) = Int32.ofInt (if c then a else b) := by split <;> rfl
theorem zl_0 : (0 : Int32) = Int32.ofInt 0 := rfl
theorem zl_1 : (1 : Int32) = Int32.ofInt 1 := rfl
theorem zl_2 : (2 : Int32) = Int32.ofInt 2 := rfl
theorem zl_3 : (3 : Int32) = Int32.ofInt 3 := rfl
theorem zl_4 : (4 : Int32) = Int32.ofInt 4 := rfl
theorem zl_5 : (5 : Int32) = Int32.ofInt 5 := rfl
theorem zl_6 : (6 : Int32) = Int32.ofInt 6 := rfl
theorem zl_7 : (7 : Int32) = Int32.ofInt 7 := rfl
theorem zl_8 : (8 : Int32) = Int32.ofInt 8 := rfl
theorem zl_9 : (9 : Int32) = Int32.ofInt 9 := rfl
theorem zl_10 : (10 : Int32) = Int32.ofInt 10 := rfl
theorem zl_11 : (11 : Int32) = Int32.ofInt 11 := rfl
theorem zl_12 : (12 : Int32) = Int32.ofInt 12 := rfl
theorem zl_13 : (13 : Int32) = Int32.ofInt 13 := rfl
theorem zl_16 : (16 : Int32) = Int32.ofInt 16 := rfl
theorem zl_17 : (17 : Int32) = Int32.ofInt 17 := rfl
theorem zl_18 : (18 : Int32) = Int32.ofInt 18 := rfl
theorem zl_19 : (19 : Int32) = Int32.ofInt 19 := rfl
theorem zl_20 : (20 : Int32) = Int32.ofInt 20 := rfl
theorem zl_23 : (23 : Int32) = Int32.ofInt 23 := rfl
theorem zl_24 : (24 : Int32) = Int32.ofInt 24 := rfl
theorem zl_25 : (25 : Int32) = Int32.ofInt 25 := rfl
theorem zl_26 : (26 : Int32) = Int32.ofInt 26 := rfl
theorem zl_27 : (27 : Int32) = Int32.ofInt 27 := rfl
theorem zl_28 : (28 : Int32) = Int32.ofInt 28 := rfl
theorem zl_31 : (31 : Int32) = Int32.ofInt 31 := rfl
theorem zl_32 : (32 : Int32) = Int32.ofInt 32 := rfl
theorem zl_48 : (48 : Int32) = Int32.ofInt 48 := rfl
theorem zl_57 : (57 : Int32) = Int32.ofInt 57 := rfl
theorem zl_59 : (59 : Int32) = Int32.ofInt 59 := rfl
theorem zl_60 : (60 : Int32) = Int32.ofInt 60 := rfl
theorem zl_61 : (61 : Int32) = Int32.ofInt 61 := rfl
theorem zl_63 : (63 : Int32) = Int32.ofInt 63 := rfl
theorem zl_64 : (64 : Int32) = Int32.ofInt 64 := rfl
theorem zl_95 : (95 : Int32) = Int32.ofInt 95 := rfl
theorem zl_96 : (96 : Int32) = Int32.ofInt 96 := rfl
theorem zl_97 : (97 : Int32) = Int32.ofInt 97 := rfl
theorem zl_99 : (99 : Int32) = Int32.ofInt 99 := rfl
theorem zl_100 : (100 : Int32) = Int32.ofInt 100 := rfl
theorem zl_122 : (122 : Int32) = Int32.ofInt 122 := rfl
theorem zl_127 : (127 : Int32) = Int32.ofInt 127 := rfl
theorem zl_192 : (192 : Int32) = Int32.ofInt 192 := rfl
theorem zl_255 : (255 : Int32) = Int32.ofInt 255 := rfl
theorem zl_400 : (400 : Int32) = Int32.ofInt 400 := rfl
theorem zl_401 : (401 : Int32) = Int32.ofInt 401 := rfl
theorem zl_575 : (575 : Int32) = Int32.ofInt 575 := rfl
theorem zl_576 : (576 : Int32) = Int32.ofInt 576 := rfl
theorem zl_592 : (592 : Int32) = Int32.ofInt 592 := rfl
theorem zl_600 : (600 : Int32) = Int32.ofInt 600 := rfl
theorem zl_680 : (680 : Int32) = Int32.ofInt 680 := rfl
theorem zl_700 : (700 : Int32) = Int32.ofInt 700 := rfl
theorem zl_1000 : (1000 : Int32) = Int32.ofInt 1000 := rfl
theorem zl_1023 : (1023 : Int32) = Int32.ofInt 1023 := rfl
theorem zl_1100 : (1100 : Int32) = Int32.ofInt 1100 := rfl
theorem zl_100000 : (100000 : Int32) = Int32.ofInt 100000 := rfl
theorem zl_1000000 : (1000000 : Int32) = Int32.ofInt 1000000 := rfl
theorem zl_m1 : (-1 : Int32) = Int32.ofInt (-1) := rfl
theorem zl_m2 : (-2 : Int32) = Int32.ofInt (-2) := rfl
theorem zl_m3 : (-3 : Int32) = Int32.ofInt (-3) := rfl
theorem zl_m4 : (-4 : Int32) = Int32.ofInt (-4) := rfl
