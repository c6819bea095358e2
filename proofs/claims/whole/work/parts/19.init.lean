/-- where a thing lies behind the first -/
def jz_pos : Nat → Nat → Nat := fun K i => (([[193, 196], [51, 86, 121, 156], [28, 35, 42, 5, 12, 19], [26, 3], [1], [190], [50, 85, 120, 155], [0], [199], [], [194, 197], [195, 198], [52, 87, 122, 157], [53, 88, 123, 158], [54, 89, 124, 159], [55, 90, 125, 160], [56, 91, 126, 161], [57, 92, 127, 162], [58, 93, 128, 163], [59, 94, 129, 164], [60, 95, 130, 165], [61, 62, 63, 64, 65, 66, 67, 68, 69, 70, 71, 72, 73, 74, 75, 76, 77, 78, 79, 80, 81, 82, 83, 84, 96, 97, 98, 99, 100, 101, 102, 103, 104, 105, 106, 107, 108, 109, 110, 111, 112, 113, 114, 115, 116, 117, 118, 119, 131, 132, 133, 134, 135, 136, 137, 138, 139, 140, 141, 142, 143, 144, 145, 146, 147, 148, 149, 150, 151, 152, 153, 154, 166, 167, 168, 169, 170, 171, 172, 173, 174, 175, 176, 177, 178, 179, 180, 181, 182, 183, 184, 185, 186, 187, 188, 189], [29, 36, 43, 6, 13, 20], [30, 37, 44, 7, 14, 21], [31, 38, 45, 8, 15, 22], [32, 39, 46, 9, 16, 23], [33, 40, 47, 10, 17, 24], [34, 41, 48, 11, 18, 25], [27, 4], [2], [191], [192], [49], [200], [201], [202], [203], [204], [205], [206], [207], [208], [209], [210], [211], [212], [213], [214], [215], [216], [217], [218], [219], [220], [221], [222], [223], [224], [225]] : List (List Nat)).getD K []).getD i 0
/-- what lies there: 0 ints, 1 bytes, 2 longs (how many), 3 an object, 4 an array of references (kind, which) -/
def jz_tag : List (Nat × Nat × Nat) := [(3, 7, 0), (3, 4, 0), (1, 700, 0), (3, 3, 1), (4, 28, 1), (3, 2, 3), (0, 6, 0), (0, 6, 0), (0, 6, 0), (0, 6, 0), (0, 24, 0), (0, 24, 0), (3, 2, 4), (0, 6, 0), (0, 6, 0), (0, 6, 0), (0, 6, 0), (0, 24, 0), (0, 24, 0), (3, 2, 5), (0, 6, 0), (0, 6, 0), (0, 6, 0), (0, 6, 0), (0, 24, 0), (0, 24, 0), (3, 3, 0), (4, 28, 0), (3, 2, 0), (0, 6, 0), (0, 6, 0), (0, 6, 0), (0, 6, 0), (0, 24, 0), (0, 24, 0), (3, 2, 1), (0, 6, 0), (0, 6, 0), (0, 6, 0), (0, 6, 0), (0, 24, 0), (0, 24, 0), (3, 2, 2), (0, 6, 0), (0, 6, 0), (0, 6, 0), (0, 6, 0), (0, 24, 0), (0, 24, 0), (4, 32, 0), (3, 6, 0), (3, 1, 0), (0, 24, 0), (0, 24, 0), (0, 24, 0), (0, 24, 0), (0, 24, 0), (0, 24, 0), (0, 24, 0), (0, 24, 0), (4, 20, 0), (0, 24, 0), (0, 24, 0), (0, 24, 0), (0, 24, 0), (0, 24, 0), (0, 24, 0), (0, 24, 0), (0, 24, 0), (0, 24, 0), (0, 24, 0), (0, 24, 0), (0, 24, 0), (0, 24, 0), (0, 24, 0), (0, 24, 0), (0, 24, 0), (0, 24, 0), (0, 24, 0), (0, 24, 0), (0, 24, 0), (0, 24, 0), (0, 24, 0), (0, 24, 0), (0, 24, 0), (3, 6, 1), (3, 1, 1), (0, 24, 0), (0, 24, 0), (0, 24, 0), (0, 24, 0), (0, 24, 0), (0, 24, 0), (0, 24, 0), (0, 24, 0), (4, 20, 1), (0, 24, 0), (0, 24, 0), (0, 24, 0), (0, 24, 0), (0, 24, 0), (0, 24, 0), (0, 24, 0), (0, 24, 0), (0, 24, 0), (0, 24, 0), (0, 24, 0), (0, 24, 0), (0, 24, 0), (0, 24, 0), (0, 24, 0), (0, 24, 0), (0, 24, 0), (0, 24, 0), (0, 24, 0), (0, 24, 0), (0, 24, 0), (0, 24, 0), (0, 24, 0), (0, 24, 0), (3, 6, 2), (3, 1, 2), (0, 24, 0), (0, 24, 0), (0, 24, 0), (0, 24, 0), (0, 24, 0), (0, 24, 0), (0, 24, 0), (0, 24, 0), (4, 20, 2), (0, 24, 0), (0, 24, 0), (0, 24, 0), (0, 24, 0), (0, 24, 0), (0, 24, 0), (0, 24, 0), (0, 24, 0), (0, 24, 0), (0, 24, 0), (0, 24, 0), (0, 24, 0), (0, 24, 0), (0, 24, 0), (0, 24, 0), (0, 24, 0), (0, 24, 0), (0, 24, 0), (0, 24, 0), (0, 24, 0), (0, 24, 0), (0, 24, 0), (0, 24, 0), (0, 24, 0), (3, 6, 3), (3, 1, 3), (0, 24, 0), (0, 24, 0), (0, 24, 0), (0, 24, 0), (0, 24, 0), (0, 24, 0), (0, 24, 0), (0, 24, 0), (4, 20, 3), (0, 24, 0), (0, 24, 0), (0, 24, 0), (0, 24, 0), (0, 24, 0), (0, 24, 0), (0, 24, 0), (0, 24, 0), (0, 24, 0), (0, 24, 0), (0, 24, 0), (0, 24, 0), (0, 24, 0), (0, 24, 0), (0, 24, 0), (0, 24, 0), (0, 24, 0), (0, 24, 0), (0, 24, 0), (0, 24, 0), (0, 24, 0), (0, 24, 0), (0, 24, 0), (0, 24, 0), (3, 5, 0), (0, 401, 0), (0, 401, 0), (3, 0, 0), (0, 8, 0), (0, 8, 0), (3, 0, 1), (0, 8, 0), (0, 8, 0), (3, 8, 0), (0, 700, 0), (0, 6, 0), (0, 6, 0), (0, 6, 0), (0, 6, 0), (0, 36, 0), (0, 36, 0), (0, 36, 0), (0, 36, 0), (0, 3, 0), (0, 72, 0), (0, 72, 0), (0, 24, 0), (0, 24, 0), (0, 24, 0), (0, 25, 0), (0, 576, 0), (0, 24, 0), (0, 576, 0), (0, 3, 0), (0, 1728, 0), (0, 3, 0), (0, 72, 0), (0, 28, 0), (0, 28, 0), (2, 1, 0)]
def jz_obj (bs K i : Nat) : List Value := match K, i with
  | 0, 0 => [.int 0, .int 0, .int 0, .int 0, .int 0, .int 0, .int 0, .int (-2), .int (-2), .int (-2), .ref (bs + 194), .ref (bs + 195)]
  | 0, 1 => [.int 0, .int 0, .int 0, .int 0, .int 0, .int 0, .int 0, .int (-2), .int (-2), .int (-2), .ref (bs + 197), .ref (bs + 198)]
  | 1, 0 => [.int 0, .int 0, .int 0, .int 0, .ref (bs + 52), .ref (bs + 53), .ref (bs + 54), .ref (bs + 55), .ref (bs + 56), .ref (bs + 57), .ref (bs + 58), .ref (bs + 59), .ref (bs + 60)]
  | 1, 1 => [.int 0, .int 0, .int 0, .int 0, .ref (bs + 87), .ref (bs + 88), .ref (bs + 89), .ref (bs + 90), .ref (bs + 91), .ref (bs + 92), .ref (bs + 93), .ref (bs + 94), .ref (bs + 95)]
  | 1, 2 => [.int 0, .int 0, .int 0, .int 0, .ref (bs + 122), .ref (bs + 123), .ref (bs + 124), .ref (bs + 125), .ref (bs + 126), .ref (bs + 127), .ref (bs + 128), .ref (bs + 129), .ref (bs + 130)]
  | 1, 3 => [.int 0, .int 0, .int 0, .int 0, .ref (bs + 157), .ref (bs + 158), .ref (bs + 159), .ref (bs + 160), .ref (bs + 161), .ref (bs + 162), .ref (bs + 163), .ref (bs + 164), .ref (bs + 165)]
  | 2, 0 => [.int 0, .int 0, .int 0, .int 0, .int 0, .ref (bs + 29), .ref (bs + 30), .ref (bs + 31), .ref (bs + 32), .ref (bs + 33), .ref (bs + 34)]
  | 2, 1 => [.int 0, .int 0, .int 0, .int 0, .int 0, .ref (bs + 36), .ref (bs + 37), .ref (bs + 38), .ref (bs + 39), .ref (bs + 40), .ref (bs + 41)]
  | 2, 2 => [.int 0, .int 0, .int 0, .int 0, .int 0, .ref (bs + 43), .ref (bs + 44), .ref (bs + 45), .ref (bs + 46), .ref (bs + 47), .ref (bs + 48)]
  | 2, 3 => [.int 0, .int 0, .int 0, .int 0, .int 0, .ref (bs + 6), .ref (bs + 7), .ref (bs + 8), .ref (bs + 9), .ref (bs + 10), .ref (bs + 11)]
  | 2, 4 => [.int 0, .int 0, .int 0, .int 0, .int 0, .ref (bs + 13), .ref (bs + 14), .ref (bs + 15), .ref (bs + 16), .ref (bs + 17), .ref (bs + 18)]
  | 2, 5 => [.int 0, .int 0, .int 0, .int 0, .int 0, .ref (bs + 20), .ref (bs + 21), .ref (bs + 22), .ref (bs + 23), .ref (bs + 24), .ref (bs + 25)]
  | 3, 0 => [.int 0, .ref (bs + 27)]
  | 3, 1 => [.int 0, .ref (bs + 4)]
  | 4, 0 => [.ref (bs + 2), .int 0, .int 0, .int 0, .int 0, .int 0, .int 0, .int 0, .int 0, .ref (bs + 3)]
  | 5, 0 => [.ref (bs + 191), .ref (bs + 192), .int 0]
  | 6, 0 => [.ref (bs + 51), .int 0, .int 0, .int 0]
  | 6, 1 => [.ref (bs + 86), .int 0, .int 0, .int 0]
  | 6, 2 => [.ref (bs + 121), .int 0, .int 0, .int 0]
  | 6, 3 => [.ref (bs + 156), .int 0, .int 0, .int 0]
  | 7, 0 => [.ref (bs + 1), .ref (bs + 26), .ref (bs + 49), .ref (bs + 155), .ref (bs + 190), .ref (bs + 193), .ref (bs + 196), .int 0, .int 0, .int 0, .int (-1)]
  | 8, 0 => [.int 0, .int 0, .int 0, .int (-1), .ref (bs + 200), .int 0, .int 0, .int 0, .ref (bs + 201), .ref (bs + 202), .ref (bs + 203), .ref (bs + 204), .ref (bs + 205), .ref (bs + 206), .ref (bs + 207), .ref (bs + 208), .int 0, .int 0, .int 0, .int 0, .int 0, .int 0, .int 0, .ref (bs + 209), .ref (bs + 210), .ref (bs + 211), .int 0, .int 0, .int 0, .ref (bs + 212), .ref (bs + 213), .ref (bs + 214), .ref (bs + 215), .ref (bs + 216), .ref (bs + 217), .int 0, .ref (bs + 218), .ref (bs + 219), .ref (bs + 220), .ref (bs + 221), .ref (bs + 222), .ref (bs + 223), .ref (bs + 224), .int 0, .int 0, .int 0, .int 0, .int 0, .int 0]
  | _, _ => []
def jz_qar (bs K i : Nat) : Nat → Option Nat := match K, i with
  | 20, 0 => fun j => if j < 24 then some (bs + 60 + 1 + j) else none
  | 20, 1 => fun j => if j < 24 then some (bs + 95 + 1 + j) else none
  | 20, 2 => fun j => if j < 24 then some (bs + 130 + 1 + j) else none
  | 20, 3 => fun j => if j < 24 then some (bs + 165 + 1 + j) else none
  | 28, 0 => va_up (va_up (va_up (fun _ => none) 0 (some (bs + 28))) 1 (some (bs + 35))) 2 (some (bs + 42))
  | 28, 1 => va_up (va_up (va_up (fun _ => none) 0 (some (bs + 5))) 1 (some (bs + 12))) 2 (some (bs + 19))
  | 32, 0 => va_up (va_up (va_up (fun _ => none) 0 (some (bs + 50))) 1 (some (bs + 85))) 2 (some (bs + 120))
  | _, _ => fun _ => none
def jz_dec (aT : Nat → ClassId) (bs : Nat) (q : Nat × Nat × Nat) : va_E := match q.1 with
  | 0 => .inl (aT 0, q.2.1, .inl (fun _ => 0))
  | 1 => .inl (aT 1, q.2.1, .inl (fun _ => 0))
  | 2 => .inl (aT 2, q.2.1, .inr (.inl (fun _ => 0)))
  | 3 => .inr (q.2.1, jz_obj bs q.2.1 q.2.2)
  | _ => .inl (aT (if q.2.1 = 20 then 5 else if q.2.1 = 28 then 3 else 4), jm_ln q.2.1, .inr (.inr (.inr (.inr (jz_qar bs q.2.1 q.2.2)))))
def jz_all (aT : Nat → ClassId) (bs : Nat) : List va_E := (blk_FR aT bs ++ blk_M aT (bs + 199)) ++ [.inl (aT 2, 1, .inr (.inl (fun _ => 0)))]
set_option maxRecDepth 100000 in
theorem jz_all_eq (aT : Nat → ClassId) (bs : Nat) : jz_all aT bs = jz_tag.map (jz_dec aT bs) := rfl
/-- the first heap -/
def jz_h : jm_H := (fun K _ j => if K = 0 ∧ 7 ≤ j then -2 else if K = 7 ∧ j = 10 then -1 else if K = 8 ∧ j = 3 then -1 else 0, fun K _ j => if K = 4 ∧ j = 9 then 1 else 0, 0)
/-- the kind of array of a kind -/
def jz_at : Nat → Nat := fun K => if K = 20 then 5 else if K = 28 then 3 else if K = 32 then 4 else if (jm_el K).1 = 1 then 1 else if (jm_el K).1 = 2 then 2 else 0
def jz_G (D : va_G) (aT : Nat → ClassId) (HZ : Heap) (adK adV : Nat → Nat) : jm_G := (fun K i => if K < 59 then HZ.size + jz_pos K i else if K = 60 then adK i else adV i, D, fun K => aT (jz_at K), HZ)
theorem jz_code : ∀ K, K < 59 → ∀ i, i < jm_cnt K → jz_tag[jz_pos K i]? = some (if K < 9 then (3, K, i) else if (jm_el K).1 = 3 then (4, K, i) else ((jm_el K).1, jm_ln K, 0)) := by decide +kernel
def jz_thing : List (Nat × Nat) := [(7, 0), (4, 0), (29, 0), (3, 1), (28, 1), (2, 3), (22, 3), (23, 3), (24, 3), (25, 3), (26, 3), (27, 3), (2, 4), (22, 4), (23, 4), (24, 4), (25, 4), (26, 4), (27, 4), (2, 5), (22, 5), (23, 5), (24, 5), (25, 5), (26, 5), (27, 5), (3, 0), (28, 0), (2, 0), (22, 0), (23, 0), (24, 0), (25, 0), (26, 0), (27, 0), (2, 1), (22, 1), (23, 1), (24, 1), (25, 1), (26, 1), (27, 1), (2, 2), (22, 2), (23, 2), (24, 2), (25, 2), (26, 2), (27, 2), (32, 0), (6, 0), (1, 0), (12, 0), (13, 0), (14, 0), (15, 0), (16, 0), (17, 0), (18, 0), (19, 0), (20, 0), (21, 0), (21, 1), (21, 2), (21, 3), (21, 4), (21, 5), (21, 6), (21, 7), (21, 8), (21, 9), (21, 10), (21, 11), (21, 12), (21, 13), (21, 14), (21, 15), (21, 16), (21, 17), (21, 18), (21, 19), (21, 20), (21, 21), (21, 22), (21, 23), (6, 1), (1, 1), (12, 1), (13, 1), (14, 1), (15, 1), (16, 1), (17, 1), (18, 1), (19, 1), (20, 1), (21, 24), (21, 25), (21, 26), (21, 27), (21, 28), (21, 29), (21, 30), (21, 31), (21, 32), (21, 33), (21, 34), (21, 35), (21, 36), (21, 37), (21, 38), (21, 39), (21, 40), (21, 41), (21, 42), (21, 43), (21, 44), (21, 45), (21, 46), (21, 47), (6, 2), (1, 2), (12, 2), (13, 2), (14, 2), (15, 2), (16, 2), (17, 2), (18, 2), (19, 2), (20, 2), (21, 48), (21, 49), (21, 50), (21, 51), (21, 52), (21, 53), (21, 54), (21, 55), (21, 56), (21, 57), (21, 58), (21, 59), (21, 60), (21, 61), (21, 62), (21, 63), (21, 64), (21, 65), (21, 66), (21, 67), (21, 68), (21, 69), (21, 70), (21, 71), (6, 3), (1, 3), (12, 3), (13, 3), (14, 3), (15, 3), (16, 3), (17, 3), (18, 3), (19, 3), (20, 3), (21, 72), (21, 73), (21, 74), (21, 75), (21, 76), (21, 77), (21, 78), (21, 79), (21, 80), (21, 81), (21, 82), (21, 83), (21, 84), (21, 85), (21, 86), (21, 87), (21, 88), (21, 89), (21, 90), (21, 91), (21, 92), (21, 93), (21, 94), (21, 95), (5, 0), (30, 0), (31, 0), (0, 0), (10, 0), (11, 0), (0, 1), (10, 1), (11, 1), (8, 0), (33, 0), (34, 0), (35, 0), (36, 0), (37, 0), (38, 0), (39, 0), (40, 0), (41, 0), (42, 0), (43, 0), (44, 0), (45, 0), (46, 0), (47, 0), (48, 0), (49, 0), (50, 0), (51, 0), (52, 0), (53, 0), (54, 0), (55, 0), (56, 0), (57, 0), (58, 0)]
theorem jz_back : ∀ K, K < 59 → ∀ i, i < jm_cnt K → jz_thing[jz_pos K i]? = some (K, i) := by decide +kernel
theorem jz_inj : ∀ K, K < 59 → ∀ i, i < jm_cnt K → ∀ K', K' < 59 → ∀ i', i' < jm_cnt K' → jz_pos K i = jz_pos K' i' → K = K' ∧ i = i' := by
  intro K hK i hi K' hK' i' hi' e
  have h := jz_back K hK i hi
  rw [e, jz_back K' hK' i' hi'] at h
  cases h
  exact ⟨rfl, rfl⟩
theorem jz_fv (D : va_G) (aT : Nat → ClassId) (HZ : Heap) (adK adV : Nat → Nat) : ∀ (K i : Nat), K < 9 → i < jm_cnt K → ∀ j, j < jm_nf K → vp_V (jz_obj HZ.size K i) j = jm_fv (jz_G D aT HZ adK adV) jz_h K i j := by
  intro K i hK hi j hj
  match K, i, hK, hi with
  | 0, 0, _, _ =>
    match j, hj with
    | 0, _ => rfl
    | 1, _ => rfl
    | 2, _ => rfl
    | 3, _ => rfl
    | 4, _ => rfl
    | 5, _ => rfl
    | 6, _ => rfl
    | 7, _ => rfl
    | 8, _ => rfl
    | 9, _ => rfl
    | 10, _ => rfl
    | 11, _ => rfl
    | j + 12, hj => exact absurd hj (by show ¬ j + 12 < 12; omega)
  | 0, 1, _, _ =>
    match j, hj with
    | 0, _ => rfl
    | 1, _ => rfl
    | 2, _ => rfl
    | 3, _ => rfl
    | 4, _ => rfl
    | 5, _ => rfl
    | 6, _ => rfl
    | 7, _ => rfl
    | 8, _ => rfl
    | 9, _ => rfl
    | 10, _ => rfl
    | 11, _ => rfl
    | j + 12, hj => exact absurd hj (by show ¬ j + 12 < 12; omega)
  | 1, 0, _, _ =>
    match j, hj with
    | 0, _ => rfl
    | 1, _ => rfl
    | 2, _ => rfl
    | 3, _ => rfl
    | 4, _ => rfl
    | 5, _ => rfl
    | 6, _ => rfl
    | 7, _ => rfl
    | 8, _ => rfl
    | 9, _ => rfl
    | 10, _ => rfl
    | 11, _ => rfl
    | 12, _ => rfl
    | j + 13, hj => exact absurd hj (by show ¬ j + 13 < 13; omega)
  | 1, 1, _, _ =>
    match j, hj with
    | 0, _ => rfl
    | 1, _ => rfl
    | 2, _ => rfl
    | 3, _ => rfl
    | 4, _ => rfl
    | 5, _ => rfl
    | 6, _ => rfl
    | 7, _ => rfl
    | 8, _ => rfl
    | 9, _ => rfl
    | 10, _ => rfl
    | 11, _ => rfl
    | 12, _ => rfl
    | j + 13, hj => exact absurd hj (by show ¬ j + 13 < 13; omega)
  | 1, 2, _, _ =>
    match j, hj with
    | 0, _ => rfl
    | 1, _ => rfl
    | 2, _ => rfl
    | 3, _ => rfl
    | 4, _ => rfl
    | 5, _ => rfl
    | 6, _ => rfl
    | 7, _ => rfl
    | 8, _ => rfl
    | 9, _ => rfl
    | 10, _ => rfl
    | 11, _ => rfl
    | 12, _ => rfl
    | j + 13, hj => exact absurd hj (by show ¬ j + 13 < 13; omega)
  | 1, 3, _, _ =>
    match j, hj with
    | 0, _ => rfl
    | 1, _ => rfl
    | 2, _ => rfl
    | 3, _ => rfl
    | 4, _ => rfl
    | 5, _ => rfl
    | 6, _ => rfl
    | 7, _ => rfl
    | 8, _ => rfl
    | 9, _ => rfl
    | 10, _ => rfl
    | 11, _ => rfl
    | 12, _ => rfl
    | j + 13, hj => exact absurd hj (by show ¬ j + 13 < 13; omega)
  | 2, 0, _, _ =>
    match j, hj with
    | 0, _ => rfl
    | 1, _ => rfl
    | 2, _ => rfl
    | 3, _ => rfl
    | 4, _ => rfl
    | 5, _ => rfl
    | 6, _ => rfl
    | 7, _ => rfl
    | 8, _ => rfl
    | 9, _ => rfl
    | 10, _ => rfl
    | j + 11, hj => exact absurd hj (by show ¬ j + 11 < 11; omega)
  | 2, 1, _, _ =>
    match j, hj with
    | 0, _ => rfl
    | 1, _ => rfl
    | 2, _ => rfl
    | 3, _ => rfl
    | 4, _ => rfl
    | 5, _ => rfl
    | 6, _ => rfl
    | 7, _ => rfl
    | 8, _ => rfl
    | 9, _ => rfl
    | 10, _ => rfl
    | j + 11, hj => exact absurd hj (by show ¬ j + 11 < 11; omega)
  | 2, 2, _, _ =>
    match j, hj with
    | 0, _ => rfl
    | 1, _ => rfl
    | 2, _ => rfl
    | 3, _ => rfl
    | 4, _ => rfl
    | 5, _ => rfl
    | 6, _ => rfl
    | 7, _ => rfl
    | 8, _ => rfl
    | 9, _ => rfl
    | 10, _ => rfl
    | j + 11, hj => exact absurd hj (by show ¬ j + 11 < 11; omega)
  | 2, 3, _, _ =>
    match j, hj with
    | 0, _ => rfl
    | 1, _ => rfl
    | 2, _ => rfl
    | 3, _ => rfl
    | 4, _ => rfl
    | 5, _ => rfl
    | 6, _ => rfl
    | 7, _ => rfl
    | 8, _ => rfl
    | 9, _ => rfl
    | 10, _ => rfl
    | j + 11, hj => exact absurd hj (by show ¬ j + 11 < 11; omega)
  | 2, 4, _, _ =>
    match j, hj with
    | 0, _ => rfl
    | 1, _ => rfl
    | 2, _ => rfl
    | 3, _ => rfl
    | 4, _ => rfl
    | 5, _ => rfl
    | 6, _ => rfl
    | 7, _ => rfl
    | 8, _ => rfl
    | 9, _ => rfl
    | 10, _ => rfl
    | j + 11, hj => exact absurd hj (by show ¬ j + 11 < 11; omega)
  | 2, 5, _, _ =>
    match j, hj with
    | 0, _ => rfl
    | 1, _ => rfl
    | 2, _ => rfl
    | 3, _ => rfl
    | 4, _ => rfl
    | 5, _ => rfl
    | 6, _ => rfl
    | 7, _ => rfl
    | 8, _ => rfl
    | 9, _ => rfl
    | 10, _ => rfl
    | j + 11, hj => exact absurd hj (by show ¬ j + 11 < 11; omega)
  | 3, 0, _, _ =>
    match j, hj with
    | 0, _ => rfl
    | 1, _ => rfl
    | j + 2, hj => exact absurd hj (by show ¬ j + 2 < 2; omega)
  | 3, 1, _, _ =>
    match j, hj with
    | 0, _ => rfl
    | 1, _ => rfl
    | j + 2, hj => exact absurd hj (by show ¬ j + 2 < 2; omega)
  | 4, 0, _, _ =>
    match j, hj with
    | 0, _ => rfl
    | 1, _ => rfl
    | 2, _ => rfl
    | 3, _ => rfl
    | 4, _ => rfl
    | 5, _ => rfl
    | 6, _ => rfl
    | 7, _ => rfl
    | 8, _ => rfl
    | 9, _ => rfl
    | j + 10, hj => exact absurd hj (by show ¬ j + 10 < 10; omega)
  | 5, 0, _, _ =>
    match j, hj with
    | 0, _ => rfl
    | 1, _ => rfl
    | 2, _ => rfl
    | j + 3, hj => exact absurd hj (by show ¬ j + 3 < 3; omega)
  | 6, 0, _, _ =>
    match j, hj with
    | 0, _ => rfl
    | 1, _ => rfl
    | 2, _ => rfl
    | 3, _ => rfl
    | j + 4, hj => exact absurd hj (by show ¬ j + 4 < 4; omega)
  | 6, 1, _, _ =>
    match j, hj with
    | 0, _ => rfl
    | 1, _ => rfl
    | 2, _ => rfl
    | 3, _ => rfl
    | j + 4, hj => exact absurd hj (by show ¬ j + 4 < 4; omega)
  | 6, 2, _, _ =>
    match j, hj with
    | 0, _ => rfl
    | 1, _ => rfl
    | 2, _ => rfl
    | 3, _ => rfl
    | j + 4, hj => exact absurd hj (by show ¬ j + 4 < 4; omega)
  | 6, 3, _, _ =>
    match j, hj with
    | 0, _ => rfl
    | 1, _ => rfl
    | 2, _ => rfl
    | 3, _ => rfl
    | j + 4, hj => exact absurd hj (by show ¬ j + 4 < 4; omega)
  | 7, 0, _, _ =>
    match j, hj with
    | 0, _ => rfl
    | 1, _ => rfl
    | 2, _ => rfl
    | 3, _ => rfl
    | 4, _ => rfl
    | 5, _ => rfl
    | 6, _ => rfl
    | 7, _ => rfl
    | 8, _ => rfl
    | 9, _ => rfl
    | 10, _ => rfl
    | j + 11, hj => exact absurd hj (by show ¬ j + 11 < 11; omega)
  | 8, 0, _, _ =>
    match j, hj with
    | 0, _ => rfl
    | 1, _ => rfl
    | 2, _ => rfl
    | 3, _ => rfl
    | 4, _ => rfl
    | 5, _ => rfl
    | 6, _ => rfl
    | 7, _ => rfl
    | 8, _ => rfl
    | 9, _ => rfl
    | 10, _ => rfl
    | 11, _ => rfl
    | 12, _ => rfl
    | 13, _ => rfl
    | 14, _ => rfl
    | 15, _ => rfl
    | 16, _ => rfl
    | 17, _ => rfl
    | 18, _ => rfl
    | 19, _ => rfl
    | 20, _ => rfl
    | 21, _ => rfl
    | 22, _ => rfl
    | 23, _ => rfl
    | 24, _ => rfl
    | 25, _ => rfl
    | 26, _ => rfl
    | 27, _ => rfl
    | 28, _ => rfl
    | 29, _ => rfl
    | 30, _ => rfl
    | 31, _ => rfl
    | 32, _ => rfl
    | 33, _ => rfl
    | 34, _ => rfl
    | 35, _ => rfl
    | 36, _ => rfl
    | 37, _ => rfl
    | 38, _ => rfl
    | 39, _ => rfl
    | 40, _ => rfl
    | 41, _ => rfl
    | 42, _ => rfl
    | 43, _ => rfl
    | 44, _ => rfl
    | 45, _ => rfl
    | 46, _ => rfl
    | 47, _ => rfl
    | 48, _ => rfl
    | j + 49, hj => exact absurd hj (by show ¬ j + 49 < 49; omega)
  | 0, i + 2, _, hi => exact absurd hi (by show ¬ i + 2 < 2; omega)
  | 1, i + 4, _, hi => exact absurd hi (by show ¬ i + 4 < 4; omega)
  | 2, i + 6, _, hi => exact absurd hi (by show ¬ i + 6 < 6; omega)
  | 3, i + 2, _, hi => exact absurd hi (by show ¬ i + 2 < 2; omega)
  | 4, i + 1, _, hi => exact absurd hi (by show ¬ i + 1 < 1; omega)
  | 5, i + 1, _, hi => exact absurd hi (by show ¬ i + 1 < 1; omega)
  | 6, i + 4, _, hi => exact absurd hi (by show ¬ i + 4 < 4; omega)
  | 7, i + 1, _, hi => exact absurd hi (by show ¬ i + 1 < 1; omega)
  | 8, i + 1, _, hi => exact absurd hi (by show ¬ i + 1 < 1; omega)
  | K + 9, _, hK, _ => omega
theorem jz_qv (D : va_G) (aT : Nat → ClassId) (HZ : Heap) (adK adV : Nat → Nat) (K i : Nat) (hK : K < 59) (h3 : (jm_el K).1 = 3) (hi : i < jm_cnt K) (j : Nat) (hj : j < jm_ln K) : va_rf (jz_qar HZ.size K i j) = jm_av (jz_G D aT HZ adK adV) jz_h K i j := by
  have key : ∀ K, K < 59 → (jm_el K).1 = 3 → K = 20 ∨ K = 28 ∨ K = 32 := by decide +kernel
  rcases key K hK h3 with rfl | rfl | rfl
  · have hj24 : j < 24 := hj
    have hp : ∀ i, i < 4 → ∀ j, j < 24 → jz_pos 21 (24 * i + j) = jz_pos 20 i + 1 + j := by decide +kernel
    have hi4 : i < 4 := hi
    have e1 : jm_av (jz_G D aT HZ adK adV) jz_h 20 i j = .ref (HZ.size + jz_pos 21 (24 * i + j)) := rfl
    rw [e1, hp i hi4 j hj24]
    match i, hi4 with
    | 0, _ =>
      show va_rf (if j < 24 then some (HZ.size + 60 + 1 + j) else none) = .ref (HZ.size + (60 + 1 + j))
      rw [if_pos hj24, ← Nat.add_assoc, ← Nat.add_assoc]
      rfl
    | 1, _ =>
      show va_rf (if j < 24 then some (HZ.size + 95 + 1 + j) else none) = .ref (HZ.size + (95 + 1 + j))
      rw [if_pos hj24, ← Nat.add_assoc, ← Nat.add_assoc]
      rfl
    | 2, _ =>
      show va_rf (if j < 24 then some (HZ.size + 130 + 1 + j) else none) = .ref (HZ.size + (130 + 1 + j))
      rw [if_pos hj24, ← Nat.add_assoc, ← Nat.add_assoc]
      rfl
    | 3, _ =>
      show va_rf (if j < 24 then some (HZ.size + 165 + 1 + j) else none) = .ref (HZ.size + (165 + 1 + j))
      rw [if_pos hj24, ← Nat.add_assoc, ← Nat.add_assoc]
      rfl
  · have hi2 : i < 2 := hi
    have hj3 : j < 3 := hj
    match i, hi2, j, hj3 with
    | 0, _, 0, _ => rfl
    | 0, _, 1, _ => rfl
    | 0, _, 2, _ => rfl
    | 1, _, 0, _ => rfl
    | 1, _, 1, _ => rfl
    | 1, _, 2, _ => rfl
  · have hi1 : i < 1 := hi
    have hj3 : j < 3 := hj
    match i, hi1, j, hj3 with
    | 0, _, 0, _ => rfl
    | 0, _, 1, _ => rfl
    | 0, _, 2, _ => rfl
theorem jz_arrV {c n : Nat} {f g : Nat → Value} (h : ∀ j, j < n → f j = g j) : arrV c n f = arrV c n g := by
  unfold arrV
  congr 1
  apply Array.ext
  · simp
  · intro i h1 h2
    simp only [Array.getElem_ofFn]
    exact h i (by simpa using h1)
theorem jz_at_ok : ∀ K, K < 59 → 9 < K → (if (jm_el K).1 = 3 then jz_at K = (if K = 20 then 5 else if K = 28 then 3 else 4) else jz_at K = (jm_el K).1) ∧ (jm_el K).1 ≤ 3 := by decide +kernel
theorem jz_hI : ∀ K i j : Nat, 9 < K → jz_h.1 K i j = 0 := fun K i j h => by
  show (if K = 0 ∧ 7 ≤ j then (-2 : Int32) else if K = 7 ∧ j = 10 then -1 else if K = 8 ∧ j = 3 then -1 else 0) = 0
  rw [if_neg (by omega), if_neg (by omega), if_neg (by omega)]
/-- the blocks are the first heap -/
theorem jz_rel {D : va_G} {aT : Nat → ClassId} {HZ H : Heap} {adK adV : Nat → Nat} (hB : jn_B D HZ.size (jz_all aT HZ.size) H) (ho : ∀ q : Nat, q < HZ.size → H[q]? = HZ[q]?) : jm_Rel (jz_G D aT HZ adK adV) jz_h H := by
  refine ⟨fun K i hK hi => ?_, ho, fun K i j h2 hi => ?_⟩
  · have hc := jz_code K hK i hi
    have he : (jz_all aT HZ.size)[jz_pos K i]? = some (jz_dec aT HZ.size (if K < 9 then (3, K, i) else if (jm_el K).1 = 3 then (4, K, i) else ((jm_el K).1, jm_ln K, 0))) := by
      rw [jz_all_eq, List.getElem?_map, hc]
      rfl
    have hat := hB.2 _ _ he
    have hG : (jz_G D aT HZ adK adV).1 K i = HZ.size + jz_pos K i := if_pos hK
    unfold jm_at
    rw [hG]
    by_cases h9 : K < 9
    · rw [if_pos h9] at hat ⊢
      obtain ⟨r, h1, h2⟩ := hat
      have hnf := (jm_cf h1).2.2.2.2
      have h2' : t_OB (HZ.size + jz_pos K i) (D.1 K) r.2.2 (D.2 K) H (vp_V (jz_obj HZ.size K i)) := h2
      rw [← hnf] at h2'
      exact h2'.to (jz_fv D aT HZ adK adV K i h9 hi)
    · rw [if_neg h9] at hat ⊢
      have h10 : 9 < K := by
        have : ∀ K, K < 59 → ¬ K < 9 → 0 < jm_cnt K → 9 < K := by decide +kernel
        exact this K hK h9 (by omega)
      obtain ⟨ha, hle⟩ := jz_at_ok K hK h10
      by_cases h3 : (jm_el K).1 = 3
      · rw [if_pos h3] at hat ha
        have hat' : H[HZ.size + jz_pos K i]? = some (vp_cell (aT (if K = 20 then 5 else if K = 28 then 3 else 4)) (jm_ln K, .inr (.inr (.inr (.inr (jz_qar HZ.size K i)))))) := hat
        rw [hat', vp_cell_q, ← ha]
        exact congrArg some (jz_arrV (fun j hj => jz_qv D aT HZ adK adV K i hK h3 hi j hj))
      · rw [if_neg h3] at hat ha
        have hav : ∀ j, (jm_el K).1 ≠ 2 → jm_av (jz_G D aT HZ adK adV) jz_h K i j = .int 0 := fun j hn => by
          unfold jm_av
          split
          · exact absurd (by assumption) hn
          · exact absurd (by assumption) h3
          · rw [jz_hI K i j h10]
        have hcls : (jz_G D aT HZ adK adV).2.2.1 K = aT (jm_el K).1 := congrArg aT ha
        rw [hcls]
        rcases (show (jm_el K).1 = 0 ∨ (jm_el K).1 = 1 ∨ (jm_el K).1 = 2 by omega) with e0 | e0 | e0
        · rw [e0] at hat ⊢
          have hat' : H[HZ.size + jz_pos K i]? = some (vp_cell (aT 0) (jm_ln K, .inl (fun _ => 0))) := hat
          rw [hat', vp_cell_i]
          exact congrArg some (jz_arrV (fun j _ => (hav j (by omega)).symm))
        · rw [e0] at hat ⊢
          have hat' : H[HZ.size + jz_pos K i]? = some (vp_cell (aT 1) (jm_ln K, .inl (fun _ => 0))) := hat
          rw [hat', vp_cell_i]
          exact congrArg some (jz_arrV (fun j _ => (hav j (by omega)).symm))
        · have hav2 : ∀ j, jm_av (jz_G D aT HZ adK adV) jz_h K i j = .long 0 := fun j => by
            unfold jm_av
            rw [e0]
            show Value.long (if j = 0 then 0 else 0) = _
            rw [ite_self]
          rw [e0] at hat ⊢
          have hat' : H[HZ.size + jz_pos K i]? = some (vp_cell (aT 2) (jm_ln K, .inr (.inl (fun _ => 0)))) := hat
          rw [hat', vp_cell_l]
          exact congrArg some (jz_arrV (fun j _ => (hav2 j).symm))
  · have hK : K < 9 := by
      rcases Nat.lt_or_ge K 9 with h | h
      · exact h
      · exfalso
        obtain ⟨n, rfl⟩ : ∃ n, K = n + 9 := ⟨K - 9, by omega⟩
        exact absurd (show (9 : Nat) = 2 from h2) (by decide)
    have key : ∀ K, K < 9 → ∀ j, j < 50 → (jm_ft K j).1 = 2 → (K = 7 ∧ j = 1) ∨ (K = 4 ∧ j = 9) := by decide +kernel
    have hj : j < 50 := by
      rcases Nat.lt_or_ge j 50 with h | h
      · exact h
      · exfalso
        obtain ⟨n, rfl⟩ : ∃ n, j = n + 50 := ⟨j - 50, by omega⟩
        match K, hK with
        | 0, _ => exact absurd (show (9 : Nat) = 2 from h2) (by decide)
        | 1, _ => exact absurd (show (9 : Nat) = 2 from h2) (by decide)
        | 2, _ => exact absurd (show (9 : Nat) = 2 from h2) (by decide)
        | 3, _ => exact absurd (show (9 : Nat) = 2 from h2) (by decide)
        | 4, _ => exact absurd (show (9 : Nat) = 2 from h2) (by decide)
        | 5, _ => exact absurd (show (9 : Nat) = 2 from h2) (by decide)
        | 6, _ => exact absurd (show (9 : Nat) = 2 from h2) (by decide)
        | 7, _ => exact absurd (show (9 : Nat) = 2 from h2) (by decide)
        | 8, _ => exact absurd (show (9 : Nat) = 2 from h2) (by decide)
    rcases key K hK j hj h2 with ⟨rfl, rfl⟩ | ⟨rfl, rfl⟩
    · exact (by decide : (0 : Nat) < 2)
    · exact (by decide : (1 : Nat) < 2)
theorem jz_amb {D : va_G} {aT : Nat → ClassId} {HZ : Heap} {adK adV : Nat → Nat} : jm_Amb (jz_G D aT HZ adK adV) := by
  have hG : ∀ K i : Nat, K < 59 → (jz_G D aT HZ adK adV).1 K i = HZ.size + jz_pos K i := fun K i h => if_pos h
  refine ⟨fun K i K' i' hK hK' hi hi' e => ?_, fun K i hK hi => ?_⟩
  · rw [hG K i hK, hG K' i' hK'] at e
    exact jz_inj K hK i hi K' hK' i' hi' (by omega)
  · rw [hG K i hK]
    exact Nat.le_add_right _ _
