/-! Part 20: pure parts begin. Small whole numbers as Int32 (I z); arrays read and written -/
def I (z : Int) : Int32 := Int32.ofInt z
theorem I_add (z w : Int) : I z + I w = I (z + w) := (Int32.ofInt_add z w).symm
theorem I_sub (z w : Int) : I z - I w = I (z - w) := (Int32.ofInt_sub z w).symm
theorem I_mul (z w : Int) : I z * I w = I (z * w) := (Int32.ofInt_mul z w).symm
theorem I_neg (z : Int) : -I z = I (-z) := (Int32.ofInt_neg z).symm
theorem I_of (x : Int32) : I x.toInt = x := Int32.ofInt_toInt x
theorem I_to {z : Int} (h : -2147483648 ≤ z) (h2 : z < 2147483648) : (I z).toInt = z := Int32.toInt_ofInt_of_le h h2
theorem I_lt {z w : Int} (h : -2147483648 ≤ z) (h2 : z < 2147483648) (h3 : -2147483648 ≤ w) (h4 : w < 2147483648) : (I z < I w) = (z < w) := by
  rw [Int32.lt_iff_toInt_lt, I_to h h2, I_to h3 h4]
theorem I_le {z w : Int} (h : -2147483648 ≤ z) (h2 : z < 2147483648) (h3 : -2147483648 ≤ w) (h4 : w < 2147483648) : (I z ≤ I w) = (z ≤ w) := by
  rw [Int32.le_iff_toInt_le, I_to h h2, I_to h3 h4]
theorem I_eq {z w : Int} (h : -2147483648 ≤ z) (h2 : z < 2147483648) (h3 : -2147483648 ≤ w) (h4 : w < 2147483648) : (I z = I w) = (z = w) := by
  rw [← Int32.toInt_inj, I_to h h2, I_to h3 h4]
theorem I_ix {z : Int} (h : -2147483648 ≤ z) (h2 : z < 2147483648) : ix (I z) = z.toNat := by
  show (I z).toInt.toNat = _
  rw [I_to h h2]
theorem I_inb {z : Int} {n : Nat} (h : -2147483648 ≤ z) (h2 : z < 2147483648) : inb (I z) n = (0 ≤ z ∧ z < n) := by
  show ((0 ≤ (I z).toInt) ∧ (I z).toInt < n) = _
  rw [I_to h h2]
theorem I_nat (n : Nat) : Int32.ofNat n = I n := rfl
theorem I_m20 : (-20 : Int32) = I (-20) := rfl
theorem I_m9 : (-9 : Int32) = I (-9) := rfl
theorem I_m6 : (-6 : Int32) = I (-6) := rfl
theorem I_m4 : (-4 : Int32) = I (-4) := rfl
theorem I_m3 : (-3 : Int32) = I (-3) := rfl
theorem I_m2 : (-2 : Int32) = I (-2) := rfl
theorem I_m1 : (-1 : Int32) = I (-1) := rfl
theorem I_0 : (0 : Int32) = I 0 := rfl
theorem I_1 : (1 : Int32) = I 1 := rfl
theorem I_2 : (2 : Int32) = I 2 := rfl
theorem I_3 : (3 : Int32) = I 3 := rfl
theorem I_4 : (4 : Int32) = I 4 := rfl
theorem I_5 : (5 : Int32) = I 5 := rfl
theorem I_6 : (6 : Int32) = I 6 := rfl
theorem I_7 : (7 : Int32) = I 7 := rfl
theorem I_8 : (8 : Int32) = I 8 := rfl
theorem I_9 : (9 : Int32) = I 9 := rfl
theorem I_10 : (10 : Int32) = I 10 := rfl
theorem I_14 : (14 : Int32) = I 14 := rfl
theorem I_18 : (18 : Int32) = I 18 := rfl
theorem I_20 : (20 : Int32) = I 20 := rfl
theorem I_24 : (24 : Int32) = I 24 := rfl
theorem I_30 : (30 : Int32) = I 30 := rfl
theorem I_31 : (31 : Int32) = I 31 := rfl
theorem I_55 : (55 : Int32) = I 55 := rfl
theorem I_56 : (56 : Int32) = I 56 := rfl
theorem I_1000 : (1000 : Int32) = I 1000 := rfl
theorem I_1023 : (1023 : Int32) = I 1023 := rfl
/-- every int is one -/
theorem I_ex (x : Int32) : ∃ z : Int, -2147483648 ≤ z ∧ z < 2147483648 ∧ x = I z := ⟨x.toInt, Int32.le_toInt x, Int32.toInt_lt x, (I_of x).symm⟩
theorem I_exB {x : Int32} {a b : Int} (h : a ≤ x.toInt) (h2 : x.toInt ≤ b) : ∃ z : Int, a ≤ z ∧ z ≤ b ∧ x = I z := ⟨x.toInt, h, h2, (I_of x).symm⟩
-- memory
theorem seI_1 {M : Mem} {k i a b : Nat} {v : Int32} : (seI M k i v).1 a b = if a = k ∧ b = i then v else M.1 a b := rfl
theorem seI_2 {M : Mem} {k i : Nat} {v : Int32} : (seI M k i v).2 = M.2 := rfl
theorem seL_1 {M : Mem} {k i : Nat} {v : Int64} : (seL M k i v).1 = M.1 := rfl
theorem seL_2 {M : Mem} {k i a b : Nat} {v : Int64} : (seL M k i v).2 a b = if a = k ∧ b = i then v else M.2 a b := rfl
theorem seI_ne {M : Mem} {k i a : Nat} {v : Int32} (h : a ≠ k) : (seI M k i v).1 a = M.1 a := by funext b; simp [seI_1, h]
theorem seL_ne {M : Mem} {k i a : Nat} {v : Int64} (h : a ≠ k) : (seL M k i v).2 a = M.2 a := by funext b; simp [seL_2, h]
theorem at_in {sh : Nat → Shp} {N k n : Nat} {M : Mem} {z : Int} (hk : iaL sh k = some n) (hn : n ≤ 2000) (h0 : 0 ≤ z) (h1 : z < n) : f_X6_at sh N M k (I z) = some (M.1 k z.toNat, M) := by
  unfold f_X6_at
  simp (disch := omega) only [bd, ck, hk, I_0, I_nat, I_lt, I_le, I_inb, I_ix]
  simp [h0, h1, show ¬ z < 0 by omega, show ¬ (n : Int) ≤ z by omega]
theorem at_out {sh : Nat → Shp} {N k n : Nat} {M : Mem} {z : Int} (hk : iaL sh k = some n) (hn : n ≤ 2000) (hz : -2147483648 ≤ z) (hz2 : z < 2147483648) (h : z < 0 ∨ n ≤ z) : f_X6_at sh N M k (I z) = some (0, M) := by
  unfold f_X6_at
  simp (disch := omega) only [bd, ck, hk, I_0, I_nat, I_lt, I_le]
  by_cases h0 : z < 0
  · simp [h0]
  · simp [h0, show (n : Int) ≤ z by omega]
theorem put_in {sh : Nat → Shp} {N k n : Nat} {M : Mem} {z : Int} {v : Int32} (hk : iaL sh k = some n) (hk2 : k < 45) (hn : n ≤ 2000) (h0 : 0 ≤ z) (h1 : z < n) : f_X6_put sh N M k (I z) v = some (seI M k z.toNat v) := by
  unfold f_X6_put
  simp (disch := omega) only [bd, ck, nm, hk, I_0, I_nat, I_lt, I_le, I_inb, I_ix]
  simp [h0, h1, hk2, show ¬ z < 0 by omega, show ¬ (n : Int) ≤ z by omega]
theorem put_out {sh : Nat → Shp} {N k n : Nat} {M : Mem} {z : Int} {v : Int32} (hk : iaL sh k = some n) (hn : n ≤ 2000) (hz : -2147483648 ≤ z) (hz2 : z < 2147483648) (h : z < 0 ∨ n ≤ z) : f_X6_put sh N M k (I z) v = some M := by
  unfold f_X6_put
  simp (disch := omega) only [bd, ck, nm, hk, I_0, I_nat, I_lt, I_le]
  by_cases h0 : z < 0
  · simp [h0]
  · simp [h0, show (n : Int) ≤ z by omega]
theorem pat_in {sh : Nat → Shp} {N k n : Nat} {M : Mem} {z : Int} (hk : laL sh k = some n) (hn : n ≤ 2000) (h0 : 0 ≤ z) (h1 : z < n) : f_X6_placeAt sh N M k (I z) = some (M.2 k z.toNat, M) := by
  unfold f_X6_placeAt
  simp (disch := omega) only [bd, ck, hk, I_0, I_nat, I_lt, I_le, I_inb, I_ix]
  simp [h0, h1, show ¬ z < 0 by omega, show ¬ (n : Int) ≤ z by omega]
theorem pput_in {sh : Nat → Shp} {N k n : Nat} {M : Mem} {z : Int} {v : Int64} (hk : laL sh k = some n) (hn : n ≤ 2000) (h0 : 0 ≤ z) (h1 : z < n) : f_X6_putPlace sh N M k (I z) v = some (seL M k z.toNat v) := by
  unfold f_X6_putPlace
  simp (disch := omega) only [bd, ck, nm, hk, I_0, I_nat, I_lt, I_le, I_inb, I_ix]
  simp [h0, h1, show ¬ z < 0 by omega, show ¬ (n : Int) ≤ z by omega]
theorem xref (N : Nat) (M : Mem) {j : Nat} (h1 : 1 ≤ j) (h2 : j < 7) : f_X6_refuse N M (I (-(j : Int))) = some (I (-(j : Int)), seI M 33 j (M.1 33 j + 1)) := by
  rcases (show j = 1 ∨ j = 2 ∨ j = 3 ∨ j = 4 ∨ j = 5 ∨ j = 6 by omega) with rfl | rfl | rfl | rfl | rfl | rfl <;> rfl
theorem mref (N : Nat) (M : Mem) {j : Nat} (h1 : 1 ≤ j) (h2 : j < 7) : f_X7_refuse N M (I (-(j : Int))) = some (I (-(j : Int)), seI M 35 j (M.1 35 j + 1)) := by
  rcases (show j = 1 ∨ j = 2 ∨ j = 3 ∨ j = 4 ∨ j = 5 ∨ j = 6 by omega) with rfl | rfl | rfl | rfl | rfl | rfl <;> rfl
