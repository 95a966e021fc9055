/-! Part 21: places as longs: four parts, 16 bits apart -/
def J (z : Int) : Int64 := Int64.ofInt z
theorem J_add (z w : Int) : J z + J w = J (z + w) := (Int64.ofInt_add z w).symm
theorem J_sub (z w : Int) : J z - J w = J (z - w) := (Int64.ofInt_sub z w).symm
theorem J_mul (z w : Int) : J z * J w = J (z * w) := (Int64.ofInt_mul z w).symm
theorem J_neg (z : Int) : -J z = J (-z) := (Int64.ofInt_neg z).symm
theorem J_of (x : Int64) : J x.toInt = x := Int64.ofInt_toInt x
theorem J_to {z : Int} (h : -9223372036854775808 ≤ z) (h2 : z < 9223372036854775808) : (J z).toInt = z := Int64.toInt_ofInt_of_le h h2
theorem J_eq {z w : Int} (h : -9223372036854775808 ≤ z) (h2 : z < 9223372036854775808) (h3 : -9223372036854775808 ≤ w) (h4 : w < 9223372036854775808) : (J z = J w) = (z = w) := by
  rw [← Int64.toInt_inj, J_to h h2, J_to h3 h4]
theorem J_lt {z w : Int} (h : -9223372036854775808 ≤ z) (h2 : z < 9223372036854775808) (h3 : -9223372036854775808 ≤ w) (h4 : w < 9223372036854775808) : (J z < J w) = (z < w) := by
  rw [Int64.lt_iff_toInt_lt, J_to h h2, J_to h3 h4]
theorem J_le {z w : Int} (h : -9223372036854775808 ≤ z) (h2 : z < 9223372036854775808) (h3 : -9223372036854775808 ≤ w) (h4 : w < 9223372036854775808) : (J z ≤ J w) = (z ≤ w) := by
  rw [Int64.le_iff_toInt_le, J_to h h2, J_to h3 h4]
theorem J_0 : (0 : Int64) = J 0 := rfl
theorem J_1 : (1 : Int64) = J 1 := rfl
theorem J_2 : (2 : Int64) = J 2 := rfl
theorem IJ {z : Int} (h : -2147483648 ≤ z) (h2 : z < 2147483648) : Int32.toInt64 (I z) = J z := by
  rw [← Int64.toInt_inj, Int32.toInt_toInt64, I_to h h2, J_to (by omega) (by omega)]
theorem JI {z : Int} (h : -2147483648 ≤ z) (h2 : z < 2147483648) : Int64.toInt32 (J z) = I z := by
  rw [← Int32.toInt_inj, Int64.toInt_toInt32, I_to h h2, J_to (by omega) (by omega)]
  exact Int.bmod_eq_of_le (by omega) (by omega)
theorem shK (k : Nat) (y : Int32) (h : ((Int32.toInt64 y &&& 63 : Int64).toBitVec.smod 64).toNat = k) (c : Int) (hc : BitVec.twoPow 64 k = BitVec.ofInt 64 c) (z : Int) : shl64 (J z) y = J (z * c) := by
  unfold shl64 J
  apply Int64.toBitVec.inj
  rw [Int64.toBitVec_shiftLeft, BitVec.shiftLeft_eq', h, BitVec.shiftLeft_eq_mul_twoPow, hc, Int64.toBitVec_ofInt, Int64.toBitVec_ofInt, BitVec.ofInt_mul]
theorem sh48 (z : Int) : shl64 (J z) 48 = J (z * 281474976710656) := shK 48 48 (by decide +kernel) _ (by decide +kernel) z
theorem sh32 (z : Int) : shl64 (J z) 32 = J (z * 4294967296) := shK 32 32 (by decide +kernel) _ (by decide +kernel) z
theorem sh16 (z : Int) : shl64 (J z) 16 = J (z * 65536) := shK 16 16 (by decide +kernel) _ (by decide +kernel) z
theorem shr16 {z : Int} (h : -9223372036854775808 ≤ z) (h2 : z < 9223372036854775808) : shr64 (J z) 16 = J (z / 65536) := by
  unfold shr64
  rw [← Int64.toInt_inj, J_to (by omega) (by omega)]
  show ((J z) >>> (Int32.toInt64 16 &&& 63 : Int64)).toBitVec.toInt = _
  rw [Int64.toBitVec_shiftRight, BitVec.sshiftRight_eq', show ((Int32.toInt64 16 &&& 63 : Int64).toBitVec.smod 64).toNat = 16 by decide +kernel, BitVec.toInt_sshiftRight, Int.shiftRight_eq_div_pow]
  have e : (J z).toBitVec.toInt = z := J_to h h2
  rw [e]
  rfl
/-- four parts in one number -/
def pk (a b c d : Int) : Int := a * 281474976710656 + b * 4294967296 + c * 65536 + d
theorem pk_add (a b c d a' b' c' d' : Int) : pk a b c d + pk a' b' c' d' = pk (a + a') (b + b') (c + c') (d + d') := by unfold pk; omega
theorem pk_neg (a b c d : Int) : -pk a b c d = pk (-a) (-b) (-c) (-d) := by unfold pk; omega
theorem pk_bd {a b c d : Int} (ha : -30000 ≤ a ∧ a ≤ 30000) (hb : -30000 ≤ b ∧ b ≤ 30000) (hc : -30000 ≤ c ∧ c ≤ 30000) (hd : -30000 ≤ d ∧ d ≤ 30000) : -9000000000000000000 ≤ pk a b c d ∧ pk a b c d ≤ 9000000000000000000 := by unfold pk; omega
theorem pk_inj {a b c d a' b' c' d' : Int} (hb : -16000 ≤ b ∧ b ≤ 16000) (hc : -16000 ≤ c ∧ c ≤ 16000) (hd : -16000 ≤ d ∧ d ≤ 16000) (hb' : -16000 ≤ b' ∧ b' ≤ 16000) (hc' : -16000 ≤ c' ∧ c' ≤ 16000) (hd' : -16000 ≤ d' ∧ d' ≤ 16000) (h : pk a b c d = pk a' b' c' d') : a = a' ∧ b = b' ∧ c = c' ∧ d = d' := by unfold pk at h; omega
theorem xplace (N : Nat) (M : Mem) (a b c d : Int) : f_X2_place N M (J a) (J b) (J c) (J d) = some (J (pk a b c d), M) := by
  unfold f_X2_place
  rw [sh48, sh32, sh16, J_add, J_add, J_add]
  rfl
/-- the lowest part -/
theorem lowp {z d : Int} (h : -9223372036854775808 ≤ z) (h2 : z < 9223372036854775808) (hd : -30000 ≤ d ∧ d ≤ 30000) (hz : ∃ q, z = q * 65536 + d) : Int16.toInt32 (Int32.toInt16 (Int64.toInt32 (J z))) = I d := by
  rw [← Int32.toInt_inj, Int16.toInt_toInt32, Int32.toInt_toInt16, Int64.toInt_toInt32, J_to h h2, I_to (by omega) (by omega)]
  obtain ⟨q, rfl⟩ := hz
  rw [Int.bmod_def, Int.bmod_def]
  split <;> split <;> omega
theorem part_stop {N n : Nat} {M : Mem} {v2 v5 : Int32} {v3 : Int64} (h : v5 ≤ v2) : l_X2_part_5 N (n + 1) M v2 v3 v5 = some (Int16.toInt32 (Int32.toInt16 (Int64.toInt32 v3)), M) := by rw [l_X2_part_5, if_pos h]
theorem part_go {N n : Nat} {M : Mem} {v2 v5 d : Int32} {v3 w : Int64} (h : ¬ v5 ≤ v2) (hd : Int16.toInt32 (Int32.toInt16 (Int64.toInt32 v3)) = d) (hw : shr64 (v3 - Int32.toInt64 d) 16 = w) : l_X2_part_5 N (n + 1) M v2 v3 v5 = l_X2_part_5 N n M v2 w (v5 + (-1)) := by
  rw [l_X2_part_5, if_neg h, hd, hw]
  rfl
theorem part_all {N n : Nat} {M : Mem} {a b c d : Int} (ha : -16000 ≤ a ∧ a ≤ 16000) (hb : -16000 ≤ b ∧ b ≤ 16000) (hc : -16000 ≤ c ∧ c ≤ 16000) (hd : -16000 ≤ d ∧ d ≤ 16000) :
    l_X2_part_5 N (n + 4) M 0 (J (pk a b c d)) 3 = some (I a, M) ∧ l_X2_part_5 N (n + 4) M 1 (J (pk a b c d)) 3 = some (I b, M) ∧ l_X2_part_5 N (n + 4) M 2 (J (pk a b c d)) 3 = some (I c, M) ∧ l_X2_part_5 N (n + 4) M 3 (J (pk a b c d)) 3 = some (I d, M) := by
  have l3 : Int16.toInt32 (Int32.toInt16 (Int64.toInt32 (J (pk a b c d)))) = I d := lowp (by unfold pk; omega) (by unfold pk; omega) (by omega) ⟨a * 4294967296 + b * 65536 + c, by unfold pk; omega⟩
  have s3 : shr64 (J (pk a b c d) - Int32.toInt64 (I d)) 16 = J (a * 4294967296 + b * 65536 + c) := by
    rw [IJ (by omega) (by omega), J_sub, shr16 (by unfold pk; omega) (by unfold pk; omega)]
    congr 1
    unfold pk; omega
  have l2 : Int16.toInt32 (Int32.toInt16 (Int64.toInt32 (J (a * 4294967296 + b * 65536 + c)))) = I c := lowp (by omega) (by omega) (by omega) ⟨a * 65536 + b, by omega⟩
  have s2 : shr64 (J (a * 4294967296 + b * 65536 + c) - Int32.toInt64 (I c)) 16 = J (a * 65536 + b) := by
    rw [IJ (by omega) (by omega), J_sub, shr16 (by omega) (by omega)]
    congr 1
    omega
  have l1 : Int16.toInt32 (Int32.toInt16 (Int64.toInt32 (J (a * 65536 + b)))) = I b := lowp (by omega) (by omega) (by omega) ⟨a, by omega⟩
  have s1 : shr64 (J (a * 65536 + b) - Int32.toInt64 (I b)) 16 = J a := by
    rw [IJ (by omega) (by omega), J_sub, shr16 (by omega) (by omega)]
    congr 1
    omega
  have l0 : Int16.toInt32 (Int32.toInt16 (Int64.toInt32 (J a))) = I a := lowp (by omega) (by omega) (by omega) ⟨0, by omega⟩
  generalize pk a b c d = z at *
  generalize a * 4294967296 + b * 65536 + c = z2 at *
  generalize a * 65536 + b = z1 at *
  have e32 : (3 : Int32) + (-1) = 2 := by decide
  have e21 : (2 : Int32) + (-1) = 1 := by decide
  have e10 : (1 : Int32) + (-1) = 0 := by decide
  refine ⟨?_, ?_, ?_, ?_⟩
  · rw [part_go (by decide) l3 s3, e32, part_go (by decide) l2 s2, e21, part_go (by decide) l1 s1, e10, part_stop (by decide), l0]
  · rw [part_go (by decide) l3 s3, e32, part_go (by decide) l2 s2, e21, part_stop (by decide), l1]
  · rw [part_go (by decide) l3 s3, e32, part_stop (by decide), l2]
  · rw [part_stop (by decide), l3]
theorem xpart {N : Nat} {M : Mem} {a b c d : Int} (hN : 10 ≤ N) (ha : -16000 ≤ a ∧ a ≤ 16000) (hb : -16000 ≤ b ∧ b ≤ 16000) (hc : -16000 ≤ c ∧ c ≤ 16000) (hd : -16000 ≤ d ∧ d ≤ 16000) :
    f_X2_part N M (J (pk a b c d)) 0 = some (I a, M) ∧ f_X2_part N M (J (pk a b c d)) 1 = some (I b, M) ∧ f_X2_part N M (J (pk a b c d)) 2 = some (I c, M) ∧ f_X2_part N M (J (pk a b c d)) 3 = some (I d, M) := by
  obtain ⟨n, rfl⟩ : ∃ n, N = n + 4 := ⟨N - 4, by omega⟩
  exact part_all ha hb hc hd
