/-! Part 38: bytes; feed -/
theorem and255_64 (a : Int64) : (a &&& 255).toInt = a.toInt % 256 := by
  have h : (a &&& 255).toBitVec.toNat = a.toBitVec.toNat % 256 := by
    rw [Int64.toBitVec_and, BitVec.toNat_and]
    exact Nat.and_two_pow_sub_one_eq_mod _ 8
  show (a &&& 255).toBitVec.toInt = a.toBitVec.toInt % 256
  rw [BitVec.toInt_eq_toNat_bmod, BitVec.toInt_eq_toNat_bmod, h, Int.bmod_def, Int.bmod_def]
  have := a.toBitVec.isLt
  split <;> split <;> omega
theorem and255_32 (a : Int32) : (a &&& 255).toInt = a.toInt % 256 := by
  have h : (a &&& 255).toBitVec.toNat = a.toBitVec.toNat % 256 := by
    rw [Int32.toBitVec_and, BitVec.toNat_and]
    exact Nat.and_two_pow_sub_one_eq_mod _ 8
  show (a &&& 255).toBitVec.toInt = a.toBitVec.toInt % 256
  rw [BitVec.toInt_eq_toNat_bmod, BitVec.toInt_eq_toNat_bmod, h, Int.bmod_def, Int.bmod_def]
  have := a.toBitVec.isLt
  split <;> split <;> omega
theorem ushr_n (x : Int64) (y : Int32) (k : Nat) (h : ((y.toInt64.toUInt64 &&& Int64.toUInt64 63).toBitVec % 64).toNat = k) : (ushr64 x y).toBitVec.toNat = x.toBitVec.toNat / 2 ^ k := by
  unfold ushr64
  show (x.toUInt64 >>> (y.toInt64.toUInt64 &&& Int64.toUInt64 63)).toBitVec.toNat = _
  rw [UInt64.toBitVec_shiftRight, BitVec.ushiftRight_eq', h, BitVec.toNat_ushiftRight, Nat.shiftRight_eq_div_pow]
  rfl
theorem sshr_n (x : Int64) (y : Int32) (k : Nat) (h : ((Int32.toInt64 y &&& 63 : Int64).toBitVec.smod 64).toNat = k) : (shr64 x y).toInt = x.toInt / (2 ^ k : Nat) := by
  unfold shr64
  show (x >>> (Int32.toInt64 y &&& 63 : Int64)).toBitVec.toInt = _
  rw [Int64.toBitVec_shiftRight, BitVec.sshiftRight_eq', h, BitVec.toInt_sshiftRight, Int.shiftRight_eq_div_pow]
  rfl
theorem byteq (x : Int64) (i : Nat) (hi : i < 8) : (Int64.toInt32 (ushr64 x (I (8 * i : Nat))) &&& 255) = Int64.toInt32 (shr64 x (I (8 * i : Nat)) &&& 255) := by
  have hlt := x.toBitVec.isLt
  have hx : x.toInt = (x.toBitVec.toNat : Int).bmod (2 ^ 64) := BitVec.toInt_eq_toNat_bmod x.toBitVec
  rw [← Int32.toInt_inj, and255_32, Int64.toInt_toInt32, Int64.toInt_toInt32, and255_64]
  have hu : ∀ k, (ushr64 x (I (8 * i : Nat))).toBitVec.toNat = x.toBitVec.toNat / 2 ^ k → (ushr64 x (I (8 * i : Nat))).toInt = ((x.toBitVec.toNat / 2 ^ k : Nat) : Int).bmod (2 ^ 64) := by
    intro k hk
    rw [← hk]
    exact BitVec.toInt_eq_toNat_bmod _
  rcases (show i = 0 ∨ i = 1 ∨ i = 2 ∨ i = 3 ∨ i = 4 ∨ i = 5 ∨ i = 6 ∨ i = 7 by omega) with rfl | rfl | rfl | rfl | rfl | rfl | rfl | rfl
  · have h1 := hu 0 (ushr_n x (I (8 * 0 : Nat)) 0 (by decide +kernel))
    have h2 := sshr_n x (I (8 * 0 : Nat)) 0 (by decide +kernel)
    rw [h1, h2, hx]
    clear h1 h2 hx hu
    generalize x.toBitVec.toNat = X at hlt ⊢
    simp only [Int.bmod_def, Nat.reducePow, Int.reducePow]
    repeat' split
    all_goals omega
  · have h1 := hu 8 (ushr_n x (I (8 * 1 : Nat)) 8 (by decide +kernel))
    have h2 := sshr_n x (I (8 * 1 : Nat)) 8 (by decide +kernel)
    rw [h1, h2, hx]
    clear h1 h2 hx hu
    generalize x.toBitVec.toNat = X at hlt ⊢
    simp only [Int.bmod_def, Nat.reducePow, Int.reducePow]
    repeat' split
    all_goals omega
  · have h1 := hu 16 (ushr_n x (I (8 * 2 : Nat)) 16 (by decide +kernel))
    have h2 := sshr_n x (I (8 * 2 : Nat)) 16 (by decide +kernel)
    rw [h1, h2, hx]
    clear h1 h2 hx hu
    generalize x.toBitVec.toNat = X at hlt ⊢
    simp only [Int.bmod_def, Nat.reducePow, Int.reducePow]
    repeat' split
    all_goals omega
  · have h1 := hu 24 (ushr_n x (I (8 * 3 : Nat)) 24 (by decide +kernel))
    have h2 := sshr_n x (I (8 * 3 : Nat)) 24 (by decide +kernel)
    rw [h1, h2, hx]
    clear h1 h2 hx hu
    generalize x.toBitVec.toNat = X at hlt ⊢
    simp only [Int.bmod_def, Nat.reducePow, Int.reducePow]
    repeat' split
    all_goals omega
  · have h1 := hu 32 (ushr_n x (I (8 * 4 : Nat)) 32 (by decide +kernel))
    have h2 := sshr_n x (I (8 * 4 : Nat)) 32 (by decide +kernel)
    rw [h1, h2, hx]
    clear h1 h2 hx hu
    generalize x.toBitVec.toNat = X at hlt ⊢
    simp only [Int.bmod_def, Nat.reducePow, Int.reducePow]
    repeat' split
    all_goals omega
  · have h1 := hu 40 (ushr_n x (I (8 * 5 : Nat)) 40 (by decide +kernel))
    have h2 := sshr_n x (I (8 * 5 : Nat)) 40 (by decide +kernel)
    rw [h1, h2, hx]
    clear h1 h2 hx hu
    generalize x.toBitVec.toNat = X at hlt ⊢
    simp only [Int.bmod_def, Nat.reducePow, Int.reducePow]
    repeat' split
    all_goals omega
  · have h1 := hu 48 (ushr_n x (I (8 * 6 : Nat)) 48 (by decide +kernel))
    have h2 := sshr_n x (I (8 * 6 : Nat)) 48 (by decide +kernel)
    rw [h1, h2, hx]
    clear h1 h2 hx hu
    generalize x.toBitVec.toNat = X at hlt ⊢
    simp only [Int.bmod_def, Nat.reducePow, Int.reducePow]
    repeat' split
    all_goals omega
  · have h1 := hu 56 (ushr_n x (I (8 * 7 : Nat)) 56 (by decide +kernel))
    have h2 := sshr_n x (I (8 * 7 : Nat)) 56 (by decide +kernel)
    rw [h1, h2, hx]
    clear h1 h2 hx hu
    generalize x.toBitVec.toNat = X at hlt ⊢
    simp only [Int.bmod_def, Nat.reducePow, Int.reducePow]
    repeat' split
    all_goals omega
def bt (x : Int64) (i : Nat) : Int32 := Int64.toInt32 (ushr64 x (I (8 * i : Nat))) &&& 255
theorem xfeed {N f n : Nat} {x : Int64} (hfn : f + n ≤ 24) : ∀ (r j n' : Nat) (M : Mem), j + r = n → r < n' → M.1 0 8 = I f → ∃ M', l_X6_feed_39 N n' M (I n) x (I j) = some (I (f + n : Nat), M') ∧ KpR (fun k j => !(k == 31 || (k == 0 && j == 8))) M M' ∧ M'.1 0 8 = I (f + n : Nat) ∧ ∀ i, M'.1 31 i = if f + j ≤ i ∧ i < f + n then bt x (i - f) else M.1 31 i := by
  intro r
  induction r with
  | zero =>
    intro j n' M h1 h2 h3
    obtain ⟨n', rfl⟩ : ∃ q, n' = q + 1 := ⟨n' - 1, by omega⟩
    obtain rfl : j = n := by omega
    have e : M.1 0 8 + I j = I (f + j : Nat) := by rw [h3, I_add]; rfl
    refine ⟨seI M 0 8 (I (f + j : Nat)), ?_, KpR.rf.I rfl, by simp [seI_1], fun i => ?_⟩
    · rw [l_X6_feed_39, if_pos (by rw [I_le] <;> omega)]
      simp only [nm]
      rw [e]
      simp [seI_1]
    · rw [seI_ne (by decide), if_neg (by omega)]
  | succ r ih =>
    intro j n' M h1 h2 h3
    obtain ⟨n', rfl⟩ : ∃ q, n' = q + 1 := ⟨n' - 1, by omega⟩
    obtain ⟨M', q1, q2, q3, q4⟩ := ih (j + 1) n' (seI M 31 (f + j) (bt x j)) (by omega) (by omega) (by rw [seI_ne (by decide), h3])
    refine ⟨M', ?_, (KpR.rf.I rfl).tr q2, q3, fun i => ?_⟩
    · rw [l_X6_feed_39, if_neg (by rw [I_le] <;> omega), h3, I_add, put_in (n := 24) rfl (by decide) (by decide) (by omega) (by omega)]
      simp only [bd]
      rw [I_1, I_add, I_8, I_mul, show ((f : Int) + j).toNat = f + j by omega]
      exact q1
    · rw [q4 i, seI_1]
      by_cases e : i = f + j
      · subst e
        rw [if_neg (by omega), if_pos ⟨rfl, rfl⟩, if_pos (by omega), show f + j - f = j by omega]
      · by_cases c : f + (j + 1) ≤ i ∧ i < f + n
        · rw [if_pos c, if_pos (by omega)]
        · rw [if_neg c, if_neg (by omega), if_neg (by omega)]
theorem mfeed {N f n : Nat} {x : Int64} (hfn : f + n ≤ 24) (hn : n ≤ 8) : ∀ (r j n' : Nat) (M : Mem), j + r = n → r < n' → M.1 34 5 = I (f + j : Nat) → ∃ M', l_X7_feed_39 N n' M (I n) x (I j) = some (I (f + n : Nat), M') ∧ KpR (fun k j => !(k == 38 || (k == 34 && j == 5))) M M' ∧ M'.1 34 5 = I (f + n : Nat) ∧ ∀ i, M'.1 38 i = if f + j ≤ i ∧ i < f + n then bt x (i - f) else M.1 38 i := by
  intro r
  induction r with
  | zero =>
    intro j n' M h1 h2 h3
    obtain ⟨n', rfl⟩ : ∃ q, n' = q + 1 := ⟨n' - 1, by omega⟩
    obtain rfl : j = n := by omega
    refine ⟨M, ?_, KpR.rf, h3, fun i => ?_⟩
    · rw [l_X7_feed_39, if_pos (by rw [I_le] <;> omega), h3]
    · rw [if_neg (by omega)]
  | succ r ih =>
    intro j n' M h1 h2 h3
    obtain ⟨n', rfl⟩ : ∃ q, n' = q + 1 := ⟨n' - 1, by omega⟩
    obtain ⟨M', q1, q2, q3, q4⟩ := ih (j + 1) n' (seI (seI M 38 (f + j) (bt x j)) 34 5 (I (f + (j + 1) : Nat))) (by omega) (by omega) (by simp [seI_1])
    refine ⟨M', ?_, ((KpR.rf.I rfl).I rfl).tr q2, q3, fun i => ?_⟩
    · rw [l_X7_feed_39, if_neg (by rw [I_le] <;> omega), h3]
      simp only [ck, nm]
      rw [if_pos (show inb (I (f + j : Nat)) 24 by rw [I_inb] <;> omega), I_ix (by omega) (by omega), Int.toNat_natCast, I_8, I_mul]
      rw [show Int64.toInt32 (shr64 x (I (8 * j)) &&& 255) = bt x j from (byteq x j (by omega)).symm]
      rw [show (seI M 38 (f + j) (bt x j)).1 34 5 = I (f + j : Nat) by rw [seI_ne (by decide), h3], I_1, I_add, I_add]
      exact q1
    · rw [q4 i, seI_ne (by decide), seI_1]
      by_cases e : i = f + j
      · subst e
        rw [if_neg (by omega), if_pos ⟨rfl, rfl⟩, if_pos (by omega), show f + j - f = j by omega]
      · by_cases c : f + (j + 1) ≤ i ∧ i < f + n
        · rw [if_pos c, if_pos (by omega)]
        · rw [if_neg c, if_neg (by omega), if_neg (by omega)]
theorem op_feed (N : Nat) (hN : 2000 < N) (a : Int32) (b : Int64) : Op (fun M => f_X6_feed N M a b) (fun M => f_X7_feed N M a b) := by
  intro M hR
  obtain ⟨z, hz1, hz2, rfl⟩ := I_ex a
  obtain ⟨f, hf0, hf6, hf⟩ := I_exB hR.2.2.2.1.2.1.1 hR.2.2.2.1.2.1.2
  obtain ⟨f, rfl⟩ : ∃ m : Nat, f = m := ⟨f.toNat, by omega⟩
  have hm : M.1 34 5 = I f := hR.2.2.2.1.1.trans hf
  simp only [f_X6_feed, f_X7_feed]
  by_cases c1 : z < 1
  · obtain ⟨M1, M2, q1, q2, hR2⟩ := op_r4 (N := N) hR
    have f1 : ¬ 1 ≤ I z := by rw [I_1, I_le] <;> omega
    simp only [if_neg f1]
    exact ⟨-4, M1, M2, by rw [q1]; rfl, by rw [q2]; rfl, hR2⟩
  have f1 : 1 ≤ I z := by rw [I_1, I_le] <;> omega
  simp only [if_pos f1]
  obtain ⟨M1, M2, q1, q2, hR2⟩ := op_r6 (N := N) hR
  by_cases c2 : 8 < z
  · have f2 : 8 < I z := by rw [I_8, I_lt] <;> omega
    simp only [if_pos f2]
    exact ⟨-6, M1, M2, by rw [q1]; rfl, by rw [q2]; rfl, hR2⟩
  have f2 : ¬ 8 < I z := by rw [I_8, I_lt] <;> omega
  simp only [if_neg f2]
  obtain ⟨n, rfl⟩ : ∃ n : Nat, z = n := ⟨z.toNat, by omega⟩
  by_cases c3 : f + n ≤ 24
  · obtain ⟨Ma, a1, a2, a3, a4⟩ := xfeed (N := N) (x := b) c3 n 0 N M (by omega) (by omega) hf
    obtain ⟨Mb, b1, b2, b3, b4⟩ := mfeed (N := N) (x := b) c3 (by omega) n 0 N Ma (by omega) (by omega) ((a2.1 34 5 rfl).trans hm)
    refine ⟨I (f + n : Nat), Ma, Mb, ?_, ?_, ?_⟩
    · rw [hf, I_add, if_pos (by rw [I_24, I_le] <;> omega)]
      exact a1
    · rw [a2.1 34 5 rfl, hm, I_add, if_pos (by rw [I_24, I_le] <;> omega)]
      exact b1
    · have kk : KpR (fun k j => !(k == 31 || (k == 0 && j == 8) || k == 38 || (k == 34 && j == 5))) M Mb := (a2.sub fun k j hj => by simp at hj; simp; omega).tr (b2.sub fun k j hj => by simp at hj; simp; omega)
      obtain ⟨h1, h2, h3, h4, h5, h6, h7, h8, h9⟩ := hR
      refine ⟨h1.kp (kk.sub fun k j hj => ?_), h2.kpr (kk.sub fun k j hj => ?_), h3.kp (kk.sub fun k j hj => ?_), ⟨?_, ?_, fun k hk hk2 => ?_⟩, h5.kp (kk.sub fun k j hj => ?_), h6.kp (kk.sub fun k j hj => ?_), h7.kp (kk.sub fun k j hj => ?_), h8.kp (kk.sub fun k j hj => ?_), h9.kp (kk.sub fun k j hj => ?_)⟩
      · simp [rSta] at hj; simp; omega
      · simp [rLay] at hj; simp; omega
      · simp [rTak, rLay] at hj; simp; omega
      · rw [b3, b2.1 0 8 rfl, a3]
      · rw [b2.1 0 8 rfl, a3]; unfold Bd; rw [I_to (by omega) (by omega)]; omega
      · rw [b2.1 0 8 rfl, a3, I_to (by omega) (by omega)] at hk2
        rw [b4 k, b2.1 31 k rfl, a4 k]
        by_cases c : f + 0 ≤ k ∧ k < f + n
        · rw [if_pos c, if_pos c]
        · rw [if_neg c, if_neg c, a2.1 38 k rfl]
          exact h4.2.2 k hk (by rw [hf, I_to (by omega) (by omega)]; omega)
      · simp [rTur] at hj; simp; omega
      · simp [rRef] at hj; simp; omega
      · simp [rSps] at hj; simp; omega
      · simp [rGat] at hj; simp; omega
      · simp [rZer] at hj; simp; omega
  · have h34 : M1.1 34 5 = I f := by
      have hx := xref N M (j := 6) (by decide) (by decide)
      have : some ((-6 : Int32), M1) = some (I (-6), seI M 33 6 (M.1 33 6 + 1)) := q1.symm.trans hx
      cases this
      rw [seI_ne (by decide), hm]
    refine ⟨-6, M1, M2, ?_, ?_, hR2⟩
    · rw [hf, I_add, if_neg (by rw [I_24, I_le] <;> omega), q1]; rfl
    · rw [h34, I_add, if_neg (by rw [I_24, I_le] <;> omega), q2]; rfl
