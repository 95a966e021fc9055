/-! Part 36: on; count -/
theorem copy18_s {N : Nat} {M : Mem} {n : Nat} (hn : M.1 8 3 = I n) (h24 : n ≤ 24) (hN : 2000 < N) : ∃ M', f_X0_copy_1_8 N M = some M' ∧ KpR (fun k j => !(k == 2 || k == 3 || k == 4 || k == 5 || k == 6 || k == 7 || (k == 1 && (j == 3 || j == 7)))) M M' ∧
    (∀ k, k < 7 → M'.1 2 k = M.1 9 k) ∧ (∀ k, k < 7 → M'.1 3 k = M.1 10 k) ∧ (∀ k, k < n → M'.1 4 k = M.1 11 k) ∧ (∀ k, k < 4 → M'.1 5 k = M.1 12 k) ∧ (∀ k, k < 6 → M'.1 6 k = M.1 13 k) ∧ (∀ k, k < 6 → M'.1 7 k = M.1 14 k) ∧ M'.1 1 3 = M.1 8 3 ∧ M'.1 1 7 = M.1 8 7 := by
  unfold f_X0_copy_1_8
  rw [copyAll_s (n0 := 7) (n1 := 7) rfl rfl (by decide) (by decide) (by decide) (by decide) hN]
  simp only [bd]
  rw [copyAll_s (n0 := 7) (n1 := 7) rfl rfl (by decide) (by decide) (by decide) (by decide) hN]
  simp only [bd]
  rw [wrI_ne (show 8 ≠ 3 by decide), wrI_ne (show 8 ≠ 2 by decide), hn, becomes_s (n0 := 24) rfl (by decide) h24 h24 (by decide) hN]
  simp only [bd]
  rw [copyAll_s (n0 := 4) (n1 := 4) rfl rfl (by decide) (by decide) (by decide) (by decide) hN]
  simp only [bd]
  rw [copyAll_s (n0 := 6) (n1 := 6) rfl rfl (by decide) (by decide) (by decide) (by decide) hN]
  simp only [bd]
  rw [copyAll_s (n0 := 6) (n1 := 6) rfl rfl (by decide) (by decide) (by decide) (by decide) hN]
  simp only [bd, nm]
  refine ⟨_, rfl, ((((((((KpR.rf.W fun i => rfl).W fun i => rfl).W fun i => rfl).I rfl).W fun i => rfl).W fun i => rfl).W fun i => rfl).I rfl), ?_, ?_, ?_, ?_, ?_, ?_, ?_, ?_⟩
  · intro k hk; simp [seI_1, wrI_1, hk]
  · intro k hk; simp [seI_1, wrI_1, hk]
  · intro k hk; simp [seI_1, wrI_1, hk]
  · intro k hk; simp [seI_1, wrI_1, hk]
  · intro k hk; simp [seI_1, wrI_1, hk]
  · intro k hk; simp [seI_1, wrI_1, hk]
  · simp [seI_1, wrI_1, hn]
  · simp [seI_1, wrI_1]
theorem mon_s {N : Nat} {M : Mem} (hN : 2000 < N) : l_X7_on_16 N N M 0 = some (M.1 37 55, wrI M 36 (fun i => if i < 56 then M.1 37 i else M.1 36 i)) := by
  rw [fillL 36 56 (fun i => M.1 37 i) M (fun n' M v => l_X7_on_16 N n' M v) (fun M' => some (M'.1 36 55, M'))]
  · rw [wrI_s]
    rfl
  · intro n' M'
    rw [l_X7_on_16, if_pos (by rw [I_56, I_le] <;> omega)]
    rfl
  · intro n' M' j hj hM _
    rw [l_X7_on_16, if_neg (by rw [I_56, I_le] <;> omega)]
    have hi : inb (I j) 56 := by rw [I_inb] <;> omega
    simp only [ck, nm]
    rw [if_pos hi, if_pos hi, I_ix (by omega) (by omega), I_1, I_add]
    simp only [Int.toNat_natCast]
    rw [hM 37 j (Or.inl (by decide))]
    rfl
  · omega
theorem op_on (N : Nat) (hN : 2000 < N) : Op (fun M => f_X6_on N M) (fun M => f_X7_on N M) := by
  intro M hR
  obtain ⟨t1, t2, t3⟩ := hR.2.2.1
  simp only [f_X6_on, f_X7_on]
  by_cases c : M.1 0 2 = 0
  · obtain ⟨M1, M2, q1, q2, hR2⟩ := op_r3 (N := N) hR
    have h34 : M1.1 34 3 = 0 := by
      have hx := xref N M (j := 3) (by decide) (by decide)
      have : some ((-3 : Int32), M1) = some (I (-3), seI M 33 3 (M.1 33 3 + 1)) := q1.symm.trans hx
      cases this
      rw [seI_ne (by decide), t1, c]
    exact ⟨-3, M1, M2, by rw [if_pos c, q1]; rfl, by rw [if_pos h34, q2]; rfl, hR2⟩
  · have hL := t3 (t2.resolve_left c)
    obtain ⟨n, hn0, hn6, hn⟩ := I_exB hL.2.2.2.2.2.1.2.1 hL.2.2.2.2.2.1.2.2
    obtain ⟨m, rfl⟩ : ∃ m : Nat, n = m := ⟨n.toNat, by omega⟩
    obtain ⟨M1, q1, hk, c1, c2, c3, c4, c5, c6, c7, c8⟩ := copy18_s (N := N) hn (by omega) hN
    have hS1 : Sta M1 := hR.1.kp (hk.sub fun k j hj => by simp [rSta] at hj; simp; omega)
    obtain ⟨M2, q2, k2, s2, g2⟩ := measAnew (N := N) (M := M1) hS1 (fun k hk2 => by rw [c2 k hk2]; exact (hL.2.1 k hk2).2) (by omega)
    have e2 : ∀ a j, a ≠ 16 → a ≠ 21 → M2.1 a j = M1.1 a j := fun a j h1 h2 => k2.1 a j (by simp; omega)
    have kk : KpR (fun k j => !(k == 2 || k == 3 || k == 4 || k == 5 || k == 6 || k == 7 || (k == 1 && (j == 3 || j == 7)) || k == 16 || (k == 21 && j == 6))) M M2 :=
      (hk.sub fun k j hj => by simp at hj; simp; omega).tr (k2.sub fun k j hj => by simp at hj; simp; omega)
    refine ⟨M.1 8 3, M2, wrI M2 36 (fun i => if i < 56 then M2.1 37 i else M2.1 36 i), ?_, ?_, ?_⟩
    · rw [if_neg c, q1]
      simp only [bd]
      rw [q2]
      simp only [bd]
      rw [e2 1 3 (by decide) (by decide), c7]
    · have h34 : ¬ M2.1 34 3 = 0 := by rw [kk.1 34 3 rfl, t1]; exact c
      rw [if_neg h34, mon_s hN, kk.1 37 55 rfl, hL.2.2.2.2.2.1.1]
    · obtain ⟨h1, h2, h3, h4, h5, h6, h7, h8, h9⟩ := hR
      refine ⟨h1.kp ((kk.sub fun k j hj => ?_).W fun i => rfl), ?_, h3.kp ((kk.sub fun k j hj => ?_).W fun i => rfl), h4.kp ((kk.sub fun k j hj => ?_).W fun i => rfl), h5.kp ((kk.sub fun k j hj => ?_).W fun i => rfl), h6.kp ((kk.sub fun k j hj => ?_).W fun i => rfl), s2.kp (KpR.rf.W fun i => rfl), g2.kp (KpR.rf.W fun i => rfl), h9.kp ((kk.sub fun k j hj => ?_).W fun i => rfl)⟩
      · simp [rSta] at hj; simp; omega
      · refine hL.tr (fun k hk => ?_) (fun k hk => ?_) (fun k hk => ?_) (fun k hk => ?_) (fun k hk => ?_) (fun k hk => ?_) ?_ ?_ (fun k hk hk2 => ?_)
        · rw [wrI_s, if_pos hk, kk.1 37 k rfl]
        · rw [wrI_ne (by decide), e2 _ _ (by decide) (by decide)]; exact c1 k hk
        · rw [wrI_ne (by decide), e2 _ _ (by decide) (by decide)]; exact c2 k hk
        · rw [wrI_ne (by decide), e2 _ _ (by decide) (by decide)]; exact c4 k hk
        · rw [wrI_ne (by decide), e2 _ _ (by decide) (by decide)]; exact c5 k hk
        · rw [wrI_ne (by decide), e2 _ _ (by decide) (by decide)]; exact c6 k hk
        · rw [wrI_ne (by decide), e2 _ _ (by decide) (by decide)]; exact c8
        · rw [wrI_ne (by decide), e2 _ _ (by decide) (by decide)]; exact c7
        · rw [hn, I_to (by omega) (by omega)] at hk2
          rw [wrI_ne (by decide), e2 _ _ (by decide) (by decide)]; exact c3 k (by omega)
      · simp [rTak, rLay] at hj; simp; omega
      · simp [rTap] at hj; simp; omega
      · simp [rTur] at hj; simp; omega
      · simp [rRef] at hj; simp; omega
      · simp [rZer] at hj; simp; omega
/-- the sum of the first j of seven -/
def sumT (f : Nat → Int32) : Nat → Int32
  | 0 => 0
  | j + 1 => sumT f j + f j
theorem inBox_s {N : Nat} {M : Mem} : ∀ (k j n : Nat), j + k = 7 → k < n → l_X0_inBox_4 N n M (sumT (M.1 2) j) (I j) = some (sumT (M.1 2) 7, M) := by
  intro k
  induction k with
  | zero =>
    intro j n h1 h2
    obtain ⟨n, rfl⟩ : ∃ q, n = q + 1 := ⟨n - 1, by omega⟩
    obtain rfl : j = 7 := by omega
    rw [l_X0_inBox_4, if_pos (by rw [I_7, I_le] <;> omega)]
  | succ k ih =>
    intro j n h1 h2
    obtain ⟨n, rfl⟩ : ∃ q, n = q + 1 := ⟨n - 1, by omega⟩
    rw [l_X0_inBox_4, if_neg (by rw [I_7, I_le] <;> omega)]
    simp only [ck, nm]
    rw [if_pos (show inb (I j) 7 by rw [I_inb] <;> omega), I_ix (by omega) (by omega), I_1, I_add]
    exact ih (j + 1) n (by omega) (by omega)
theorem mBox_s {N : Nat} {M : Mem} {f : Nat → Int32} (hf : ∀ k, k < 7 → M.1 36 k = f k) : ∀ (k j n : Nat), j + k = 7 → k < n → l_X7_count_70 N n M (sumT f j) (I j) = some (sumT f 7, M) := by
  intro k
  induction k with
  | zero =>
    intro j n h1 h2
    obtain ⟨n, rfl⟩ : ∃ q, n = q + 1 := ⟨n - 1, by omega⟩
    obtain rfl : j = 7 := by omega
    rw [l_X7_count_70, if_pos (by rw [I_7, I_le] <;> omega)]
  | succ k ih =>
    intro j n h1 h2
    obtain ⟨n, rfl⟩ : ∃ q, n = q + 1 := ⟨n - 1, by omega⟩
    rw [l_X7_count_70, if_neg (by rw [I_7, I_le] <;> omega)]
    simp only [ck, nm]
    rw [if_pos (show inb (I j) 56 by rw [I_inb] <;> omega), I_ix (by omega) (by omega), I_1, I_add]
    rw [show M.1 36 (Int.toNat j) = f j from hf j (by omega)]
    exact ih (j + 1) n (by omega) (by omega)
theorem op_count (N : Nat) (hN : 2000 < N) (a : Int32) : Op (fun M => f_X6_count N M a) (fun M => f_X7_count N M a) := by
  intro M hR
  obtain ⟨z, hz1, hz2, rfl⟩ := I_ex a
  have I_16 : (16 : Int32) = I 16 := rfl
  have I_17 : (17 : Int32) = I 17 := rfl
  have hbox : f_X0_inBox N M = some (sumT (M.1 2) 7, M) := inBox_s 7 0 N rfl (by omega)
  have hmb : l_X7_count_70 N N M 0 0 = some (sumT (M.1 2) 7, M) := mBox_s (fun k hk => (hR.2.1.1 k hk).1) 7 0 N rfl (by omega)
  have g55 : M.1 36 (ix 55) = M.1 1 3 := hR.2.1.2.2.2.2.2.1.1
  have g30 : M.1 36 (ix 30) = M.1 1 7 := hR.2.1.2.2.2.2.1.1
  have g5 : M.1 34 5 = M.1 0 8 := hR.2.2.2.1.1
  have g21 : M.1 34 21 = M.1 0 10 := hR.2.2.2.2.1.1
  simp only [f_X6_count, f_X7_count]
  by_cases c : 10 < z ∧ z ≤ 16
  · have f1 : ¬ I z ≤ 10 := by rw [I_10, I_le] <;> omega
    have f2 : ¬ 16 < I z := by rw [I_16, I_lt] <;> omega
    have f3 : ¬ 17 ≤ I z := by rw [I_17, I_le] <;> omega
    simp only [if_neg f1, if_neg f2, if_neg f3]
    have e : I z - 10 = I (z - 10) := by rw [I_10, I_sub]
    refine ⟨M.1 33 (z - 10).toNat, M, M, ?_, ?_, hR⟩
    · rw [e, at_in (n := 7) rfl (by decide) (by omega) (by omega)]
      rfl
    · simp only [ck]
      rw [e, if_pos (show inb (I (z - 10)) 7 by rw [I_inb] <;> omega), I_ix (by omega) (by omega), hR.2.2.2.2.2.1 _ (by omega)]
  · have key : ∃ r, (if I z = 0 then some (M.1 1 3, M) else if I z = 1 then bd2 (f_X0_inBox N M) (fun r5 M4 => some (r5, M4)) else if I z = 2 then some (M.1 1 7, M) else if I z = 3 then some (M.1 0 8, M) else if I z = 4 then some (M.1 0 10, M) else some ((-9 : Int32), M)) = some (r, M) ∧ (if I z = 0 then some (M.1 36 (ix 55), M) else if I z = 1 then l_X7_count_70 N N M 0 0 else if I z = 2 then some (M.1 36 (ix 30), M) else if I z = 3 then some (M.1 34 5, M) else if I z = 4 then some (M.1 34 21, M) else some ((-9 : Int32), M)) = some (r, M) := by
      rw [hbox, hmb, g55, g30, g5, g21]
      simp only [bd2]
      repeat' split
      all_goals exact ⟨_, rfl, rfl⟩
    obtain ⟨r, k1, k2⟩ := key
    by_cases c2 : z ≤ 10
    · have f1 : I z ≤ 10 := by rw [I_10, I_le] <;> omega
      simp only [if_pos f1]
      exact ⟨r, M, M, k1, k2, hR⟩
    · have f1 : ¬ I z ≤ 10 := by rw [I_10, I_le] <;> omega
      have f2 : 16 < I z := by rw [I_16, I_lt] <;> omega
      have f3 : 17 ≤ I z := by rw [I_17, I_le] <;> omega
      simp only [if_neg f1, if_pos f2, if_pos f3]
      exact ⟨r, M, M, k1, k2, hR⟩
