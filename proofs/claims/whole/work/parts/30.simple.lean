/-! Part 30: the calls that neither walk nor search -/
theorem op_r1 {N : Nat} {M : Mem} (hR : RelI M) : ∃ M1 M2, f_X6_refuse N M (-1) = some (-1, M1) ∧ f_X7_refuse N M1 (-1) = some (-1, M2) ∧ RelI M2 := op_ref hR 1 (by decide) (by decide)
theorem op_r2 {N : Nat} {M : Mem} (hR : RelI M) : ∃ M1 M2, f_X6_refuse N M (-2) = some (-2, M1) ∧ f_X7_refuse N M1 (-2) = some (-2, M2) ∧ RelI M2 := op_ref hR 2 (by decide) (by decide)
theorem op_r3 {N : Nat} {M : Mem} (hR : RelI M) : ∃ M1 M2, f_X6_refuse N M (-3) = some (-3, M1) ∧ f_X7_refuse N M1 (-3) = some (-3, M2) ∧ RelI M2 := op_ref hR 3 (by decide) (by decide)
theorem op_r4 {N : Nat} {M : Mem} (hR : RelI M) : ∃ M1 M2, f_X6_refuse N M (-4) = some (-4, M1) ∧ f_X7_refuse N M1 (-4) = some (-4, M2) ∧ RelI M2 := op_ref hR 4 (by decide) (by decide)
theorem op_r6 {N : Nat} {M : Mem} (hR : RelI M) : ∃ M1 M2, f_X6_refuse N M (-6) = some (-6, M1) ∧ f_X7_refuse N M1 (-6) = some (-6, M2) ∧ RelI M2 := op_ref hR 6 (by decide) (by decide)
theorem isIn_y {N : Nat} {M : Mem} {z n : Int} (h : 0 ≤ z) (h2 : z < n) (hn : n ≤ 1000) : f_X7_isIn N M (I z) (I n) = some (1, M) := by
  unfold f_X7_isIn
  simp (disch := omega) only [I_0, I_lt, I_le]
  rw [if_neg (by omega), if_neg (by omega)]
theorem isIn_n {N : Nat} {M : Mem} {z n : Int} (hz : -2147483648 ≤ z) (hz2 : z < 2147483648) (hn : 0 ≤ n) (hn2 : n ≤ 1000) (h : z < 0 ∨ n ≤ z) : f_X7_isIn N M (I z) (I n) = some (0, M) := by
  unfold f_X7_isIn
  by_cases h0 : z < 0
  · rw [if_pos (by rw [I_0, I_lt] <;> omega)]
  · rw [if_neg (by rw [I_0, I_lt] <;> omega), if_pos (by rw [I_le] <;> omega)]
theorem within_y {N : Nat} {M : Mem} {z a b : Int} (h : a ≤ z) (h2 : z ≤ b) (ha : -1000 ≤ a) (hb : b ≤ 1000) : f_X7_within N M (I z) (I a) (I b) = some (0, M) := by
  unfold f_X7_within
  rw [if_pos (by rw [I_le] <;> omega), if_pos (by rw [I_le] <;> omega)]
theorem within_4 {N : Nat} {M : Mem} {z a b : Int} (hz : -2147483648 ≤ z) (h : z < a) (ha : a ≤ 1000) : f_X7_within N M (I z) (I a) (I b) = some (-4, M) := by
  unfold f_X7_within
  rw [if_neg (by rw [I_le] <;> omega)]
theorem within_6 {N : Nat} {M : Mem} {z a b : Int} (hz : z < 2147483648) (h : b < z) (ha : a ≤ b) (ha2 : -1000 ≤ a) : f_X7_within N M (I z) (I a) (I b) = some (-6, M) := by
  unfold f_X7_within
  rw [if_pos (by rw [I_le] <;> omega), if_neg (by rw [I_le] <;> omega)]
/-- the box's many of one kind becomes another number, on both sides -/
theorem RelI.many {M : Mem} (h : RelI M) {k : Nat} (hk : k < 7) {v : Int32} (hv : Bd v 0 9) : RelI (seI (seI M 2 k v) 36 k v) := by
  obtain ⟨h1, h2, h3, h4, h5, h6, h7, h8, h9⟩ := h
  refine ⟨h1.kp ((KpR.rf.I rfl).I rfl), ?_, h3.kp ((KpR.rf.I rfl).I rfl), h4.kp ((KpR.rf.I rfl).I rfl), h5.kp ((KpR.rf.I rfl).I rfl), h6.kp ((KpR.rf.I rfl).I rfl), h7.kp ((KpR.rf.I rfl).I rfl), h8.kp ((KpR.rf.I rfl).I rfl), h9.kp ((KpR.rf.I rfl).I rfl)⟩
  obtain ⟨a, b, c, d, e, f, g⟩ := h2
  refine ⟨fun j hj => ?_, fun j hj => ?_, fun j hj => ?_, fun j hj => ?_, ?_, ?_, fun j hj hj2 => ?_⟩
  · by_cases e : j = k
    · subst e; simp [seI_1, hv]
    · simpa [seI_1, e] using a j hj
  · simpa [seI_1, show ¬ 7 + j = k by omega] using b j hj
  · simpa [seI_1, show ¬ 14 + j = k by omega] using c j hj
  · simpa [seI_1, show ¬ 18 + 2 * j = k by omega, show ¬ 19 + 2 * j = k by omega] using d j hj
  · simpa [seI_1, show ¬ 30 = k by omega] using e
  · simpa [seI_1, show ¬ 55 = k by omega] using f
  · simp [seI_1] at hj2
    simpa [seI_1, show ¬ 31 + j = k by omega] using g j hj hj2
theorem op_box (N : Nat) (a b : Int32) : Op (fun M => f_X6_box N M a b) (fun M => f_X7_box N M a b) := by
  intro M hR
  obtain ⟨z, hz1, hz2, rfl⟩ := I_ex a
  obtain ⟨w, hw1, hw2, rfl⟩ := I_ex b
  simp only [f_X6_box, f_X7_box]
  by_cases c1 : z < 0 ∨ 7 ≤ z
  · obtain ⟨M1, M2, q1, q2, hR2⟩ := op_r1 (N := N) hR
    refine ⟨-1, M1, M2, ?_, ?_, hR2⟩
    · by_cases c2 : z < 0
      · rw [if_pos (by rw [I_0, I_lt] <;> omega), q1]; rfl
      · rw [if_neg (by rw [I_0, I_lt] <;> omega), if_neg (by rw [I_7, I_lt] <;> omega), q1]; rfl
    · rw [I_7, isIn_n hz1 hz2 (by decide) (by decide) c1]
      simp only [bd2, if_true, q2]
  · have e0 : ¬ I z < 0 := by rw [I_0, I_lt] <;> omega
    have e7 : I z < 7 := by rw [I_7, I_lt] <;> omega
    rw [if_neg e0, if_pos e7]
    have hin : ∀ M', f_X7_isIn N M' (I z) 7 = some (1, M') := fun M' => by rw [I_7]; exact isIn_y (by omega) (by omega) (by decide)
    by_cases c2 : w < 0
    · obtain ⟨M1, M2, q1, q2, hR2⟩ := op_r4 (N := N) hR
      refine ⟨-4, M1, M2, ?_, ?_, hR2⟩
      · rw [if_neg (by rw [I_0, I_le] <;> omega), q1]; rfl
      · rw [hin]
        simp only [bd2]
        rw [if_neg (by decide), I_0, I_9, within_4 hw1 c2 (by decide)]
        simp only [bd2]
        rw [if_neg (by decide), q2]
    · by_cases c3 : 9 < w
      · obtain ⟨M1, M2, q1, q2, hR2⟩ := op_r6 (N := N) hR
        refine ⟨-6, M1, M2, ?_, ?_, hR2⟩
        · rw [if_pos (by rw [I_0, I_le] <;> omega), if_neg (by rw [I_9, I_le] <;> omega), q1]; rfl
        · rw [hin]
          simp only [bd2]
          rw [if_neg (by decide), I_0, I_9, within_6 hw2 c3 (by decide) (by decide)]
          simp only [bd2]
          rw [if_neg (by decide), q2]
      · have hk : z.toNat < 7 := by omega
        refine ⟨M.1 2 z.toNat, seI M 2 z.toNat (I w), seI (seI M 2 z.toNat (I w)) 36 z.toNat (I w), ?_, ?_, hR.many hk ⟨by rw [I_to] <;> omega, by rw [I_to] <;> omega⟩⟩
        · rw [if_pos (by rw [I_0, I_le] <;> omega), if_pos (by rw [I_9, I_le] <;> omega), at_in (n := 7) rfl (by decide) (by omega) (by omega)]
          simp only [bd2]
          rw [put_in (n := 7) rfl (by decide) (by decide) (by omega) (by omega)]
          rfl
        · rw [hin]
          simp only [bd2]
          rw [if_neg (by decide), I_0, I_9, within_y (by omega) (by omega) (by decide) (by decide)]
          simp only [bd2, ck, nm]
          have hi : inb (I z) 56 := by rw [I_inb] <;> omega
          rw [if_pos (show (0 : Int32) = I 0 from rfl), if_pos hi, if_pos hi, I_ix (by omega) (by omega), seI_ne (by decide), (hR.2.1.1 _ hk).1]
/-- an edge of the table becomes another number, on both sides -/
theorem RelI.edge {M : Mem} (h : RelI M) {k : Nat} (hk : k < 4) {v : Int32} (hv : Bd v (-400) 400) : RelI (seI (seI M 5 k v) 36 (14 + k) v) := by
  obtain ⟨h1, h2, h3, h4, h5, h6, h7, h8, h9⟩ := h
  refine ⟨h1.kp ((KpR.rf.I rfl).I rfl), ?_, h3.kp ((KpR.rf.I rfl).I rfl), h4.kp ((KpR.rf.I rfl).I rfl), h5.kp ((KpR.rf.I rfl).I rfl), h6.kp ((KpR.rf.I rfl).I rfl), h7.kp ((KpR.rf.I rfl).I rfl), h8.kp ((KpR.rf.I rfl).I rfl), h9.kp ((KpR.rf.I rfl).I rfl)⟩
  obtain ⟨a, b, c, d, e, f, g⟩ := h2
  refine ⟨fun j hj => ?_, fun j hj => ?_, fun j hj => ?_, fun j hj => ?_, ?_, ?_, fun j hj hj2 => ?_⟩
  · simpa [seI_1, show ¬ j = 14 + k by omega] using a j hj
  · simpa [seI_1, show ¬ 7 + j = 14 + k by omega] using b j hj
  · by_cases e : j = k
    · subst e; simp [seI_1, hv]
    · simpa [seI_1, e, show ¬ 14 + j = 14 + k by omega] using c j hj
  · simpa [seI_1, show ¬ 18 + 2 * j = 14 + k by omega, show ¬ 19 + 2 * j = 14 + k by omega] using d j hj
  · simpa [seI_1, show ¬ 30 = 14 + k by omega] using e
  · simpa [seI_1, show ¬ 55 = 14 + k by omega] using f
  · simp [seI_1] at hj2
    simpa [seI_1, show ¬ 31 + j = 14 + k by omega] using g j hj hj2
theorem xreff {N : Nat} {M M1 : Mem} {c : Int32} (h : f_X6_refuse N M c = some (c, M1)) : f_X6_refuseFar N M c = some (1000000000 - c, M1) := by
  unfold f_X6_refuseFar
  rw [h]
  rfl
theorem op_table (N : Nat) (a b : Int32) : Op (fun M => f_X6_table N M a b) (fun M => f_X7_table N M a b) := by
  intro M hR
  obtain ⟨z, hz1, hz2, rfl⟩ := I_ex a
  obtain ⟨w, hw1, hw2, rfl⟩ := I_ex b
  have I_400 : (400 : Int32) = I 400 := rfl
  have I_m400 : (-400 : Int32) = I (-400) := rfl
  simp only [f_X6_table, f_X7_table]
  by_cases c1 : z < 0 ∨ 4 ≤ z
  · obtain ⟨M1, M2, q1, q2, hR2⟩ := op_r2 (N := N) hR
    refine ⟨1000000000 - -2, M1, M2, ?_, ?_, hR2⟩
    · by_cases c2 : z < 0
      · rw [if_pos (by rw [I_0, I_lt] <;> omega), xreff q1]; rfl
      · rw [if_neg (by rw [I_0, I_lt] <;> omega), if_neg (by rw [I_3, I_le] <;> omega), xreff q1]; rfl
    · rw [I_4, isIn_n hz1 hz2 (by decide) (by decide) c1]
      simp only [bd2, if_true, q2]
  · have e0 : ¬ I z < 0 := by rw [I_0, I_lt] <;> omega
    have e7 : I z ≤ 3 := by rw [I_3, I_le] <;> omega
    rw [if_neg e0, if_pos e7]
    have hin : ∀ M', f_X7_isIn N M' (I z) 4 = some (1, M') := fun M' => by rw [I_4]; exact isIn_y (by omega) (by omega) (by decide)
    by_cases c2 : w < -400
    · obtain ⟨M1, M2, q1, q2, hR2⟩ := op_r4 (N := N) hR
      refine ⟨1000000000 - -4, M1, M2, ?_, ?_, hR2⟩
      · rw [if_neg (by rw [I_m400, I_le] <;> omega), xreff q1]; rfl
      · rw [hin]
        simp only [bd2]
        rw [if_neg (by decide), I_m400, I_400, within_4 hw1 c2 (by decide)]
        simp only [bd2]
        rw [if_neg (by decide), q2]
    · by_cases c3 : 400 < w
      · obtain ⟨M1, M2, q1, q2, hR2⟩ := op_r6 (N := N) hR
        refine ⟨1000000000 - -6, M1, M2, ?_, ?_, hR2⟩
        · rw [if_pos (by rw [I_m400, I_le] <;> omega), if_neg (by rw [I_400, I_le] <;> omega), xreff q1]; rfl
        · rw [hin]
          simp only [bd2]
          rw [if_neg (by decide), I_m400, I_400, within_6 hw2 c3 (by decide) (by decide)]
          simp only [bd2]
          rw [if_neg (by decide), q2]
      · have hk : z.toNat < 4 := by omega
        refine ⟨M.1 5 z.toNat, seI M 5 z.toNat (I w), seI (seI M 5 z.toNat (I w)) 36 (14 + z.toNat) (I w), ?_, ?_, hR.edge hk ⟨by rw [I_to] <;> omega, by rw [I_to] <;> omega⟩⟩
        · rw [if_pos (by rw [I_m400, I_le] <;> omega), if_pos (by rw [I_400, I_le] <;> omega), at_in (n := 4) rfl (by decide) (by omega) (by omega)]
          simp only [bd2]
          rw [put_in (n := 4) rfl (by decide) (by decide) (by omega) (by omega)]
          rfl
        · rw [hin]
          simp only [bd2]
          rw [if_neg (by decide), I_m400, I_400, within_y (by omega) (by omega) (by decide) (by decide)]
          simp only [bd2, ck, nm]
          have hi : inb (14 + I z) 56 := by rw [I_14, I_add, I_inb] <;> omega
          have hx : ix (14 + I z) = 14 + z.toNat := by rw [I_14, I_add, I_ix (by omega) (by omega)]; omega
          rw [if_pos trivial, if_pos hi, if_pos hi, hx, seI_ne (by decide), (hR.2.1.2.2.1 _ hk).1]
/-- a turn more, on both sides -/
theorem RelI.turn {M : Mem} (h : RelI M) {z : Int} (hz : M.1 0 10 = I z) (h0 : 0 ≤ z) (h6 : z < 6) {v : Int32} (hv : Bd v (-2) 2) : RelI (seI (seI (seI (seI M 32 z.toNat v) 0 10 (I (z + 1))) 42 z.toNat v) 34 21 (I (z + 1))) := by
  obtain ⟨h1, h2, h3, h4, h5, h6', h7, h8, h9⟩ := h
  refine ⟨h1.kp ((((KpR.rf.I rfl).I rfl).I rfl).I rfl), h2.kpr ((((KpR.rf.I rfl).I rfl).I rfl).I rfl), h3.kp ((((KpR.rf.I rfl).I rfl).I rfl).I rfl), h4.kp ((((KpR.rf.I rfl).I rfl).I rfl).I rfl), ?_, h6'.kp ((((KpR.rf.I rfl).I rfl).I rfl).I rfl), h7.kp ((((KpR.rf.I rfl).I rfl).I rfl).I rfl), h8.kp ((((KpR.rf.I rfl).I rfl).I rfl).I rfl), h9.kp ((((KpR.rf.I rfl).I rfl).I rfl).I rfl)⟩
  obtain ⟨a, b, c⟩ := h5
  rw [hz] at a b c
  unfold Bd at b
  rw [I_to (by omega) (by omega)] at b c
  refine ⟨by simp [seI_1], by unfold Bd; simp [seI_1]; rw [I_to (by omega) (by omega)]; omega, fun k hk hk2 => ?_⟩
  simp [seI_1] at hk2
  rw [I_to (by omega) (by omega)] at hk2
  by_cases e : k = z.toNat
  · subst e; simp [seI_1, hv]
  · simpa [seI_1, e] using c k hk (by omega)
theorem op_turn (N : Nat) (a : Int32) : Op (fun M => f_X6_turn N M a) (fun M => f_X7_turn N M a) := by
  intro M hR
  obtain ⟨w, hw1, hw2, rfl⟩ := I_ex a
  simp only [f_X6_turn, f_X7_turn]
  by_cases c2 : w < -2
  · obtain ⟨M1, M2, q1, q2, hR2⟩ := op_r4 (N := N) hR
    refine ⟨-4, M1, M2, ?_, ?_, hR2⟩
    · rw [if_neg (by rw [I_m2, I_le] <;> omega), q1]; rfl
    · rw [I_m2, I_2, within_4 hw1 c2 (by decide)]
      simp only [bd2]
      rw [if_neg (by decide), if_neg (by decide), q2]
  · rw [if_pos (by rw [I_m2, I_le] <;> omega)]
    by_cases c3 : 2 < w
    · obtain ⟨M1, M2, q1, q2, hR2⟩ := op_r6 (N := N) hR
      refine ⟨-6, M1, M2, ?_, ?_, hR2⟩
      · rw [if_pos (by rw [I_2, I_lt] <;> omega), q1]; rfl
      · rw [I_m2, I_2, within_6 hw2 c3 (by decide) (by decide)]
        simp only [bd2]
        rw [if_neg (by decide), if_neg (by decide), q2]
    · rw [if_neg (by rw [I_2, I_lt] <;> omega)]
      have hin : ∀ M', f_X7_within N M' (I w) (-2) 2 = some (0, M') := fun M' => by rw [I_m2, I_2]; exact within_y (by omega) (by omega) (by decide) (by decide)
      obtain ⟨z, hz0, hz6, hz⟩ := I_exB hR.2.2.2.2.1.2.1.1 hR.2.2.2.2.1.2.1.2
      have hm : M.1 34 21 = I z := hR.2.2.2.2.1.1.trans hz
      by_cases c4 : z < 6
      · refine ⟨I (z + 1), seI (seI M 32 z.toNat (I w)) 0 10 (I (z + 1)), seI (seI (seI (seI M 32 z.toNat (I w)) 0 10 (I (z + 1))) 42 z.toNat (I w)) 34 21 (I (z + 1)), ?_, ?_, hR.turn hz hz0 c4 ⟨by rw [I_to] <;> omega, by rw [I_to] <;> omega⟩⟩
        · rw [hz, if_pos (by rw [I_6, I_lt] <;> omega), put_in (n := 6) rfl (by decide) (by decide) hz0 (by omega)]
          simp only [bd, nm]
          rw [show (seI M 32 z.toNat (I w)).1 0 10 = I z by rw [seI_ne (by decide), hz], I_1, I_add]
          simp [seI_1]
        · rw [hin]
          simp only [bd2, ck, nm]
          have e : (seI (seI M 32 z.toNat (I w)) 0 10 (I (z + 1))).1 34 21 = I z := by rw [seI_ne (by decide), seI_ne (by decide), hm]
          have hi : inb (I z) 6 := by rw [I_inb] <;> omega
          rw [if_pos trivial, e, if_neg (by rw [I_6, I_eq] <;> omega), if_pos trivial, if_pos hi, I_ix (by omega) (by omega)]
          rw [show (seI (seI (seI M 32 z.toNat (I w)) 0 10 (I (z + 1))) 42 z.toNat (I w)).1 34 21 = I z by rw [seI_ne (by decide), e], I_1, I_add]
          simp [seI_1]
      · obtain ⟨M1, M2, q1, q2, hR2⟩ := op_r6 (N := N) hR
        have h34 : M1.1 34 21 = I z := by
          have hx := xref N M (j := 6) (by decide) (by decide)
          have : some ((-6 : Int32), M1) = some (I (-6), seI M 33 6 (M.1 33 6 + 1)) := q1.symm.trans hx
          cases this
          rw [seI_ne (by decide), hm]
        refine ⟨-6, M1, M2, ?_, ?_, hR2⟩
        · rw [hz, if_neg (by rw [I_6, I_lt] <;> omega), q1]; rfl
        · rw [hin]
          simp only [bd2]
          rw [if_pos trivial, h34, if_pos (by rw [I_6, I_eq] <;> omega), q2]
