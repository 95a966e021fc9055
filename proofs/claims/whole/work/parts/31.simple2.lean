/-! Part 31: sign, leg, piece -/
set_option maxRecDepth 100000 in
theorem sg_same (N : Nat) (M : Mem) (x y : Int64) : f_X2_signOf N M x y = f_X7_signOf N M x y := rfl
set_option maxHeartbeats 4000000 in
theorem sg_ex (N : Nat) (x y : Int64) : ∃ r : Int32, ∀ M : Mem, f_X7_signOf N M x y = some (r, M) := by
  unfold f_X7_signOf
  repeat' split
  all_goals exact ⟨_, fun _ => rfl⟩
theorem isPart_y {N : Nat} {M : Mem} {z : Int} (h : -1000000 ≤ z) (h2 : z ≤ 1000000) : f_X7_isPart N M (I z) = some (1, M) := by
  unfold f_X7_isPart
  have e1 : (-1000000 : Int32) = I (-1000000) := rfl
  have e2 : (1000000 : Int32) = I 1000000 := rfl
  rw [if_neg (by rw [e1, I_lt] <;> omega), if_neg (by rw [e2, I_lt] <;> omega)]
theorem isPart_n {N : Nat} {M : Mem} {z : Int} (h1 : -2147483648 ≤ z) (h2 : z < 2147483648) (h : z < -1000000 ∨ 1000000 < z) : f_X7_isPart N M (I z) = some (0, M) := by
  unfold f_X7_isPart
  have e1 : (-1000000 : Int32) = I (-1000000) := rfl
  have e2 : (1000000 : Int32) = I 1000000 := rfl
  by_cases c : z < -1000000
  · rw [if_pos (by rw [e1, I_lt] <;> omega)]
  · rw [if_neg (by rw [e1, I_lt] <;> omega), if_pos (by rw [e2, I_lt] <;> omega)]
theorem op_sign (N : Nat) (a b : Int32) : Op (fun M => f_X6_sign N M a b) (fun M => f_X7_sign N M a b) := by
  intro M hR
  obtain ⟨z, hz1, hz2, rfl⟩ := I_ex a
  obtain ⟨w, hw1, hw2, rfl⟩ := I_ex b
  have e1 : (-1000000 : Int32) = I (-1000000) := rfl
  have e2 : (1000000 : Int32) = I 1000000 := rfl
  simp only [f_X6_sign, f_X7_sign]
  obtain ⟨M1, M2, q1, q2, hR2⟩ := op_r3 (N := N) hR
  by_cases c1 : z < -1000000 ∨ 1000000 < z
  · refine ⟨-3, M1, M2, ?_, ?_, hR2⟩
    · by_cases c : z < -1000000
      · rw [if_pos (by rw [e1, I_lt] <;> omega), q1]; rfl
      · rw [if_neg (by rw [e1, I_lt] <;> omega), if_pos (by rw [e2, I_lt] <;> omega), q1]; rfl
    · rw [isPart_n hz1 hz2 c1]
      simp only [bd2, if_true, q2]
  · have f1 : ¬ I z < -1000000 := by rw [e1, I_lt] <;> omega
    have f2 : ¬ 1000000 < I z := by rw [e2, I_lt] <;> omega
    simp only [if_neg f1, if_neg f2]
    by_cases c2 : w < -1000000 ∨ 1000000 < w
    · refine ⟨-3, M1, M2, ?_, ?_, hR2⟩
      · by_cases c : w < -1000000
        · rw [if_pos (by rw [e1, I_lt] <;> omega), q1]; rfl
        · rw [if_neg (by rw [e1, I_lt] <;> omega), if_neg (by rw [e2, I_le] <;> omega), q1]; rfl
      · rw [isPart_y (by omega) (by omega)]
        simp only [bd2]
        rw [if_neg (by decide), isPart_n hw1 hw2 c2]
        simp only [bd2, if_true, q2]
    · have f3 : ¬ I w < -1000000 := by rw [e1, I_lt] <;> omega
      have f4 : I w ≤ 1000000 := by rw [e2, I_le] <;> omega
      simp only [if_neg f3, if_pos f4]
      obtain ⟨r, hr⟩ := sg_ex N (Int32.toInt64 (I z)) (Int32.toInt64 (I w))
      refine ⟨r, M, M, ?_, ?_, hR⟩
      · rw [sg_same, hr]; rfl
      · rw [isPart_y (by omega) (by omega)]
        simp only [bd2]
        rw [if_neg (by decide), isPart_y (by omega) (by omega)]
        simp only [bd2]
        rw [if_neg (by decide), hr]
/-- a leg more, on both sides -/
theorem RelI.leg {M : Mem} (h : RelI M) {n : Int} (hn : M.1 1 7 = I n) (h0 : 0 ≤ n) (h6 : n < 6) {x y : Int32} (hx : Bd x (-400) 400) (hy : Bd y (-400) 400) : RelI (seI (seI (seI (seI (seI (seI M 6 n.toNat x) 7 n.toNat y) 1 7 (I (n + 1))) 36 (18 + 2 * n.toNat) x) 36 (19 + 2 * n.toNat) y) 36 30 (I (n + 1))) := by
  obtain ⟨h1, h2, h3, h4, h5, h6', h7, h8, h9⟩ := h
  refine ⟨h1.kp ((((((KpR.rf.I rfl).I rfl).I rfl).I rfl).I rfl).I rfl), ?_, h3.kp ((((((KpR.rf.I rfl).I rfl).I rfl).I rfl).I rfl).I rfl), h4.kp ((((((KpR.rf.I rfl).I rfl).I rfl).I rfl).I rfl).I rfl), h5.kp ((((((KpR.rf.I rfl).I rfl).I rfl).I rfl).I rfl).I rfl), h6'.kp ((((((KpR.rf.I rfl).I rfl).I rfl).I rfl).I rfl).I rfl), h7.kp ((((((KpR.rf.I rfl).I rfl).I rfl).I rfl).I rfl).I rfl), h8.kp ((((((KpR.rf.I rfl).I rfl).I rfl).I rfl).I rfl).I rfl), h9.kp ((((((KpR.rf.I rfl).I rfl).I rfl).I rfl).I rfl).I rfl)⟩
  obtain ⟨a, b, c, d, e, f, g⟩ := h2
  refine ⟨fun j hj => ?_, fun j hj => ?_, fun j hj => ?_, fun j hj => ?_, ?_, ?_, fun j hj hj2 => ?_⟩
  · simpa [seI_1, show ¬ j = 30 by omega, show ¬ j = 19 + 2 * n.toNat by omega, show ¬ j = 18 + 2 * n.toNat by omega] using a j hj
  · simpa [seI_1, show ¬ 7 + j = 30 by omega, show ¬ 7 + j = 19 + 2 * n.toNat by omega, show ¬ 7 + j = 18 + 2 * n.toNat by omega] using b j hj
  · simpa [seI_1, show ¬ 14 + j = 30 by omega, show ¬ 14 + j = 19 + 2 * n.toNat by omega, show ¬ 14 + j = 18 + 2 * n.toNat by omega] using c j hj
  · by_cases e : j = n.toNat
    · subst e
      simp [seI_1, hx, hy, show ¬ 18 + 2 * n.toNat = 30 by omega, show ¬ 18 + 2 * n.toNat = 19 + 2 * n.toNat by omega, show ¬ 19 + 2 * n.toNat = 30 by omega]
    · simpa [seI_1, e, show ¬ 2 * j = 2 * n.toNat by omega, show ¬ 18 + 2 * j = 30 by omega, show ¬ 18 + 2 * j = 19 + 2 * n.toNat by omega, show ¬ 18 + 2 * j = 18 + 2 * n.toNat by omega, show ¬ 19 + 2 * j = 30 by omega, show ¬ 19 + 2 * j = 19 + 2 * n.toNat by omega, show ¬ 19 + 2 * j = 18 + 2 * n.toNat by omega] using d j hj
  · refine ⟨by simp [seI_1], ?_⟩
    unfold Bd
    simp [seI_1]
    rw [I_to (by omega) (by omega)]
    omega
  · simpa [seI_1, show ¬ 55 = 19 + 2 * n.toNat by omega, show ¬ 55 = 18 + 2 * n.toNat by omega] using f
  · simp [seI_1] at hj2
    simpa [seI_1, show ¬ 31 + j = 30 by omega, show ¬ 31 + j = 19 + 2 * n.toNat by omega, show ¬ 31 + j = 18 + 2 * n.toNat by omega] using g j hj hj2
theorem op_leg (N : Nat) (a b : Int32) : Op (fun M => f_X6_leg N M a b) (fun M => f_X7_leg N M a b) := by
  intro M hR
  obtain ⟨z, hz1, hz2, rfl⟩ := I_ex a
  obtain ⟨w, hw1, hw2, rfl⟩ := I_ex b
  have I_400 : (400 : Int32) = I 400 := rfl
  have I_m400 : (-400 : Int32) = I (-400) := rfl
  simp only [f_X6_leg, f_X7_leg]
  by_cases c1 : z < -400
  · obtain ⟨M1, M2, q1, q2, hR2⟩ := op_r4 (N := N) hR
    exact ⟨-4, M1, M2, by rw [if_pos (by rw [I_m400, I_lt] <;> omega), q1]; rfl, by rw [if_pos (by rw [I_m400, I_lt] <;> omega), q2]; rfl, hR2⟩
  have f1 : ¬ I z < -400 := by rw [I_m400, I_lt] <;> omega
  simp only [if_neg f1]
  by_cases c2 : w < -400
  · obtain ⟨M1, M2, q1, q2, hR2⟩ := op_r4 (N := N) hR
    exact ⟨-4, M1, M2, by rw [if_neg (by rw [I_m400, I_le] <;> omega), q1]; rfl, by rw [if_neg (by rw [I_m400, I_le] <;> omega), q2]; rfl, hR2⟩
  have f2 : -400 ≤ I w := by rw [I_m400, I_le] <;> omega
  simp only [if_pos f2]
  obtain ⟨M1, M2, q1, q2, hR2⟩ := op_r6 (N := N) hR
  by_cases c3 : 400 < z
  · exact ⟨-6, M1, M2, by rw [if_pos (by rw [I_400, I_lt] <;> omega), q1]; rfl, by rw [if_pos (by rw [I_400, I_lt] <;> omega), q2]; rfl, hR2⟩
  have f3 : ¬ 400 < I z := by rw [I_400, I_lt] <;> omega
  simp only [if_neg f3]
  by_cases c4 : 400 < w
  · exact ⟨-6, M1, M2, by rw [if_pos (by rw [I_400, I_lt] <;> omega), q1]; rfl, by rw [if_pos (by rw [I_400, I_lt] <;> omega), q2]; rfl, hR2⟩
  have f4 : ¬ 400 < I w := by rw [I_400, I_lt] <;> omega
  simp only [if_neg f4]
  obtain ⟨n, hn0, hn6, hn⟩ := I_exB hR.2.1.2.2.2.2.1.2.1 hR.2.1.2.2.2.2.1.2.2
  have hm : M.1 36 30 = I n := hR.2.1.2.2.2.2.1.1.trans hn
  have x30 : ix (30 : Int32) = 30 := rfl
  by_cases c5 : n < 6
  · refine ⟨I (n + 1), seI (seI (seI M 6 n.toNat (I z)) 7 n.toNat (I w)) 1 7 (I (n + 1)), _, ?_, ?_, hR.leg hn hn0 c5 (x := I z) (y := I w) ⟨by rw [I_to] <;> omega, by rw [I_to] <;> omega⟩ ⟨by rw [I_to] <;> omega, by rw [I_to] <;> omega⟩⟩
    · rw [hn, if_pos (by rw [I_6, I_lt] <;> omega), put_in (n := 6) rfl (by decide) (by decide) hn0 (by omega)]
      simp only [bd]
      rw [show (seI M 6 n.toNat (I z)).1 1 7 = I n by rw [seI_ne (by decide), hn], put_in (n := 6) rfl (by decide) (by decide) hn0 (by omega)]
      simp only [bd, nm]
      rw [show (seI (seI M 6 n.toNat (I z)) 7 n.toNat (I w)).1 1 7 = I n by rw [seI_ne (by decide), seI_ne (by decide), hn], I_1, I_add]
      simp [seI_1]
    · generalize hMc : seI (seI (seI M 6 n.toNat (I z)) 7 n.toNat (I w)) 1 7 (I (n + 1)) = Mc
      have e30 : Mc.1 36 30 = I n := by rw [← hMc, seI_ne (by decide), seI_ne (by decide), seI_ne (by decide), hm]
      rw [x30, e30, if_neg (by rw [I_6, I_eq] <;> omega)]
      have a1 : (18 : Int32) + 2 * I n = I (18 + 2 * n) := by rw [I_18, I_2, I_mul, I_add]
      simp only [ck, nm]
      rw [a1, if_pos (show inb (I (18 + 2 * n)) 56 by rw [I_inb] <;> omega), I_ix (by omega) (by omega)]
      have t1 : (18 + 2 * n).toNat = 18 + 2 * n.toNat := by omega
      rw [t1]
      have b1 : (seI Mc 36 (18 + 2 * n.toNat) (I z)).1 36 30 = I n := by rw [seI_1, if_neg (by omega), e30]
      rw [b1, a1, I_1, I_add, if_pos (show inb (I (18 + 2 * n + 1)) 56 by rw [I_inb] <;> omega), I_ix (by omega) (by omega)]
      have t2 : (18 + 2 * n + 1).toNat = 19 + 2 * n.toNat := by omega
      rw [t2]
      have b2 : (seI (seI Mc 36 (18 + 2 * n.toNat) (I z)) 36 (19 + 2 * n.toNat) (I w)).1 36 30 = I n := by rw [seI_1, if_neg (by omega), b1]
      rw [b2, I_add]
      simp [seI_1]
  · have h30 : M1.1 36 30 = I n := by
      have hx := xref N M (j := 6) (by decide) (by decide)
      have : some ((-6 : Int32), M1) = some (I (-6), seI M 33 6 (M.1 33 6 + 1)) := q1.symm.trans hx
      cases this
      rw [seI_ne (by decide), hm]
    exact ⟨-6, M1, M2, by rw [hn, if_neg (by rw [I_6, I_lt] <;> omega), q1]; rfl, by rw [x30, h30, if_pos (by rw [I_6, I_eq] <;> omega), q2]; rfl, hR2⟩
theorem op_piece (N : Nat) (a : Int32) : Op (fun M => f_X6_piece N M a) (fun M => f_X7_piece N M a) := by
  intro M hR
  obtain ⟨z, hz1, hz2, rfl⟩ := I_ex a
  simp only [f_X6_piece, f_X7_piece]
  obtain ⟨n, hn0, hn6, hn⟩ := I_exB hR.2.1.2.2.2.2.2.1.2.1 hR.2.1.2.2.2.2.2.1.2.2
  have hm : M.1 36 (ix 55) = I n := hR.2.1.2.2.2.2.2.1.1.trans hn
  rw [hn]
  by_cases c : z < 0 ∨ n ≤ z
  · refine ⟨-9, M, M, ?_, ?_, hR⟩
    · by_cases c2 : z < 0
      · rw [if_pos (by rw [I_0, I_lt] <;> omega)]
      · rw [if_neg (by rw [I_0, I_lt] <;> omega), if_neg (by rw [I_lt] <;> omega)]
    · rw [hm, isIn_n hz1 hz2 hn0 (by omega) c]
      simp only [bd2, if_true]
  · refine ⟨M.1 4 z.toNat, M, M, ?_, ?_, hR⟩
    · rw [if_neg (by rw [I_0, I_lt] <;> omega), if_pos (by rw [I_lt] <;> omega), at_in (n := 24) rfl (by decide) (by omega) (by omega)]
      rfl
    · rw [hm, isIn_y (by omega) (by omega) (by omega)]
      simp only [bd2, ck]
      have hl := hR.2.1.2.2.2.2.2.2 z.toNat (by omega) (by rw [hn, I_to] <;> omega)
      rw [if_neg (by decide), I_31, I_add, if_pos (show inb (I (31 + z)) 56 by rw [I_inb] <;> omega), I_ix (by omega) (by omega), show (31 + z).toNat = 31 + z.toNat by omega, hl.1]
