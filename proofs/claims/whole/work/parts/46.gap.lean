/-! Part 46: gap and nearer -/
theorem mb {a b : Int} (ha : -960 ≤ a ∧ a ≤ 960) (hb : -960 ≤ b ∧ b ≤ 960) : -921600 ≤ a * b ∧ a * b ≤ 921600 := by
  have h : (a * b).natAbs ≤ 960 * 960 := by
    rw [Int.natAbs_mul]
    exact Nat.mul_le_mul (by omega) (by omega)
  omega
def gW (p : Pl) : Int := p.1 * p.1 + p.2.2.1 * p.2.2.1 + 2 * (p.2.1 * p.2.1 + p.2.2.2 * p.2.2.2)
def gR (p : Pl) : Int := 2 * (p.1 * p.2.1 + p.2.2.1 * p.2.2.2)
theorem g_b {p : Pl} (h : PB p 960) : (-6000000 ≤ gW p ∧ gW p ≤ 6000000) ∧ -6000000 ≤ gR p ∧ gR p ≤ 6000000 := by
  unfold PB at h
  have h1 := mb h.1 h.1
  have h2 := mb h.2.2.1 h.2.2.1
  have h3 := mb h.2.1 h.2.1
  have h4 := mb h.2.2.2 h.2.2.2
  have h5 := mb h.1 h.2.1
  have h6 := mb h.2.2.1 h.2.2.2
  unfold gW gR
  omega
theorem sqW {N : Nat} {M : Mem} {p : Pl} (h : PB p 960) (hN : 2000 < N) : f_X2_squareWhole N M (J (pkp p)) = some (J (gW p), M) := by
  unfold PB at h
  obtain ⟨e1, e2, e3, e4⟩ := xpart (N := N) (M := M) (a := p.1) (b := p.2.1) (c := p.2.2.1) (d := p.2.2.2) (by omega) (by omega) (by omega) (by omega) (by omega)
  unfold f_X2_squareWhole
  rw [show J (pkp p) = J (pk p.1 p.2.1 p.2.2.1 p.2.2.2) from rfl, e1]
  simp only [bd2, nm]
  rw [e2]
  simp only []
  rw [e3]
  simp only []
  rw [e4]
  simp only []
  rw [IJ (by omega) (by omega), IJ (by omega) (by omega), IJ (by omega) (by omega), IJ (by omega) (by omega), J_mul, J_mul, J_mul, J_mul, J_add, J_add, J_2, J_mul, J_add]
  rfl
theorem sqR {N : Nat} {M : Mem} {p : Pl} (h : PB p 960) (hN : 2000 < N) : f_X2_squareRoot N M (J (pkp p)) = some (J (gR p), M) := by
  unfold PB at h
  obtain ⟨e1, e2, e3, e4⟩ := xpart (N := N) (M := M) (a := p.1) (b := p.2.1) (c := p.2.2.1) (d := p.2.2.2) (by omega) (by omega) (by omega) (by omega) (by omega)
  unfold f_X2_squareRoot
  rw [show J (pkp p) = J (pk p.1 p.2.1 p.2.2.1 p.2.2.2) from rfl, e1]
  simp only [bd2, nm]
  rw [e2]
  simp only []
  rw [e3]
  simp only []
  rw [e4]
  simp only []
  rw [IJ (by omega) (by omega), IJ (by omega) (by omega), IJ (by omega) (by omega), IJ (by omega) (by omega), J_mul, J_mul, J_add, J_2, J_mul]
  rfl
theorem gapOf_s {N n : Nat} {M : Mem} {p : Pl} {q : Int32} (hn : n ≤ 24) (h8 : M.1 34 8 = I n) (hA : At M (5 * n) p) : f_X7_gapOf N M q = some (if q = 0 then I (gW p) else I (gR p), M) := by
  obtain ⟨p1, p2, p3, p4⟩ := hA
  unfold f_X7_gapOf
  rw [h8, I_5, I_mul]
  simp only [nm, ck]
  rw [I_1, I_2, I_3, I_add, I_add, I_add, if_pos (show inb (I ((5 : Int) * n)) 125 by rw [I_inb] <;> omega), if_pos (show inb (I ((5 : Int) * n + 1)) 125 by rw [I_inb] <;> omega), if_pos (show inb (I ((5 : Int) * n + 2)) 125 by rw [I_inb] <;> omega), if_pos (show inb (I ((5 : Int) * n + 3)) 125 by rw [I_inb] <;> omega)]
  rw [I_ix (by omega) (by omega), I_ix (by omega) (by omega), I_ix (by omega) (by omega), I_ix (by omega) (by omega), show ((5 : Int) * n).toNat = 5 * n by omega, show ((5 : Int) * n + 1).toNat = 5 * n + 1 by omega, show ((5 : Int) * n + 2).toNat = 5 * n + 2 by omega, show ((5 : Int) * n + 3).toNat = 5 * n + 3 by omega, p1, p2, p3, p4]
  by_cases c : q = 0
  · rw [if_pos c, if_pos c]
    simp only [I_mul, I_add]
    rw [show gW p = p.1 * p.1 + 2 * p.2.1 * p.2.1 + p.2.2.1 * p.2.2.1 + 2 * p.2.2.2 * p.2.2.2 by
      unfold gW
      rw [Int.mul_assoc, Int.mul_assoc, Int.mul_add]
      omega]
  · rw [if_neg c, if_neg c]
    simp only [I_mul, I_add]
    rw [show gR p = 2 * p.1 * p.2.1 + 2 * p.2.2.1 * p.2.2.2 by
      unfold gR
      rw [Int.mul_assoc, Int.mul_assoc, Int.mul_add]]
theorem end_s {N n : Nat} {M : Mem} {x : Int64} (hn : n ≤ 24) (h4 : M.1 17 4 = I n) (h1 : M.2 18 n = x) : f_X5_end N M = some (x, M) := by
  unfold f_X5_end
  rw [h4, pat_in (n := 25) rfl (by decide) (by omega) (by omega)]
  simp only [bd2, Int.toNat_natCast]
  rw [h1]
theorem op_gap (N : Nat) (hN : 2000 < N) (a : Int32) : Op (fun M => f_X6_gap N M a) (fun M => f_X7_gap N M a) := by
  intro M hR
  obtain ⟨z, hz1, hz2, rfl⟩ := I_ex a
  show ∃ r M1 M2, f_X6_gap N M (I z) = some (r, M1) ∧ f_X7_gap N M1 (I z) = some (r, M2) ∧ RelI M2
  by_cases c : z < 0 ∨ 2 ≤ z
  · obtain ⟨M1, M2, q1, q2, hR2⟩ := op_r2 (N := N) hR
    refine ⟨1000000000 - -2, M1, M2, ?_, ?_, hR2⟩
    · simp only [f_X6_gap]
      rw [if_neg (by rw [I_0, I_eq] <;> omega), if_neg (by rw [I_1, I_eq] <;> omega), xreff q1]
      rfl
    · have hin : f_X7_isIn N M1 (I z) 2 = some (0, M1) := by rw [I_2]; exact isIn_n hz1 hz2 (by decide) (by decide) c
      simp only [f_X7_gap]
      rw [hin]
      simp only [bd2, if_true, q2]
  · obtain ⟨n, w, M1, hn, h3, h55, hw, q1, q2, q3, q4, q5, q6, q7, q8⟩ := both (N := N) hR hN
    obtain ⟨M2, g1, g2, g3, g4, g5, g6⟩ := q8 M1 q3 KpR.rf
    have hb := q6 n (Nat.le_refl n)
    have gb := g_b hb
    have hin : f_X7_isIn N M1 (I z) 2 = some (1, M1) := by rw [I_2]; exact isIn_y (by omega) (by omega) (by decide)
    have he : f_X5_end N M1 = some (J (pkp (wf (szf M) w n).1), M1) := end_s hn q2 (q4 n (Nat.le_refl n)).1
    refine ⟨if I z = 0 then I (gW (wf (szf M) w n).1) else I (gR (wf (szf M) w n).1), M1, M2, ?_, ?_, g3⟩
    · simp only [f_X6_gap]
      rw [h3, q1]
      simp only [bd]
      rw [he]
      simp only [bd2]
      rw [sqW hb hN, sqR hb hN]
      simp only []
      rw [JI (by omega) (by omega), JI (by omega) (by omega)]
      by_cases c0 : z = 0
      · subst c0; rfl
      · obtain rfl : z = 1 := by omega
        rfl
    · simp only [f_X7_gap]
      rw [hin]
      simp only [bd2]
      rw [if_neg (show ¬ (1 : Int32) = 0 by decide), g1]
      simp only [bd]
      rw [gapOf_s hn g2 (g4 n (Nat.le_refl n)).1]
theorem op_nearer (N : Nat) (hN : 2000 < N) (a b : Int32) : Op (fun M => f_X6_nearer N M a b) (fun M => f_X7_nearer N M a b) := by
  intro M hR
  show ∃ r M1 M2, f_X6_nearer N M a b = some (r, M1) ∧ f_X7_nearer N M1 a b = some (r, M2) ∧ RelI M2
  by_cases c1 : a < (-1000000 : Int32)
  · obtain ⟨M1, M2, q1, q2, hR2⟩ := op_r4 (N := N) hR
    exact ⟨-4, M1, M2, by simp only [f_X6_nearer]; rw [if_pos c1, q1]; rfl, by simp only [f_X7_nearer]; rw [if_pos c1, q2]; rfl, hR2⟩
  by_cases c2 : ¬ (-1000000 : Int32) ≤ b
  · obtain ⟨M1, M2, q1, q2, hR2⟩ := op_r4 (N := N) hR
    exact ⟨-4, M1, M2, by simp only [f_X6_nearer]; rw [if_neg c1, if_neg c2, q1]; rfl, by simp only [f_X7_nearer]; rw [if_neg c1, if_neg c2, q2]; rfl, hR2⟩
  replace c2 := Decidable.not_not.mp c2
  by_cases c3 : (1000000 : Int32) < a
  · obtain ⟨M1, M2, q1, q2, hR2⟩ := op_r6 (N := N) hR
    exact ⟨-6, M1, M2, by simp only [f_X6_nearer]; rw [if_neg c1, if_pos c2, if_pos c3, q1]; rfl, by simp only [f_X7_nearer]; rw [if_neg c1, if_pos c2, if_pos c3, q2]; rfl, hR2⟩
  by_cases c4 : ¬ b ≤ (1000000 : Int32)
  · obtain ⟨M1, M2, q1, q2, hR2⟩ := op_r6 (N := N) hR
    exact ⟨-6, M1, M2, by simp only [f_X6_nearer]; rw [if_neg c1, if_pos c2, if_neg c3, if_neg c4, q1]; rfl, by simp only [f_X7_nearer]; rw [if_neg c1, if_pos c2, if_neg c3, if_neg c4, q2]; rfl, hR2⟩
  replace c4 := Decidable.not_not.mp c4
  obtain ⟨n, w, M1, hn, h3, h55, hw, q1, q2, q3, q4, q5, q6, q7, q8⟩ := both (N := N) hR hN
  obtain ⟨M2, g1, g2, g3, g4, g5, g6⟩ := q8 M1 q3 KpR.rf
  have hb := q6 n (Nat.le_refl n)
  have gb := g_b hb
  have he : f_X5_end N M1 = some (J (pkp (wf (szf M) w n).1), M1) := end_s hn q2 (q4 n (Nat.le_refl n)).1
  have hA := (g4 n (Nat.le_refl n)).1
  obtain ⟨r, hr⟩ := sg_ex N (J (gW (wf (szf M) w n).1) - Int32.toInt64 a) (J (gR (wf (szf M) w n).1) - Int32.toInt64 b)
  refine ⟨if 0 ≤ r then 0 else 1, M1, M2, ?_, ?_, g3⟩
  · simp only [f_X6_nearer]
    rw [if_neg c1, if_pos c2, if_neg c3, if_pos c4, h3, q1]
    simp only [bd]
    rw [he]
    simp only [bd2]
    rw [sqW hb hN]
    simp only [nm]
    rw [sqR hb hN]
    simp only []
    rw [sg_same, hr]
    simp only [f_X6_yes]
    by_cases c : 0 ≤ r
    · rw [if_pos c, if_pos c]; rfl
    · rw [if_neg c, if_neg c]; rfl
  · simp only [f_X7_nearer]
    rw [if_neg c1, if_pos c2, if_neg c3, if_pos c4, g1]
    simp only [bd]
    have w1 : f_X7_gapOf N M2 0 = some (I (gW (wf (szf M) w n).1), M2) := by rw [gapOf_s hn g2 hA, if_pos rfl]
    have w2 : f_X7_gapOf N M2 1 = some (I (gR (wf (szf M) w n).1), M2) := by rw [gapOf_s hn g2 hA, if_neg (show ¬ (1 : Int32) = 0 by decide)]
    rw [w1]
    simp only [bd2]
    rw [w2]
    simp only []
    rw [IJ (by omega) (by omega), IJ (by omega) (by omega), hr]
    simp only []
    by_cases c : 0 ≤ r
    · rw [if_pos c, if_pos c]
    · rw [if_neg c, if_neg c]
