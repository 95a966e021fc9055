/-! Part 48: off, both sides -/
theorem xon {N m : Nat} {M : Mem} {sd lx ly : Nat → Int} {P : Pl} (hT : TbX M sd m lx ly) (hP : PB P 960) (hN : 2000 < N) : ∃ x, (x = 0 ∧ OutT N sd P ∨ x = 1 ∧ ¬ OutT N sd P) ∧ f_X0_isOnTable N M (J (pkp P)) = some (x, M) := by
  obtain ⟨hs, -⟩ := hT
  unfold PB at hP
  obtain ⟨e1, e2, e3, e4⟩ := xpart (N := N) (M := M) (a := P.1) (b := P.2.1) (c := P.2.2.1) (d := P.2.2.2) (by omega) (by omega) (by omega) (by omega) (by omega)
  obtain ⟨s0, t0⟩ := hs 0 (by decide)
  obtain ⟨s1, t1⟩ := hs 1 (by decide)
  obtain ⟨s2, t2⟩ := hs 2 (by decide)
  obtain ⟨s3, t3⟩ := hs 3 (by decide)
  unfold b4 at t0 t1 t2 t3
  have a0 : f_X6_at shp N M 5 0 = some (I (sd 0), M) := by rw [← s0]; exact at_in (z := 0) (n := 4) rfl (by decide) (by decide) (by decide)
  have a1 : f_X6_at shp N M 5 1 = some (I (sd 1), M) := by rw [← s1]; exact at_in (z := 1) (n := 4) rfl (by decide) (by decide) (by decide)
  have a2 : f_X6_at shp N M 5 2 = some (I (sd 2), M) := by rw [← s2]; exact at_in (z := 2) (n := 4) rfl (by decide) (by decide) (by decide)
  have a3 : f_X6_at shp N M 5 3 = some (I (sd 3), M) := by rw [← s3]; exact at_in (z := 3) (n := 4) rfl (by decide) (by decide) (by decide)
  unfold f_X0_isOnTable
  rw [show J (pkp P) = J (pk P.1 P.2.1 P.2.2.1 P.2.2.2) from rfl, e1]
  simp only [bd2]
  rw [e2]
  simp only []
  rw [e3]
  simp only []
  rw [e4]
  simp only []
  rw [a0]
  simp only []
  rw [I_sub, IJ (by omega) (by omega), IJ (by omega) (by omega), sgv_x]
  simp only []
  by_cases c0 : sgv N (J (P.1 - sd 0)) (J P.2.1) < 0
  · rw [if_pos c0]; exact ⟨0, Or.inl ⟨rfl, Or.inl c0⟩, rfl⟩
  rw [if_neg c0, a1]
  simp only []
  rw [I_sub, IJ (by omega) (by omega), sgv_x]
  simp only []
  by_cases c1 : 0 < sgv N (J (P.1 - sd 1)) (J P.2.1)
  · rw [if_pos c1]; exact ⟨0, Or.inl ⟨rfl, Or.inr (Or.inl c1)⟩, rfl⟩
  rw [if_neg c1, a2]
  simp only []
  rw [I_sub, IJ (by omega) (by omega), IJ (by omega) (by omega), sgv_x]
  simp only []
  by_cases c2 : sgv N (J (P.2.2.1 - sd 2)) (J P.2.2.2) < 0
  · rw [if_pos c2]; exact ⟨0, Or.inl ⟨rfl, Or.inr (Or.inr (Or.inl c2))⟩, rfl⟩
  rw [if_neg c2, a3]
  simp only []
  rw [I_sub, IJ (by omega) (by omega), sgv_x]
  simp only []
  by_cases c3 : 0 < sgv N (J (P.2.2.1 - sd 3)) (J P.2.2.2)
  · rw [if_pos c3]; exact ⟨0, Or.inl ⟨rfl, Or.inr (Or.inr (Or.inr c3))⟩, rfl⟩
  rw [if_neg c3]
  exact ⟨1, Or.inr ⟨rfl, fun h => h.elim c0 (fun h => h.elim c1 (fun h => h.elim c2 c3))⟩, rfl⟩
theorem le_nlt (r : Int32) : r ≤ 0 ↔ ¬ 0 < r := by
  rw [Int32.le_iff_toInt_le, Int32.lt_iff_toInt_lt]
  omega
theorem mon {N m p : Nat} {M : Mem} {sd lx ly : Nat → Int} {P : Pl} (hT : TbM M sd m lx ly) (hp : p ≤ 24) (hA : At M (5 * p) P) (hP : PB P 960) (hN : 2000 < N) : ∃ x, (x = 0 ∧ OffP N sd m lx ly P ∨ x = 1 ∧ ¬ OffP N sd m lx ly P) ∧ f_X7_isOn N M (I p) = some (x, M) := by
  have hA' := hA
  obtain ⟨a1, a2, a3, a4⟩ := hA
  have hs := hT.1
  have hP' := hP
  unfold PB at hP
  obtain ⟨s0, t0⟩ := hs 0 (by decide)
  obtain ⟨s1, t1⟩ := hs 1 (by decide)
  obtain ⟨s2, t2⟩ := hs 2 (by decide)
  obtain ⟨s3, t3⟩ := hs 3 (by decide)
  unfold b4 at t0 t1 t2 t3
  have u0 : M.1 36 (ix (14 : Int32)) = I (sd 0) := s0
  have u1 : M.1 36 (ix (15 : Int32)) = I (sd 1) := s1
  have u2 : M.1 36 (ix (16 : Int32)) = I (sd 2) := s2
  have u3 : M.1 36 (ix (17 : Int32)) = I (sd 3) := s3
  unfold f_X7_isOn
  have f0 : (5 : Int32) * I p = I ((5 : Int) * p) := I_mul 5 p
  have f1 : I ((5 : Int) * p) + 1 = I ((5 : Int) * p + 1) := I_add _ 1
  have f2 : I ((5 : Int) * p) + 2 = I ((5 : Int) * p + 2) := I_add _ 2
  have f3 : I ((5 : Int) * p) + 3 = I ((5 : Int) * p + 3) := I_add _ 3
  have i0 : inb (I ((5 : Int) * p)) 125 := by rw [I_inb] <;> omega
  have i1 : inb (I ((5 : Int) * p + 1)) 125 := by rw [I_inb] <;> omega
  have i2 : inb (I ((5 : Int) * p + 2)) 125 := by rw [I_inb] <;> omega
  have i3 : inb (I ((5 : Int) * p + 3)) 125 := by rw [I_inb] <;> omega
  have k0 : ix (I ((5 : Int) * p)) = 5 * p := by rw [I_ix (by omega) (by omega)]; omega
  have k1 : ix (I ((5 : Int) * p + 1)) = 5 * p + 1 := by rw [I_ix (by omega) (by omega)]; omega
  have k2 : ix (I ((5 : Int) * p + 2)) = 5 * p + 2 := by rw [I_ix (by omega) (by omega)]; omega
  have k3 : ix (I ((5 : Int) * p + 3)) = 5 * p + 3 := by rw [I_ix (by omega) (by omega)]; omega
  simp only [nm, ck, f0, f1, f2, f3, if_pos i0, if_pos i1, if_pos i2, if_pos i3, k0, k1, k2, k3]
  rw [u0, a1, a2, IJ (by omega) (by omega), IJ (by omega) (by omega), IJ (by omega) (by omega), J_sub, sgv_s]
  simp only [bd2]
  by_cases c0 : sgv N (J (P.1 - sd 0)) (J P.2.1) < 0
  · rw [if_pos c0]; exact ⟨0, Or.inl ⟨rfl, Or.inl (Or.inl c0)⟩, rfl⟩
  rw [if_neg c0, u1, a1, a2, IJ (by omega) (by omega), IJ (by omega) (by omega), IJ (by omega) (by omega), J_sub, sgv_s]
  simp only []
  by_cases c1 : 0 < sgv N (J (P.1 - sd 1)) (J P.2.1)
  · rw [if_neg (fun h => (le_nlt _).mp h c1)]; exact ⟨0, Or.inl ⟨rfl, Or.inl (Or.inr (Or.inl c1))⟩, rfl⟩
  rw [if_pos ((le_nlt _).mpr c1), u2, a3, a4, IJ (by omega) (by omega), IJ (by omega) (by omega), IJ (by omega) (by omega), J_sub, sgv_s]
  simp only []
  by_cases c2 : sgv N (J (P.2.2.1 - sd 2)) (J P.2.2.2) < 0
  · rw [if_pos c2]; exact ⟨0, Or.inl ⟨rfl, Or.inl (Or.inr (Or.inr (Or.inl c2)))⟩, rfl⟩
  rw [if_neg c2, u3, a3, a4, IJ (by omega) (by omega), IJ (by omega) (by omega), IJ (by omega) (by omega), J_sub, sgv_s]
  simp only []
  by_cases c3 : 0 < sgv N (J (P.2.2.1 - sd 3)) (J P.2.2.2)
  · rw [if_neg (fun h => (le_nlt _).mp h c3)]; exact ⟨0, Or.inl ⟨rfl, Or.inl (Or.inr (Or.inr (Or.inr c3)))⟩, rfl⟩
  rw [if_pos ((le_nlt _).mpr c3)]
  have nT : ¬ OutT N sd P := fun h => h.elim c0 (fun h => h.elim c1 (fun h => h.elim c2 c3))
  by_cases d1 : P.2.1 = 0
  · rw [if_pos (by rw [a2, d1]; rfl)]
    by_cases d2 : P.2.2.2 = 0
    · rw [if_pos (by rw [a4, d2]; rfl)]
      obtain ⟨x, x1, x2⟩ := mleg (N := N) (p := 5 * p) hT (by omega) hA' hP' d1 d2 hN
      rw [show ((5 * p : Nat) : Int) = 5 * p by omega] at x2
      refine ⟨x, ?_, x2⟩
      rcases x1 with ⟨rfl, h⟩ | ⟨rfl, h⟩
      · exact Or.inl ⟨rfl, Or.inr h⟩
      · exact Or.inr ⟨rfl, fun h' => h'.elim nT h⟩
    · rw [if_neg (by rw [a4, I_0, I_eq] <;> omega)]
      exact ⟨1, Or.inr ⟨rfl, fun h' => by
        rcases h' with h' | ⟨k, hk, h'⟩
        · exact nT h'
        · exact d2 (by rw [h'])⟩, rfl⟩
  · rw [if_neg (by rw [a2, I_0, I_eq] <;> omega)]
    exact ⟨1, Or.inr ⟨rfl, fun h' => by
      rcases h' with h' | ⟨k, hk, h'⟩
      · exact nT h'
      · exact d1 (by rw [h'])⟩, rfl⟩
/-- the first joint off the table: one number for both sides -/
theorem off_same {N n m : Nat} {M M2 : Mem} {sd lx ly : Nat → Int} {P : Nat → Pl} (hn : n ≤ 24) (hT : TbX M sd m lx ly) (hT2 : TbM M2 sd m lx ly) (h4 : M.1 17 4 = I n) (h8 : M2.1 34 8 = I n) (hp : ∀ i, i ≤ n → M.2 18 i = J (pkp (P i))) (hA : ∀ i, i ≤ n → At M2 (5 * i) (P i)) (hb : ∀ i, i ≤ n → PB (P i) 960) (hN : 2000 < N) :
    ∃ x, f_X0_firstOff N M = some (x, M) ∧ f_X7_offOf N M2 = some (x, M2) := by
  have key : ∀ (r j n' : Nat), j + r = n + 1 → r < n' → ∃ x, l_X0_firstOff_2 N n' M (I j) = some (x, M) ∧ l_X7_offOf_2 N n' M2 (I j) = some (x, M2) := by
    intro r
    induction r with
    | zero =>
      intro j n' h1 h2
      obtain ⟨n', rfl⟩ : ∃ q, n' = q + 1 := ⟨n' - 1, by omega⟩
      refine ⟨-9, ?_, ?_⟩
      · rw [l_X0_firstOff_2, h4, if_pos (by rw [I_lt] <;> omega)]
      · rw [l_X7_offOf_2, h8, if_pos (by rw [I_lt] <;> omega)]
    | succ r ih =>
      intro j n' h1 h2
      obtain ⟨n', rfl⟩ : ∃ q, n' = q + 1 := ⟨n' - 1, by omega⟩
      obtain ⟨x, x1, x2⟩ := xon (N := N) hT (hb j (by omega)) hN
      obtain ⟨y, y1, y2⟩ := xleg (N := N) hT (hb j (by omega)) hN
      obtain ⟨z, z1, z2⟩ := mon (N := N) (p := j) hT2 (by omega) (hA j (by omega)) (hb j (by omega)) hN
      obtain ⟨v, v1, v2⟩ := ih (j + 1) n' (by omega) (by omega)
      rw [l_X0_firstOff_2, h4, if_neg (by rw [I_lt] <;> omega), pat_in (n := 25) rfl (by decide) (by omega) (by omega), l_X7_offOf_2, h8, if_neg (by rw [I_lt] <;> omega), z2]
      simp only [bd2, Int.toNat_natCast]
      rw [hp j (by omega), x2]
      simp only []
      rw [y2]
      simp only []
      rw [I_1, I_add]
      rcases x1 with ⟨rfl, hx⟩ | ⟨rfl, hx⟩
      · rcases z1 with ⟨rfl, hz⟩ | ⟨rfl, hz⟩
        · exact ⟨I j, by rw [if_pos rfl], by rw [if_pos rfl]⟩
        · exact absurd (Or.inl hx) hz
      · rw [if_neg (show ¬ (1 : Int32) = 0 by decide)]
        rcases y1 with ⟨rfl, hy⟩ | ⟨rfl, hy⟩
        · rcases z1 with ⟨rfl, hz⟩ | ⟨rfl, hz⟩
          · exact ⟨I j, by rw [if_neg (show ¬ (1 : Int32) = 0 by decide)], by rw [if_pos rfl]⟩
          · exact absurd (Or.inr hy) hz
        · rcases z1 with ⟨rfl, hz⟩ | ⟨rfl, hz⟩
          · rcases hz with hz | hz
            · exact absurd hz hx
            · exact absurd hz hy
          · exact ⟨v, by rw [if_pos rfl]; exact v1, by rw [if_neg (show ¬ (1 : Int32) = 0 by decide)]; exact v2⟩
  exact key (n + 1) 0 N (by omega) (by omega)
theorem op_off (N : Nat) (hN : 2000 < N) : Op (fun M => f_X6_off N M) (fun M => f_X7_off N M) := by
  intro M hR
  obtain ⟨n, w, M1, hn, h3, h55, hw, q1, q2, q3, q4, q5, q6, q7, q8⟩ := both (N := N) hR hN
  obtain ⟨M2, g1, g2, g3, g4, g5, g6⟩ := q8 M1 q3 KpR.rf
  obtain ⟨sd, m, lx, ly, t1, t2⟩ := tb_ex q3
  obtain ⟨x, x1, x2⟩ := off_same (N := N) hn t1 (t2.kp (fun j => g6.1 36 j rfl)) q2 g2 (fun i hi => (q4 i hi).1) (fun i hi => (g4 i hi).1) q6 hN
  refine ⟨x, M1, M2, ?_, ?_, g3⟩
  · simp only [f_X6_off]
    rw [h3, q1]
    simp only [bd, bd2, x1]
  · simp only [f_X7_off]
    rw [g1]
    simp only [bd, bd2, x2]
