/-! Part 74: two new objects -/
theorem clr_id {M : Mem} {k : Nat} (h1 : ∀ j, M.1 k j = 0) (h2 : ∀ j, M.2 k j = 0) : clr M k = M := by
  apply Prod.ext
  · funext a b
    show (if a = k then 0 else M.1 a b) = M.1 a b
    split
    · rename_i e; rw [e, h1]
    · rfl
  · funext a b
    show (if a = k then 0 else M.2 a b) = M.2 a b
    split
    · rename_i e; rw [e, h2]
    · rfl
theorem Mz_0 {k : Nat} (h : k < 45) (j : Nat) : Mz.1 k j = 0 := if_neg (by omega)
def iA1 : Mem := wrI Mz 3 (fun i => if i < 7 then Mz.1 49 i else Mz.1 3 i)
def iA2 : Mem := wrI iA1 5 (fun i => if i < 4 then iA1.1 50 i else iA1.1 5 i)
def iA3 : Mem := wrI iA2 10 (fun i => if i < 7 then iA2.1 49 i else iA2.1 10 i)
def iA4 : Mem := wrI iA3 12 (fun i => if i < 4 then iA3.1 50 i else iA3.1 12 i)
theorem iA2_0 {k : Nat} (h : 8 ≤ k) (h2 : k < 45) : clr iA2 k = iA2 := clr_id (fun j => by
  unfold iA2 iA1
  rw [wrI_ne (by omega), wrI_ne (by omega)]
  exact Mz_0 h2 j) (fun _ => rfl)
theorem iA4_0 {k : Nat} (h : 15 ≤ k) (h2 : k < 45) : (∀ j, iA4.1 k j = 0) ∧ clr iA4 k = iA4 := by
  have e : ∀ j, iA4.1 k j = 0 := fun j => by
    unfold iA4 iA3 iA2 iA1
    rw [wrI_ne (by omega), wrI_ne (by omega), wrI_ne (by omega), wrI_ne (by omega)]
    exact Mz_0 h2 j
  exact ⟨e, clr_id e (fun _ => rfl)⟩
theorem init_x {N : Nat} (hN : 2000 < N) : f_X6_init_0 N (clr Mz 0) = bd (f_X1_measure N iA4 3) some := by
  have z0 : ∀ k, k < 45 → clr Mz k = Mz := fun k hk => clr_id (Mz_0 hk) (fun _ => rfl)
  have c1 : f_X6_copyAll (shT tb_13) N Mz 49 3 = some iA1 := copyAll_s (n0 := 7) (n1 := 7) rfl rfl (by decide) (by decide) (by decide) (by decide) hN
  have c2 : f_X6_copyAll (shT tb_13) N iA1 50 5 = some iA2 := copyAll_s (n0 := 4) (n1 := 4) rfl rfl (by decide) (by decide) (by decide) (by decide) hN
  have c3 : f_X6_copyAll (shT tb_27) N iA2 49 10 = some iA3 := copyAll_s (n0 := 7) (n1 := 7) rfl rfl (by decide) (by decide) (by decide) (by decide) hN
  have c4 : f_X6_copyAll (shT tb_27) N iA3 50 12 = some iA4 := copyAll_s (n0 := 4) (n1 := 4) rfl rfl (by decide) (by decide) (by decide) (by decide) hN
  unfold f_X6_init_0 f_X0_init_1 f_X0_init_8 f_X1_init_15 f_X5_init_17 f_X3_init_21 f_X4_init_27
  simp only [nm]
  rw [z0 0 (by decide), z0 1 (by decide), z0 2 (by decide), z0 3 (by decide), z0 4 (by decide), z0 5 (by decide), z0 6 (by decide), z0 7 (by decide), c1]
  simp only [bd]
  rw [c2]
  simp only []
  rw [iA2_0 (by decide) (by decide), iA2_0 (by decide) (by decide), iA2_0 (by decide) (by decide), iA2_0 (by decide) (by decide), iA2_0 (by decide) (by decide), iA2_0 (by decide) (by decide), iA2_0 (by decide) (by decide), c3]
  simp only []
  rw [c4]
  simp only []
  rw [(iA4_0 (k := 15) (by decide) (by decide)).2, (iA4_0 (k := 16) (by decide) (by decide)).2, (iA4_0 (k := 17) (by decide) (by decide)).2, (iA4_0 (k := 18) (by decide) (by decide)).2, (iA4_0 (k := 19) (by decide) (by decide)).2, (iA4_0 (k := 20) (by decide) (by decide)).2, (iA4_0 (k := 21) (by decide) (by decide)).2, (iA4_0 (k := 22) (by decide) (by decide)).2, (iA4_0 (k := 23) (by decide) (by decide)).2, (iA4_0 (k := 24) (by decide) (by decide)).2, (iA4_0 (k := 25) (by decide) (by decide)).2, (iA4_0 (k := 26) (by decide) (by decide)).2, (iA4_0 (k := 27) (by decide) (by decide)).2, (iA4_0 (k := 28) (by decide) (by decide)).2, (iA4_0 (k := 29) (by decide) (by decide)).2, (iA4_0 (k := 30) (by decide) (by decide)).2, (iA4_0 (k := 31) (by decide) (by decide)).2, (iA4_0 (k := 32) (by decide) (by decide)).2, (iA4_0 (k := 33) (by decide) (by decide)).2]
/-- the reference's layout, written -/
def iB (M : Mem) : Mem := seI (seI (seI (seI (seI (seI (seI (seI (seI (seI (seI M 36 7 4) 36 8 2) 36 9 1) 36 10 4) 36 11 6) 36 12 4) 36 13 4) 36 14 (-400)) 36 15 400) 36 16 (-400)) 36 17 400
theorem init_m {N : Nat} {M : Mem} (h1 : M.1 = iA4.1) (h2 : ∀ a, a ≠ 16 → M.2 a = iA4.2 a) : f_X7_init_34 N (clr M 34) = some (iB M) := by
  have z : ∀ k, 34 ≤ k → k < 45 → clr M k = M := fun k h3 h4 => clr_id (fun j => by rw [h1]; exact (iA4_0 (by omega) h4).1 j) (fun j => by rw [h2 k (by omega)]; rfl)
  unfold f_X7_init_34 f_X7_sizes
  simp only [nm]
  rw [z 34 (by decide) (by decide), z 35 (by decide) (by decide), z 36 (by decide) (by decide), z 37 (by decide) (by decide), z 38 (by decide) (by decide), z 39 (by decide) (by decide), z 40 (by decide) (by decide), z 41 (by decide) (by decide), z 42 (by decide) (by decide), z 43 (by decide) (by decide), z 44 (by decide) (by decide)]
  rfl
theorem iB_1 {M : Mem} (h1 : M.1 = iA4.1) : (iB M).1 = (iB iA4).1 := by
  unfold iB seI
  dsimp only
  rw [h1]
theorem iB_ne {a : Nat} (h : a ≠ 36) : (iB iA4).1 a = iA4.1 a := by
  unfold iB
  rw [seI_ne h, seI_ne h, seI_ne h, seI_ne h, seI_ne h, seI_ne h, seI_ne h, seI_ne h, seI_ne h, seI_ne h, seI_ne h]
theorem iSta : ∀ k, k < 6 → ∀ j, j < sln k → iA4.1 (45 + k) j = sdt k j := by
  intro k hk j hj
  unfold iA4 iA3 iA2 iA1
  rw [wrI_ne (by omega), wrI_ne (by omega), wrI_ne (by omega), wrI_ne (by omega)]
  exact Mz_st k j hk hj
theorem iLay1 : ∀ k, k < 7 → (iB iA4).1 36 k = (iB iA4).1 2 k ∧ 0 ≤ ((iB iA4).1 2 k).toInt ∧ ((iB iA4).1 2 k).toInt ≤ 9 := by decide +kernel
theorem iLay2 : ∀ k, k < 7 → (iB iA4).1 36 (7 + k) = (iB iA4).1 3 k ∧ 1 ≤ ((iB iA4).1 3 k).toInt ∧ ((iB iA4).1 3 k).toInt ≤ 20 := by decide +kernel
theorem iLay3 : ∀ k, k < 4 → (iB iA4).1 36 (14 + k) = (iB iA4).1 5 k ∧ -400 ≤ ((iB iA4).1 5 k).toInt ∧ ((iB iA4).1 5 k).toInt ≤ 400 := by decide +kernel
theorem iLay4 : ∀ k, k < 6 → (iB iA4).1 36 (18 + 2 * k) = (iB iA4).1 6 k ∧ (iB iA4).1 36 (19 + 2 * k) = (iB iA4).1 7 k ∧ (-400 ≤ ((iB iA4).1 6 k).toInt ∧ ((iB iA4).1 6 k).toInt ≤ 400) ∧ -400 ≤ ((iB iA4).1 7 k).toInt ∧ ((iB iA4).1 7 k).toInt ≤ 400 := by decide +kernel
theorem iLay5 : (iB iA4).1 36 30 = 0 ∧ (iB iA4).1 1 7 = 0 ∧ (iB iA4).1 36 55 = 0 ∧ (iB iA4).1 1 3 = 0 := by decide +kernel
theorem iRel {M : Mem} (h1 : M.1 = (iB iA4).1) (h2 : ∀ a, a ≠ 16 → M.2 a = iA4.2 a) (hP : Sps M) : RelI M := by
  obtain ⟨l1, l2, l3, l4⟩ := iLay5
  have n0 : ∀ a j, 15 ≤ a → a < 45 → a ≠ 36 → M.1 a j = 0 := fun a j q1 q2 q3 => by
    rw [h1, iB_ne q3]
    exact (iA4_0 q1 q2).1 j
  have o0 : ∀ j, M.1 0 j = 0 := fun j => by
    rw [h1, iB_ne (by decide)]
    unfold iA4 iA3 iA2 iA1
    rw [wrI_ne (by decide), wrI_ne (by decide), wrI_ne (by decide), wrI_ne (by decide)]
    exact Mz_0 (by decide) j
  refine ⟨fun k j hk hj => ?_, ⟨?_, ?_, ?_, ?_, ?_, ?_, ?_⟩, ⟨?_, Or.inl (o0 2), fun h => ?_⟩, ⟨?_, ?_, fun k _ hk => ?_⟩, ⟨?_, ?_, fun k _ hk => ?_⟩, fun k hk => ?_, hP, Or.inl (n0 21 6 (by decide) (by decide) (by decide)), ⟨?_, ?_, fun k hk => ?_, ?_⟩⟩
  · rw [h1, iB_ne (by omega)]
    exact iSta k hk j hj
  · rw [h1]; exact iLay1
  · rw [h1]; exact iLay2
  · rw [h1]; exact iLay3
  · rw [h1]; exact iLay4
  · rw [h1, l1, l2]
    exact ⟨rfl, by unfold Bd; decide⟩
  · rw [h1, l3, l4]
    exact ⟨rfl, by unfold Bd; decide⟩
  · intro k _ hk
    rw [h1, l4, show (0 : Int32).toInt = 0 from rfl] at hk
    omega
  · rw [n0 34 3 (by decide) (by decide) (by decide), o0]
  · rw [o0] at h
    exact absurd h (by decide)
  · rw [n0 34 5 (by decide) (by decide) (by decide), o0]
  · rw [o0]; unfold Bd; decide
  · rw [o0, show (0 : Int32).toInt = 0 from rfl] at hk
    omega
  · rw [n0 34 21 (by decide) (by decide) (by decide), o0]
  · rw [o0]; unfold Bd; decide
  · rw [o0, show (0 : Int32).toInt = 0 from rfl] at hk
    omega
  · rw [n0 35 k (by decide) (by decide) (by decide), n0 33 k (by decide) (by decide) (by decide)]
  · rw [h2 18 (by decide)]; rfl
  · exact n0 19 0 (by decide) (by decide) (by decide)
  · exact n0 39 k (by decide) (by decide) (by decide)
  · exact n0 34 23 (by decide) (by decide) (by decide)
theorem init_all {N : Nat} (hN : 2000 < N) : ∃ M1 M2, f_X6_init_0 N (clr Mz 0) = some M1 ∧ f_X7_init_34 N (clr M1 34) = some M2 ∧ RelI M2 := by
  have hz : ∀ k, k < 7 → Bd (iA4.1 3 k) 1 20 := fun k hk => by
    have := (iLay2 k hk).2
    rw [iB_ne (by decide)] at this
    exact this
  obtain ⟨M', q1, q2, q3, -, q5⟩ := meas (N := N) (M0 := iA4) (fun k j hk hj => iSta k hk j hj) hz (by omega) 10 0 N iA4 rfl (by omega) rfl
  refine ⟨M', iB M', ?_, init_m q2 q3, iRel (iB_1 q2) (fun a ha => ?_) (fun d l hd hl => ?_)⟩
  · rw [init_x hN]
    unfold f_X1_measure
    rw [show l_X1_measure_2 N 3 N iA4 0 = some M' from q1]
    rfl
  · show M'.2 a = _
    exact q3 a ha
  · have e : szf (iB M') = szf iA4 := szf.kp (fun j => by rw [iB_1 q2, iB_ne (by decide)])
    rw [e]
    exact q5 d l hd (Nat.zero_le _) hl
