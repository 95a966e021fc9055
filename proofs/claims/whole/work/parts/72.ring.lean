/-! Part 72: ring, most -/
theorem row_fin {N n : Nat} {Mx M2 : Mem} {w : Nat → Nat} (hRx : RelI Mx) (hn : n ≤ 6) (hN : 2000 < N) (hm : KpR rMS (seI (wrI Mx 4 (fun i => if i < n then Mx.1 25 i else Mx.1 4 i)) 1 3 (I n)) M2) (hx : ∀ k, k < n → Mx.1 25 k = I (w k)) (h2 : ∀ k, k < n → M2.1 43 k = I (w k) ∧ w k < 10) : ∃ M5, f_X7_becomes N M2 43 (I n) = some M5 ∧ RelI M5 := by
  obtain ⟨M5, u1, u2, u3, u4, u5, u6⟩ := mbecomes (N := N) (a0 := 43) (n := n) (M0 := M2) rfl (by decide) hn hN
  have k15 : ∀ a b, rMS a b = true → a ≠ 36 → M5.1 a b = (seI (wrI Mx 4 (fun i => if i < n then Mx.1 25 i else Mx.1 4 i)) 1 3 (I n)).1 a b := fun a b q1 q2 => by rw [u5 a b q2, hm.1 a b q1]
  have kk : KpR rNR Mx M5 := by
    refine ⟨fun a b hb => ?_, fun a b hb => ?_⟩
    · have n4 : a ≠ 4 := by rintro rfl; cases hb
      have n1 : ¬ (a = 1 ∧ b = 3) := by rintro ⟨rfl, rfl⟩; cases hb
      have n36 : a ≠ 36 := by rintro rfl; cases hb
      rw [k15 a b (nr_ms hb) n36, seI_1, if_neg n1, wrI_ne n4]
    · rw [u6, hm.2 a b (nr_ms hb), seI_2, wrI_2]
  refine ⟨M5, u1, hRx.newrow (n := n) (w := w) kk hn (fun c h1 h2 => ?_) ?_ u2 (fun k hk => ⟨?_, ?_, (h2 k hk).2⟩)⟩
  · rw [u4 c h1 h2, hm.1 36 c rfl, seI_ne (by decide), wrI_ne (by decide)]
  · rw [k15 1 3 rfl (by decide), seI_1, if_pos ⟨rfl, rfl⟩]
  · rw [k15 4 k rfl (by decide), seI_ne (by decide), wrI_s, if_pos hk]
    exact hx k hk
  · rw [u3 k hk]
    exact (h2 k hk).1
theorem op_ring (N : Nat) (hN : 2000 < N) (a b c : Int32) (hb : zb b) : Op (fun M => f_X6_ring N M a b c) (fun M => f_X7_ring N M a b c) := by
  intro M hR
  obtain ⟨z, hz1, hz2, rfl⟩ := I_ex a
  obtain ⟨i, hi1, hi2, rfl⟩ := I_ex c
  obtain ⟨lie, rfl⟩ := bI_ex hb
  show ∃ r M1 M2, f_X6_ring N M (I z) (bI lie) (I i) = some (r, M1) ∧ f_X7_ring N M1 (I z) (bI lie) (I i) = some (r, M2) ∧ RelI M2
  by_cases c2 : z < 1
  · obtain ⟨M1, M2, q1, q2, hR2⟩ := op_r4 (N := N) hR
    refine ⟨-4, M1, M2, ?_, ?_, hR2⟩
    · simp only [f_X6_ring]
      rw [if_neg (by rw [I_1, I_le] <;> omega), q1]; rfl
    · simp only [f_X7_ring]
      rw [show f_X7_within N M1 (I z) 1 6 = some (-4, M1) from within_4 (a := 1) (b := 6) hz1 c2 (by decide)]
      simp only [bd2]
      rw [if_neg (by decide), q2]
  by_cases c3 : 6 < z
  · obtain ⟨M1, M2, q1, q2, hR2⟩ := op_r6 (N := N) hR
    refine ⟨-6, M1, M2, ?_, ?_, hR2⟩
    · simp only [f_X6_ring]
      rw [if_pos (by rw [I_1, I_le] <;> omega), if_neg (by rw [I_6, I_le] <;> omega), q1]; rfl
    · simp only [f_X7_ring]
      rw [show f_X7_within N M1 (I z) 1 6 = some (-6, M1) from within_6 (a := 1) (b := 6) hz2 c3 (by decide) (by decide)]
      simp only [bd2]
      rw [if_neg (by decide), q2]
  obtain ⟨n, rfl⟩ : ∃ m : Nat, z = m := ⟨z.toNat, by omega⟩
  have w0' : ∀ M1, f_X7_within N M1 (I n) 1 6 = some (0, M1) := fun M1 => within_y (a := 1) (b := 6) (by omega) (by omega) (by decide) (by decide)
  by_cases c4 : i < 0
  · refine ⟨-9, M, M, ?_, ?_, hR⟩
    · simp only [f_X6_ring]
      rw [if_pos (by rw [I_1, I_le] <;> omega), if_pos (by rw [I_6, I_le] <;> omega), if_neg (by rw [I_0, I_le] <;> omega)]
    · simp only [f_X7_ring]
      rw [w0']
      simp only [bd2]
      rw [if_pos trivial, if_pos (by rw [I_0, I_lt] <;> omega)]
  obtain ⟨Mx, g1, g2, g3, g4⟩ := through_s (N := N) (n := n) (stop := i) lie false hN hR hR KpR.rf (by omega) (by omega) (by omega) hi2
  obtain ⟨x, x1, x2, x3, x4, x5⟩ := rel_rings (N := N) (M0 := M) (sz := szf M) (bx := mkf M) (n := n) (lie := lie) (stop := i) (wanted := I i) (by omega) (fun k hk => (mkf_b hR k hk).1) (by omega) hi2 (fun x hx h => by
    rw [I_lt (by omega) (by omega) (by omega) (by omega)] at h
    rw [I_lt (by omega) (by omega) (by omega) (by omega), I_eq (by omega) (by omega) (by omega) (by omega)]
    omega)
  have hX : f_X6_ring N M (I n) (bI lie) (I i) = if I i < Mx.1 21 9 then bd (f_X0_becomes N Mx 25 (I n)) (fun M7 => some (1, M7)) else some (-9, Mx) := by
    simp only [f_X6_ring]
    rw [if_pos (by rw [I_1, I_le] <;> omega), if_pos (by rw [I_6, I_le] <;> omega), if_pos (by rw [I_0, I_le] <;> omega), show f_X3_through N M (I n) (bI lie) 0 (I i) = _ from g1]
    rfl
  have hM : ∀ M1, f_X7_ring N M1 (I n) (bI lie) (I i) = bd2 (f_X7_ringsOf N M1 (I n) (bI lie) (I i)) fun r7 M6 => if 0 ≤ r7 then bd (f_X7_becomes N M6 43 (I n)) (fun M10 => some (1, M10)) else some (-9, M6) := by
    intro M1
    simp only [f_X7_ring]
    rw [w0']
    simp only [bd2]
    rw [if_pos trivial, if_neg (by rw [I_0, I_lt] <;> omega)]
  have p0 : (0 : Int32) ≤ I i := by rw [I_0, I_le] <;> omega
  by_cases cf : I i < I x
  · have hfl := x4.mpr cf
    have hbc : f_X0_becomes N Mx 25 (I n) = _ := becomes_s (n0 := 6) (n := n) rfl (by decide) (by omega) (by omega) (by decide) hN
    generalize hM1 : seI (wrI Mx 4 (fun i => if i < n then Mx.1 25 i else Mx.1 4 i)) 1 3 (I n) = M1
    have k1 : ∀ a b, a ≠ 4 → a ≠ 1 → M1.1 a b = Mx.1 a b := fun a b q1 q2 => by rw [← hM1, seI_ne q2, wrI_ne q1]
    obtain ⟨M2, h1, h2, h3⟩ := model_s (N := N) (n := n) (M0 := M) (M1 := M1) lie (I i) hN hR (by omega) (by omega) (fun j => by rw [k1 36 j (by decide) (by decide)]; exact g3.1 36 j rfl) (fun k _ => by rw [k1 39 k (by decide) (by decide)]; exact g3.1 39 k rfl) (by rw [k1 34 23 (by decide) (by decide)]; exact g3.1 34 23 rfl)
    rw [← hM1] at h2
    obtain ⟨M5, u1, u2⟩ := row_fin (N := N) (n := n) (w := (mres N M (szf M) n lie (I i) (mkf M)).2.2) g2 (by omega) hN h2 (fun k hk => by
      rw [← x5 hfl]
      exact g4.2.2 (by rw [x2]; exact cf) k hk) (h3 hfl)
    refine ⟨1, M1, M5, ?_, ?_, u2⟩
    · rw [hX, g4.1, x2, if_pos cf, hbc, ← hM1]
      rfl
    · rw [hM, h1]
      simp only [bd2]
      rw [if_pos p0, if_pos hfl, if_pos (by decide), u1]
      rfl
  · have hfl : ¬ (mres N M (szf M) n lie (I i) (mkf M)).2.1 = true := fun h => cf (x4.mp h)
    obtain ⟨M2, h1, h2, -⟩ := model_s (N := N) (n := n) (M0 := M) (M1 := Mx) lie (I i) hN hR (by omega) (by omega) (fun j => g3.1 36 j rfl) (fun k _ => g3.1 39 k rfl) (g3.1 34 23 rfl)
    refine ⟨-9, Mx, M2, ?_, ?_, g2.kp (kpR_kp h2 relv_ms)⟩
    · rw [hX, g4.1, x2, if_neg cf]
    · rw [hM, h1]
      simp only [bd2]
      rw [if_pos p0, if_neg hfl, if_neg (by decide)]
def mval (f : Nat → Bool) : Nat → Int
  | 0 => -9
  | v + 1 => if f (v + 1) = true then ((v + 1 : Nat) : Int) else mval f v
theorem op_most (N : Nat) (hN : 2000 < N) (b : Int32) (hb : zb b) : Op (fun M => f_X6_most N M b) (fun M => f_X7_most N M b) := by
  intro M hR
  obtain ⟨lie, rfl⟩ := bI_ex hb
  show ∃ r M1 M2, f_X6_most N M (bI lie) = some (r, M1) ∧ f_X7_most N M1 (bI lie) = some (r, M2) ∧ RelI M2
  generalize hf : (fun v => (mres N M (szf M) v lie 0 (mkf M)).2.1) = f
  have hfv : ∀ v, (mres N M (szf M) v lie 0 (mkf M)).2.1 = f v := fun v => by rw [← hf]
  have kx : ∀ (v n' : Nat) (M1 : Mem), v ≤ 6 → v < n' → RelI M1 → KpR rXs M M1 → ∃ M', l_X6_most_3 N n' M1 (bI lie) (I v) = some (I (mval f v), M') ∧ RelI M' ∧ KpR rXs M M' := by
    intro v
    induction v with
    | zero =>
      intro n' M1 h1 h2 h3 h4
      obtain ⟨n', rfl⟩ : ∃ q, n' = q + 1 := ⟨n' - 1, by omega⟩
      exact ⟨M1, by rw [l_X6_most_3, if_pos (by decide)]; rfl, h3, h4⟩
    | succ v ih =>
      intro n' M1 h1 h2 h3 h4
      obtain ⟨n', rfl⟩ : ∃ q, n' = q + 1 := ⟨n' - 1, by omega⟩
      obtain ⟨Mx, g1, g2, g3, g4⟩ := through_s (N := N) (n := v + 1) (stop := 0) lie false hN hR h3 h4 (by omega) h1 (by decide) (by decide)
      obtain ⟨x, x1, x2, x3, x4, -⟩ := rel_rings (N := N) (M0 := M) (sz := szf M) (bx := mkf M) (n := v + 1) (lie := lie) (stop := 0) (wanted := 0) h1 (fun k hk => (mkf_b hR k hk).1) (by decide) (by decide) (fun x hx h => by
        rw [I_lt (by omega) (by omega) (by omega) (by omega)] at h
        rw [I_lt (by omega) (by omega) (by omega) (by omega), I_0, I_eq (by omega) (by omega) (by omega) (by omega)]
        omega)
      rw [hfv, I_lt (by omega) (by omega) (by omega) (by omega)] at x4
      have e : l_X6_most_3 N (n' + 1) M1 (bI lie) (I (v + 1 : Nat)) = if Mx.1 21 9 ≤ 0 then l_X6_most_3 N n' Mx (bI lie) (I v) else some (I (v + 1 : Nat), Mx) := by
        rw [l_X6_most_3, if_neg (by rw [I_1, I_lt] <;> omega), show f_X3_through N M1 (I (v + 1 : Nat)) (bI lie) 0 0 = _ from g1]
        simp only [bd]
        rw [show (-1 : Int32) = I (-1) from rfl, I_add, show ((v + 1 : Nat) : Int) + -1 = (v : Nat) by omega]
      rw [e, g4.1, x2]
      unfold mval
      by_cases cf : f (v + 1) = true
      · rw [if_neg (by have := x4.mp cf; rw [I_0, I_le] <;> omega), if_pos cf]
        exact ⟨Mx, rfl, g2, g3⟩
      · rw [if_pos (by have : ¬ (0 : Int) < x := fun h => cf (x4.mpr h); rw [I_0, I_le] <;> omega), if_neg cf]
        exact ih n' Mx (by omega) (by omega) g2 g3
  obtain ⟨Mx, r1, r2, r3⟩ := kx 6 N M (Nat.le_refl 6) (by omega) hR KpR.rf
  have km : ∀ (v n' : Nat) (M1 : Mem), v ≤ 6 → v < n' → KpR rMS Mx M1 → ∃ M', l_X7_most_3 N n' M1 (bI lie) (I v) = some (I (mval f v), M') ∧ KpR rMS Mx M' := by
    intro v
    induction v with
    | zero =>
      intro n' M1 h1 h2 h3
      obtain ⟨n', rfl⟩ : ∃ q, n' = q + 1 := ⟨n' - 1, by omega⟩
      exact ⟨M1, by rw [l_X7_most_3, if_pos (by decide)]; rfl, h3⟩
    | succ v ih =>
      intro n' M1 h1 h2 h3
      obtain ⟨n', rfl⟩ : ∃ q, n' = q + 1 := ⟨n' - 1, by omega⟩
      obtain ⟨M2, g1, g2, -⟩ := model_s (N := N) (n := v + 1) (M0 := M) (M1 := M1) lie 0 hN hR (by omega) h1 (fun j => (h3.1 36 j rfl).trans (r3.1 36 j rfl)) (fun k hk => by
        rcases (show k = 0 ∨ k = 1 ∨ k = 2 ∨ k = 3 ∨ k = 4 by omega) with rfl | rfl | rfl | rfl | rfl <;> exact (h3.1 39 _ rfl).trans (r3.1 39 _ rfl)) ((h3.1 34 23 rfl).trans (r3.1 34 23 rfl))
      rw [hfv, if_pos (by decide)] at g1
      rw [l_X7_most_3, if_neg (by rw [I_0, I_le] <;> omega), g1]
      simp only [bd2]
      unfold mval
      by_cases cf : f (v + 1) = true
      · rw [if_pos cf, if_neg (by decide), if_pos cf]
        exact ⟨M2, rfl, h3.tr g2⟩
      · rw [if_neg cf, if_pos (by decide), if_neg cf, show (-1 : Int32) = I (-1) from rfl, I_add, show ((v + 1 : Nat) : Int) + -1 = (v : Nat) by omega]
        exact ih n' M2 (by omega) (by omega) (h3.tr g2)
  obtain ⟨M2, s1, s2⟩ := km 6 N Mx (Nat.le_refl 6) (by omega) KpR.rf
  exact ⟨_, Mx, M2, r1, s1, r2.kp (kpR_kp s2 relv_ms)⟩
