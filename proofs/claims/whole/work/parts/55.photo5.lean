/-! Part 55: photo, both sides -/
theorem op_photo (N : Nat) (hN : 2000 < N) : Op (fun M => f_X6_photo N M) (fun M => f_X7_photo N M) := by
  intro M hR
  obtain ⟨u1, u2, u3⟩ := hR.2.2.2.2.1
  obtain ⟨z, hz0, hz6, hz⟩ := I_exB u2.1 u2.2
  obtain ⟨m, rfl⟩ : ∃ m : Nat, z = m := ⟨z.toNat, by omega⟩
  have hm : m ≤ 6 := by omega
  rw [hz] at u1 u3
  rw [I_to (by omega) (by omega)] at u3
  generalize htt : (fun i => (M.1 32 i).toInt) = tt
  have h32 : ∀ i, i < m → M.1 32 i = I (tt i) := fun i hi => by rw [← htt]; exact (I_of _).symm
  have h42 : ∀ i, i < m → M.1 42 i = I (tt i) := fun i hi => (u3 i (by omega) (by omega)).1.trans (h32 i hi)
  have ht : ∀ i, i < m → -2 ≤ tt i ∧ tt i ≤ 2 := fun i hi => by rw [← htt]; exact (u3 i (by omega) (by omega)).2
  have hsb := sumt_b ht m 0 (by omega)
  have hsz := szf_b hR
  have hbx : ∀ k, k < 7 → M.1 2 k = I (mkf M k) ∧ 0 ≤ mkf M k ∧ mkf M k ≤ 9 := fun k hk => ⟨(I_of _).symm, (hR.2.1.1 k hk).2⟩
  have hcv0 : ¬ sumt tt 0 m % 8 = 0 → cntw (szf M) tt m 0 w0 (mkf M) = 0 := fun h => cntw_0 m 0 w0 (mkf M) (by decide) (by
    show ((0 : Int) + sumt tt 0 m) % 8 ≠ 0
    rw [Int.zero_add]
    exact h)
  have hX : ∃ Mx, f_X6_photo N M = some (I ((if m = 0 then 0 else cntw (szf M) tt m 0 w0 (mkf M) : Nat)), Mx) ∧ (∀ a b, a ≠ 28 → Mx.1 a b = (seI M 0 10 0).1 a b) ∧ Mx.2 = M.2 := by
    obtain ⟨n', hr⟩ := rows_s (N := N) (M := seI M 0 10 0) hm (fun i hi => by rw [seI_ne (by decide)]; exact h32 i hi) hN
    simp only [f_X6_photo, nm]
    rw [hz, hr, l_X4_rowsOf_5, if_pos (show I m ≤ I m by rw [I_le] <;> omega)]
    by_cases c0 : m = 0
    · rw [if_pos (show I m < 1 by rw [I_1, I_lt] <;> omega), if_pos c0]
      exact ⟨_, rfl, fun _ _ _ => rfl, rfl⟩
    · rw [if_neg (show ¬ I m < 1 by rw [I_1, I_lt] <;> omega), if_neg c0]
      by_cases c8 : sumt tt 0 m % 8 = 0
      · rw [if_pos ((mod8 (by omega) (by omega)).mpr c8), copyAll_s (n0 := 7) (n1 := 7) rfl rfl (by decide) (by decide) (by decide) (by decide) hN]
        have im : imin (I m) 6 = I m := by
          unfold imin
          rw [if_neg (by rw [I_6, I_lt] <;> omega)]
        have hx := xturns (N := N) (sz := szf M) hm hsz ht hN m 12 0 (wrI (seI M 0 10 0) 28 (fun i => if i < 7 then (seI M 0 10 0).1 2 i else (seI M 0 10 0).1 28 i)) w0 (mkf M) (by omega) (by omega) (hR.1.kp ((KpR.rf.I rfl).W (fun _ => rfl))) (hR.2.2.2.2.2.2.1.kp ((KpR.rf.I rfl).W (fun _ => rfl))) (szf.kp (fun j => by rw [wrI_ne (by decide), seI_ne (by decide)])) (fun i hi => by rw [wrI_ne (by decide), seI_ne (by decide)]; exact h32 i hi) (fun k hk => by rw [wrI_s, if_pos hk, seI_ne (by decide)]; exact hbx k hk) (by unfold PB; decide) (by decide)
        simp only [bd, bd2]
        rw [im, show (0 : Int64) = J (pkp w0.1) from rfl]
        refine ⟨wrI (seI M 0 10 0) 28 (fun i => if i < 7 then (seI M 0 10 0).1 2 i else (seI M 0 10 0).1 28 i), ?_, fun a b ha => by rw [wrI_ne ha], rfl⟩
        rw [show f_X4_layTurns N 12 _ 0 (I m) (J (pkp w0.1)) 0 32 = _ from hx]
      · rw [if_neg (fun h => c8 ((mod8 (by omega) (by omega)).mp h)), hcv0 c8]
        exact ⟨_, rfl, fun _ _ _ => rfl, rfl⟩
  obtain ⟨Mx, x1, x2, x3⟩ := hX
  have hRb := hR.noturns
  have h21 : Mx.1 34 21 = I m := by rw [x2 34 21 (by decide), seI_ne (by decide), u1]
  have hM : ∃ M2, f_X7_photo N Mx = some (I ((if m = 0 then 0 else cntw (szf M) tt m 0 w0 (mkf M) : Nat)), M2) ∧ Kp (seI (seI M 0 10 0) 34 21 0) M2 := by
    have kx : Kp (seI (seI M 0 10 0) 34 21 0) (seI Mx 34 21 0) := by
      refine ⟨fun a b hb => ?_, fun a b hb => by rw [seI_2, seI_2, seI_2, x3]⟩
      rw [seI_1, seI_1]
      by_cases e : a = 34 ∧ b = 21
      · rw [if_pos e, if_pos e]
      · rw [if_neg e, if_neg e]
        refine x2 a b ?_
        rintro rfl
        cases hb
    simp only [f_X7_photo, nm]
    rw [h21]
    by_cases c0 : m = 0
    · rw [if_pos (by rw [c0]; rfl), if_pos c0]
      exact ⟨_, rfl, kx⟩
    · rw [if_neg (show ¬ I m = 0 by rw [I_0, I_eq] <;> omega), if_neg c0]
      obtain ⟨M3, b1, b2, b3, b4, b5⟩ := begins_s (N := N) (n := m) (M := seI Mx 34 21 0) hN
      have k3 : ∀ a b, a ≠ 41 → a ≠ 28 → a ≠ 34 → a ≠ 0 → M3.1 a b = M.1 a b := fun a b q1 q2 q3 q4 => by rw [b4 a b q1 (by omega), seI_ne q3, x2 a b q2, seI_ne q4]
      obtain ⟨M6, g1, g2, g3⟩ := mturns (N := N) (n := m) (sz := szf M) hm (by omega) hsz ht hN m 12 0 0 (seI M3 34 18 0) w0 (mkf M) (by omega) (by omega)
        (fun k hk => by rw [seI_ne (by decide), k3 _ _ (by decide) (by decide) (by decide) (by decide), (hR.2.1.2.1 k hk).1]; exact szf_I)
        (by rw [seI_1, if_neg (by decide)]; exact b2)
        (by rw [seI_1, if_neg (by decide), b4 34 23 (by decide) (by decide), seI_1, if_neg (by decide), x2 34 23 (by decide), seI_ne (by decide)]; exact hR.2.2.2.2.2.2.2.2.2.2.2)
        (by rw [seI_1, if_pos ⟨rfl, rfl⟩]; rfl)
        (fun i hi => by rw [seI_ne (by decide), k3 _ _ (by decide) (by decide) (by decide) (by decide)]; exact h42 i hi)
        (fun k hk => by
          rw [seI_ne (by decide), b3 k hk, seI_ne (by decide), x2 36 k (by decide), seI_ne (by decide), (hR.2.1.1 k hk).1]
          exact hbx k hk)
        (by
          have h0 := hR.2.2.2.2.2.2.2.2.2.2.1
          unfold At
          rw [seI_ne (by decide), k3 _ _ (by decide) (by decide) (by decide) (by decide), k3 _ _ (by decide) (by decide) (by decide) (by decide), k3 _ _ (by decide) (by decide) (by decide) (by decide), k3 _ _ (by decide) (by decide) (by decide) (by decide), h0 _ (by decide), h0 _ (by decide), h0 _ (by decide), h0 _ (by decide)]
          exact ⟨rfl, rfl, rfl, rfl⟩)
        (by
          have h0 := hR.2.2.2.2.2.2.2.2.2.2.1
          unfold At
          rw [seI_ne (by decide), k3 _ _ (by decide) (by decide) (by decide) (by decide), k3 _ _ (by decide) (by decide) (by decide) (by decide), k3 _ _ (by decide) (by decide) (by decide) (by decide), k3 _ _ (by decide) (by decide) (by decide) (by decide), h0 _ (by decide), h0 _ (by decide), h0 _ (by decide), h0 _ (by decide)]
          exact ⟨rfl, rfl, rfl, rfl⟩)
        (by rw [seI_ne (by decide), k3 _ _ (by decide) (by decide) (by decide) (by decide), hR.2.2.2.2.2.2.2.2.2.2.1 _ (by decide)]; rfl)
        (by unfold PB; decide) (by decide)
      refine ⟨M6, ?_, kx.tr ⟨fun a b hb => ?_, fun a b hb => by rw [g2.2.1, seI_2, b5]⟩⟩
      · rw [b1]
        simp only [bd]
        rw [show f_X7_goesOn N 12 (seI M3 34 18 0) 0 2 = _ from g1]
        simp only []
        rw [g3, Nat.zero_add]
      · by_cases e39 : a = 39
        · subst e39
          have hb : Nat.blt b 5 = true := hb
          have h3 : Nat.ble (b + 1) 5 = true := hb
          have h4 := Nat.ble_eq.mp h3
          rw [g2.2.2.1 b (by omega), seI_ne (by decide), b4 39 b (by decide) (by omega)]
        · have e40 : a ≠ 40 := by rintro rfl; cases hb
          have e41 : a ≠ 41 := by rintro rfl; cases hb
          have e34 : ¬ (a = 34 ∧ (b = 8 ∨ b = 9 ∨ b = 10 ∨ b = 18)) := by
            rintro ⟨rfl, rfl | rfl | rfl | rfl⟩ <;> cases hb
          rw [g2.1 a b e39 e40 (by omega), seI_1, if_neg (by omega), b4 a b e41 (by omega)]
  obtain ⟨M2, y1, y2⟩ := hM
  exact ⟨_, Mx, M2, x1, y1, hRb.kp y2⟩
