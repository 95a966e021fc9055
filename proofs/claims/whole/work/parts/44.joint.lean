/-! Part 44: joint; both walks, one after the other -/
theorem Fol.all {M M' : Mem} {n : Nat} {w : Nat → Nat} (hR : RelI M) (h : Fol M M' n w) : ∀ i, i ≤ n → M'.2 18 i = J (pkp (wf (szf M) w i).1) ∧ M'.1 19 i = I (wf (szf M) w i).2 := by
  intro i hi
  rcases i with _ | i
  · obtain ⟨z1, z2, -⟩ := hR.2.2.2.2.2.2.2.2
    rw [h.kp.2 18 0 rfl, h.kp.1 19 0 rfl, z1, z2]
    exact ⟨rfl, rfl⟩
  · exact ⟨h.pl i (by omega), h.dr i (by omega)⟩
theorem Fol.row {M M' : Mem} {n : Nat} {w : Nat → Nat} (h : Fol M M' n w) (h3 : M.1 1 3 = I n) (h55 : M.1 36 55 = I n) (hw : Rw M 4 n w) (hw2 : ∀ i, i < n → M.1 36 (31 + i) = I (w i) ∧ w i < 10) :
    M'.1 1 3 = I n ∧ M'.1 36 55 = I n ∧ Rw M' 4 n w ∧ (∀ i, i < n → M'.1 36 (31 + i) = I (w i) ∧ w i < 10) ∧ szf M' = szf M :=
  ⟨(h.kp.1 1 3 rfl).trans h3, (h.kp.1 36 55 rfl).trans h55, fun i hi => ⟨(h.kp.1 4 i rfl).trans (hw i hi).1, (hw i hi).2⟩, fun i hi => ⟨(h.kp.1 36 _ rfl).trans (hw2 i hi).1, (hw2 i hi).2⟩, szf.kp (fun j => h.kp.1 3 j rfl)⟩
theorem PB.le {p : Pl} {a b : Int} (h : PB p a) (hab : a ≤ b) : PB p b := by unfold PB at *; omega
theorem wf_B {M : Mem} (hR : RelI M) {n : Nat} {w : Nat → Nat} (hn : n ≤ 24) (hw : ∀ i, i < n → w i < 10) {i : Nat} (hi : i ≤ n) : PB (wf (szf M) w i).1 960 :=
  (wf_b (szf_b hR) i (fun k hk => hw k (by omega))).le (by omega)
/-- both walks: what joint, closes, gap, nearer, off, touches and lies begin with -/
theorem both {N : Nat} {M : Mem} (hR : RelI M) (hN : 2000 < N) : ∃ (n : Nat) (w : Nat → Nat) (M1 : Mem), n ≤ 24 ∧ M.1 1 3 = I n ∧ M.1 36 55 = I n ∧ (∀ i, i < n → w i < 10) ∧ f_X5_follow N M 4 (I n) = some M1 ∧ M1.1 17 4 = I n ∧ RelI M1 ∧
    (∀ i, i ≤ n → M1.2 18 i = J (pkp (wf (szf M) w i).1) ∧ M1.1 19 i = I (wf (szf M) w i).2) ∧ (∀ i, i < n → M1.1 20 i = I (w i)) ∧ (∀ i, i ≤ n → PB (wf (szf M) w i).1 960) ∧ KpR rFol M M1 ∧
    ∀ M1', RelI M1' → KpR rFol M1 M1' → ∃ M2, f_X7_takes N M1' = some M2 ∧ M2.1 34 8 = I n ∧ RelI M2 ∧ (∀ i, i ≤ n → At M2 (5 * i) (wf (szf M) w i).1 ∧ M2.1 39 (5 * i + 4) = I (wf (szf M) w i).2) ∧ (∀ i, i < n → M2.1 40 i = I (w i)) ∧ KpR rTks M1' M2 := by
  obtain ⟨n, w, hn, h3, h55, hw, hw2⟩ := row_ex hR
  obtain ⟨M1, q1, q2, q3, q4⟩ := follow_R (N := N) hR hn hw hN
  refine ⟨n, w, M1, hn, h3, h55, fun i hi => (hw i hi).2, q1, q3, q4, q2.all hR, q2.ld, fun i hi => wf_B hR hn (fun k hk => (hw k hk).2) hi, q2.kp, fun M1' hR' hk => ?_⟩
  obtain ⟨r1, r2, r3, r4, r5⟩ := q2.row h3 h55 hw hw2
  obtain ⟨M2, g1, g2, g3, g4⟩ := takes_R (N := N) hR' (n := n) (w := w) ((hk.1 36 55 rfl).trans r2) hn (fun i hi => ⟨(hk.1 36 _ rfl).trans (r4 i hi).1, (r4 i hi).2⟩) hN
  rw [szf.kp (fun j => hk.1 3 j rfl), r5] at g2
  exact ⟨M2, g1, g3, g4, g2.2.1, g2.2.2, g2.1⟩
theorem op_joint (N : Nat) (hN : 2000 < N) (a b : Int32) : Op (fun M => f_X6_joint N M a b) (fun M => f_X7_joint N M a b) := by
  intro M hR
  obtain ⟨z, hz1, hz2, rfl⟩ := I_ex a
  obtain ⟨u, hu1, hu2, rfl⟩ := I_ex b
  obtain ⟨n, w, M1, hn, h3, h55, hw, q1, q2, q3, q4, q5, q6, q7, q8⟩ := both (N := N) hR hN
  have hin : ∀ M' : Mem, M'.1 36 55 = I n → f_X7_isIn N M' (I z) (M'.1 36 (ix (55 : Int32)) + (1 : Int32)) = some (if z < 0 ∨ (n : Int) + 1 ≤ z then 0 else 1, M') := fun M' h => by
    rw [show ix (55 : Int32) = 55 from rfl, h, I_1, I_add]
    by_cases c : z < 0 ∨ (n : Int) + 1 ≤ z
    · rw [if_pos c]; exact isIn_n hz1 hz2 (by omega) (by omega) c
    · rw [if_neg c]; exact isIn_y (by omega) (by omega) (by omega)
  have hin5 : ∀ M' : Mem, f_X7_isIn N M' (I u) 5 = some (if u < 0 ∨ 5 ≤ u then 0 else 1, M') := fun M' => by
    rw [I_5]
    by_cases c : u < 0 ∨ 5 ≤ u
    · rw [if_pos c]; exact isIn_n hu1 hu2 (by omega) (by omega) c
    · rw [if_neg c]; exact isIn_y (by omega) (by omega) (by omega)
  have hr : ∀ j, 1 ≤ j → j < 7 → f_X6_refuseFar N M (I (-(j : Nat))) = some (1000000000 - I (-(j : Nat)), seI M 33 j (M.1 33 j + 1)) := fun j h1 h2 => xreff (xref N M h1 h2)
  show ∃ r M1 M2, f_X6_joint N M (I z) (I u) = some (r, M1) ∧ f_X7_joint N M1 (I z) (I u) = some (r, M2) ∧ RelI M2
  by_cases c1 : z < 0 ∨ (n : Int) + 1 ≤ z
  · have r1 : f_X6_refuseFar N M (-1) = some (1000000000 - (-1), seI M 33 1 (M.1 33 1 + 1)) := hr 1 (by decide) (by decide)
    refine ⟨1000000000 - -1, seI M 33 1 (M.1 33 1 + 1), _, ?_, ?_, hR.ref 1⟩
    · simp only [f_X6_joint]
      rw [h3]
      by_cases c2 : z < 0
      · rw [if_pos (by rw [I_0, I_lt] <;> omega), r1]; rfl
      · rw [if_neg (by rw [I_0, I_lt] <;> omega), if_neg (by rw [I_le] <;> omega), r1]; rfl
    · simp only [f_X7_joint]
      rw [hin _ (by rw [seI_ne (by decide)]; exact h55), if_pos c1]
      rfl
  · by_cases c2 : u < 0 ∨ 5 ≤ u
    · have r2 : f_X6_refuseFar N M (-2) = some (1000000000 - (-2), seI M 33 2 (M.1 33 2 + 1)) := hr 2 (by decide) (by decide)
      refine ⟨1000000000 - -2, seI M 33 2 (M.1 33 2 + 1), _, ?_, ?_, hR.ref 2⟩
      · simp only [f_X6_joint]
        rw [h3, if_neg (by rw [I_0, I_lt] <;> omega), if_pos (by rw [I_le] <;> omega)]
        by_cases c3 : u < 0
        · rw [if_pos (by rw [I_0, I_lt] <;> omega), r2]; rfl
        · rw [if_neg (by rw [I_0, I_lt] <;> omega), if_neg (by rw [I_4, I_le] <;> omega), r2]; rfl
      · simp only [f_X7_joint]
        rw [hin _ (by rw [seI_ne (by decide)]; exact h55), if_neg c1]
        simp only [bd2]
        rw [if_neg (show ¬ (1 : Int32) = 0 by decide), hin5, if_pos c2]
        rfl
    · skip
      obtain ⟨M2, g1, g2, g3, g4, g5, g6⟩ := q8 M1 q3 KpR.rf
      obtain ⟨i, rfl⟩ : ∃ i : Nat, z = i := ⟨z.toNat, by omega⟩
      obtain ⟨e1, e2⟩ := q4 i (by omega)
      obtain ⟨f1, f2⟩ := g4 i (by omega)
      obtain ⟨b1, b2, b3, b4⟩ := q6 i (by omega)
      have hx : ∀ k : Nat, u = k → f_X7_joint N M1 (I i) (I u) = some (M2.1 39 (5 * i + k), M2) := by
        intro k hk
        subst hk
        simp only [f_X7_joint]
        rw [hin _ ((q7.1 36 55 rfl).trans h55), if_neg c1]
        simp only [bd2]
        rw [if_neg (show ¬ (1 : Int32) = 0 by decide), hin5, if_neg c2]
        simp only [bd2, bd, ck, g1]
        rw [if_neg (show ¬ (1 : Int32) = 0 by decide), I_5, I_mul, I_add, if_pos (show inb (I ((5 : Int) * i + k)) 125 by rw [I_inb] <;> omega), I_ix (by omega) (by omega), show ((5 : Int) * i + k).toNat = 5 * i + k by omega]
      have hy : ∀ x, (u = 4 → x = I (wf (szf M) w i).2) → (u ≠ 4 → f_X2_part N M1 (J (pkp (wf (szf M) w i).1)) (I u) = some (x, M1)) → f_X6_joint N M (I i) (I u) = some (x, M1) := by
        intro x hx1 hx2
        simp only [f_X6_joint]
        rw [h3, if_neg (by rw [I_0, I_lt] <;> omega), if_pos (by rw [I_le] <;> omega), if_neg (by rw [I_0, I_lt] <;> omega), if_pos (by rw [I_4, I_le] <;> omega), q1]
        simp only [bd]
        by_cases c : u = 4
        · rw [if_pos (by rw [c]; rfl), at_in (n := 25) rfl (by decide) (by omega) (by omega)]
          simp only [bd2, Int.toNat_natCast]
          rw [e2, hx1 c]
        · rw [if_neg (by rw [I_4, I_eq] <;> omega), pat_in (n := 25) rfl (by decide) (by omega) (by omega)]
          simp only [bd2, Int.toNat_natCast]
          rw [e1, hx2 c]
      have hxp := xpart (N := N) (M := M1) (by omega) (show -16000 ≤ (wf (szf M) w i).1.1 ∧ (wf (szf M) w i).1.1 ≤ 16000 by omega) (show -16000 ≤ (wf (szf M) w i).1.2.1 ∧ (wf (szf M) w i).1.2.1 ≤ 16000 by omega) (show -16000 ≤ (wf (szf M) w i).1.2.2.1 ∧ (wf (szf M) w i).1.2.2.1 ≤ 16000 by omega) (show -16000 ≤ (wf (szf M) w i).1.2.2.2 ∧ (wf (szf M) w i).1.2.2.2 ≤ 16000 by omega)
      obtain ⟨a0, a1, a2, a3⟩ := f1
      have fin : ∀ x, f_X6_joint N M (I i) (I u) = some (x, M1) → f_X7_joint N M1 (I i) (I u) = some (x, M2) → ∃ r M1 M2, f_X6_joint N M (I i) (I u) = some (r, M1) ∧ f_X7_joint N M1 (I i) (I u) = some (r, M2) ∧ RelI M2 := fun x hh1 hh2 => ⟨x, M1, M2, hh1, hh2, g3⟩
      rcases (show u = 0 ∨ u = 1 ∨ u = 2 ∨ u = 3 ∨ u = 4 by omega) with rfl | rfl | rfl | rfl | rfl
      · exact fin _ (hy _ (fun h => absurd h (by decide)) (fun _ => hxp.1)) ((hx 0 rfl).trans (by rw [show 5 * i + 0 = 5 * i from rfl, a0]))
      · exact fin _ (hy _ (fun h => absurd h (by decide)) (fun _ => hxp.2.1)) ((hx 1 rfl).trans (by rw [a1]))
      · exact fin _ (hy _ (fun h => absurd h (by decide)) (fun _ => hxp.2.2.1)) ((hx 2 rfl).trans (by rw [a2]))
      · exact fin _ (hy _ (fun h => absurd h (by decide)) (fun _ => hxp.2.2.2)) ((hx 3 rfl).trans (by rw [a3]))
      · exact fin _ (hy _ (fun _ => rfl) (fun h => absurd rfl h)) ((hx 4 rfl).trans (by rw [f2]))
