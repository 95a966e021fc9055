/-! Part 35: measure whole; size, on -/
theorem sdt_tn : ∀ l, l < 10 → sdt 2 l = I (tn l) := by decide +kernel
theorem sdt_kd : ∀ l, l < 10 → sdt 1 l = I (kd l) := by decide +kernel
theorem sdt_mr : ∀ l, l < 10 → sdt 3 l = I (mr l) := by decide +kernel
theorem kd_lt : ∀ l, l < 10 → kd l < 7 := by decide +kernel
theorem mr_lt : ∀ l, l < 10 → mr l < 10 := by decide +kernel
theorem sta_tn {M : Mem} (h : Sta M) {l : Nat} (hl : l < 10) : M.1 47 l = I (tn l) := (h 2 l (by decide) hl).trans (sdt_tn l hl)
theorem sta_kd {M : Mem} (h : Sta M) {l : Nat} (hl : l < 10) : M.1 46 l = I (kd l) := (h 1 l (by decide) hl).trans (sdt_kd l hl)
theorem sta_mr {M : Mem} (h : Sta M) {l : Nat} (hl : l < 10) : M.1 48 l = I (mr l) := (h 3 l (by decide) hl).trans (sdt_mr l hl)
theorem szf_I {M : Mem} {k : Nat} : M.1 3 k = I (szf M k) := (I_of _).symm
theorem meas {N : Nat} {M0 : Mem} (hS : Sta M0) (hz : ∀ k, k < 7 → Bd (M0.1 3 k) 1 20) (hN : 10 < N) : ∀ (k l n : Nat) (M : Mem), l + k = 10 → k < n → M.1 = M0.1 →
    ∃ M', l_X1_measure_2 N 3 n M (I l) = some M' ∧ M'.1 = M0.1 ∧ (∀ a, a ≠ 16 → M'.2 a = M.2 a) ∧ (∀ d l', d < 8 → l' < l → M'.2 16 (10 * d + l') = M.2 16 (10 * d + l')) ∧ ∀ d l', d < 8 → l ≤ l' → l' < 10 → M'.2 16 (10 * d + l') = J (pkp (stp (szf M0) l' d)) := by
  intro k
  induction k with
  | zero =>
    intro l n M h1 h2 h3
    obtain ⟨n, rfl⟩ : ∃ q, n = q + 1 := ⟨n - 1, by omega⟩
    refine ⟨M, ?_, h3, fun _ _ => rfl, fun _ _ _ _ => rfl, fun d l' _ h4 h5 => by omega⟩
    rw [l_X1_measure_2, if_pos (by rw [I_10, I_le] <;> omega)]
  | succ k ih =>
    intro l n M h1 h2 h3
    obtain ⟨n, rfl⟩ : ∃ q, n = q + 1 := ⟨n - 1, by omega⟩
    have hl : l < 10 := by omega
    have hS' : Sta M := fun k j hk hj => by rw [h3]; exact hS k j hk hj
    have hk := kd_lt l hl
    have hb := hz (kd l) hk
    obtain ⟨M', q1, q2, q3, q4, q5⟩ := ih (l + 1) n (wrD M l 0 (fun d => J (pkp (psc (szf M0 (kd l)) (cof l d))))) (by omega) (by omega) h3
    refine ⟨M', ?_, q2, fun a ha => ?_, fun d l' hd h4 => ?_, fun d l' hd h4 h5 => ?_⟩
    · rw [l_X1_measure_2, if_neg (by rw [I_10, I_le] <;> omega), at_in (n := 10) rfl (by decide) (by omega) (by omega)]
      simp only [bd2, Int.toNat_natCast]
      rw [at_in (n := 10) rfl (by decide) (by omega) (by omega)]
      simp only [bd2, Int.toNat_natCast]
      rw [sta_kd hS' hl, sta_tn hS' hl, at_in (n := 7) rfl (by decide) (by omega) (by omega)]
      simp only [bd2, Int.toNat_natCast]
      rw [show M.1 3 (kd l) = I (szf M0 (kd l)) by rw [h3]; exact szf_I, mlet hl (z := szf M0 (kd l)) (by have := hb.1; unfold szf; omega) hb.2 M hN]
      simp only [bd]
      rw [I_1, I_add]
      exact q1
    · rw [q3 a ha]
      funext b
      show (if _ then _ else _) = _
      rw [if_neg (by omega)]
    · rw [q4 d l' hd (by omega)]
      show (if _ then _ else _) = _
      rw [if_neg (by omega)]
    · by_cases e : l' = l
      · subst e
        rw [q4 d l' hd (by omega)]
        show (if _ then _ else _) = _
        rw [if_pos (by omega), show (10 * d + l') / 10 = d by omega]
        rfl
      · exact q5 d l' hd (by omega) h5
theorem measAnew {N : Nat} {M : Mem} (hS : Sta M) (hz : ∀ k, k < 7 → Bd (M.1 3 k) 1 20) (hN : 10 < N) : ∃ M', f_X6_measureAnew N M = some M' ∧ KpR (fun k j => !(k == 16 || (k == 21 && j == 6))) M M' ∧ Sps M' ∧ Gat M' := by
  obtain ⟨M', q1, q2, q3, q4, q5⟩ := meas hS hz hN 10 0 N M rfl (by omega) rfl
  refine ⟨seI M' 21 6 0, ?_, ⟨fun k j hk => ?_, fun k j hk => ?_⟩, fun d l hd hl => ?_, Or.inl ?_⟩
  · unfold f_X6_measureAnew f_X1_measure
    rw [show l_X1_measure_2 N 3 N M 0 = some M' from q1]
    rfl
  · simp at hk
    rw [seI_1, if_neg (by omega), q2]
  · simp at hk
    rw [seI_2, q3 k (by omega)]
  · have e : szf (seI M' 21 6 0) = szf M := szf.kp (fun j => by rw [seI_ne (by decide), q2])
    rw [seI_2, q5 d l hd (Nat.zero_le _) hl, e]
  · simp [seI_1]
/-- a size becomes another, on both sides; the steps measured anew -/
theorem RelI.size {M M' : Mem} (h : RelI M) {k : Nat} (hk : k < 7) {v : Int32} (hv : Bd v 1 20) (hM : KpR (fun k j => !(k == 16 || (k == 21 && j == 6))) (seI M 3 k v) M') (hs : Sps M') (hg : Gat M') : RelI (seI M' 36 (7 + k) v) := by
  obtain ⟨h1, h2, h3, h4, h5, h6, h7, h8, h9⟩ := h
  have e : ∀ a j, a ≠ 16 → a ≠ 21 → a ≠ 3 → M'.1 a j = M.1 a j := fun a j h1 h2 h3 => by
    rw [hM.1 a j (by simp; omega), seI_ne h3]
  have e2 : ∀ a j, a ≠ 16 → a ≠ 21 → M'.2 a j = M.2 a j := fun a j h1 h2 => by
    rw [hM.2 a j (by simp; omega)]
    rfl
  have e3 : ∀ j, M'.1 3 j = if j = k then v else M.1 3 j := fun j => by
    rw [hM.1 3 j rfl, seI_1]
    simp
  have kp : ∀ r : Nat → Nat → Bool, (∀ k j, r k j = true → k ≠ 16 ∧ k ≠ 21 ∧ k ≠ 3) → (∀ i, r 36 i = false) → KpR r M (seI M' 36 (7 + k) v) := by
    intro r hr h36
    refine ⟨fun a j hj => ?_, fun a j hj => e2 a j (hr a j hj).1 (hr a j hj).2.1⟩
    obtain ⟨x, y, z⟩ := hr a j hj
    rw [seI_1, if_neg, e a j x y z]
    rintro ⟨rfl, -⟩
    rw [h36] at hj
    cases hj
  refine ⟨h1.kp (kp _ (fun k j hj => by simp [rSta] at hj; omega) fun _ => rfl), ?_, h3.kp (kp _ (fun k j hj => by simp [rTak, rLay] at hj; omega) fun _ => rfl), h4.kp (kp _ (fun k j hj => by simp [rTap] at hj; omega) fun _ => rfl), h5.kp (kp _ (fun k j hj => by simp [rTur] at hj; omega) fun _ => rfl), h6.kp (kp _ (fun k j hj => by simp [rRef] at hj; omega) fun _ => rfl), hs.kp (KpR.rf.I rfl), hg.kp (KpR.rf.I rfl), h9.kp (kp _ (fun k j hj => by simp [rZer] at hj; omega) fun _ => rfl)⟩
  obtain ⟨a, b, c, d, e', f, g⟩ := h2
  refine ⟨fun j hj => ?_, fun j hj => ?_, fun j hj => ?_, fun j hj => ?_, ?_, ?_, fun j hj hj2 => ?_⟩
  · simpa [seI_1, e, show ¬ j = 7 + k by omega] using a j hj
  · by_cases e4 : j = k
    · subst e4; simp [seI_1, e3, hv]
    · simpa [seI_1, e, e3, e4, show ¬ 7 + j = 7 + k by omega] using b j hj
  · simpa [seI_1, e, show ¬ 14 + j = 7 + k by omega] using c j hj
  · simpa [seI_1, e, show ¬ 18 + 2 * j = 7 + k by omega, show ¬ 19 + 2 * j = 7 + k by omega] using d j hj
  · simpa [seI_1, e, show ¬ 30 = 7 + k by omega] using e'
  · simpa [seI_1, e, show ¬ 55 = 7 + k by omega] using f
  · simp [seI_1, e] at hj2
    simpa [seI_1, e, show ¬ 31 + j = 7 + k by omega] using g j hj hj2
theorem op_size (N : Nat) (hN : 10 < N) (a b : Int32) : Op (fun M => f_X6_size N M a b) (fun M => f_X7_size N M a b) := by
  intro M hR
  obtain ⟨z, hz1, hz2, rfl⟩ := I_ex a
  obtain ⟨w, hw1, hw2, rfl⟩ := I_ex b
  simp only [f_X6_size, f_X7_size]
  by_cases c1 : z < 0 ∨ 7 ≤ z
  · obtain ⟨M1, M2, q1, q2, hR2⟩ := op_r1 (N := N) hR
    refine ⟨-1, M1, M2, ?_, ?_, hR2⟩
    · by_cases c2 : z < 0
      · rw [if_pos (by rw [I_0, I_lt] <;> omega), q1]; rfl
      · rw [if_neg (by rw [I_0, I_lt] <;> omega), if_neg (by rw [I_7, I_lt] <;> omega), q1]; rfl
    · rw [I_7, isIn_n hz1 hz2 (by decide) (by decide) c1]
      simp only [bd2, if_true, q2]
  · have e0 : ¬ I z < 0 := by rw [I_0, I_lt] <;> omega
    have e7 : I z < 7 := by rw [I_7, I_lt] <;> omega
    rw [if_neg e0, if_pos e7]
    have hin : ∀ M', f_X7_isIn N M' (I z) 7 = some (1, M') := fun M' => by rw [I_7]; exact isIn_y (by omega) (by omega) (by decide)
    by_cases c2 : w < 1
    · obtain ⟨M1, M2, q1, q2, hR2⟩ := op_r4 (N := N) hR
      refine ⟨-4, M1, M2, ?_, ?_, hR2⟩
      · rw [if_neg (by rw [I_1, I_le] <;> omega), q1]; rfl
      · rw [hin]
        simp only [bd2]
        rw [if_neg (by decide), show (1 : Int32) = I 1 from rfl, I_20, within_4 hw1 c2 (by decide)]
        simp only [bd2]
        rw [if_neg (by decide), q2]
    · by_cases c3 : 20 < w
      · obtain ⟨M1, M2, q1, q2, hR2⟩ := op_r6 (N := N) hR
        refine ⟨-6, M1, M2, ?_, ?_, hR2⟩
        · rw [if_pos (by rw [I_1, I_le] <;> omega), if_neg (by rw [I_20, I_le] <;> omega), q1]; rfl
        · rw [hin]
          simp only [bd2]
          rw [if_neg (by decide), show (1 : Int32) = I 1 from rfl, I_20, within_6 hw2 c3 (by decide) (by decide)]
          simp only [bd2]
          rw [if_neg (by decide), q2]
      · have hk : z.toNat < 7 := by omega
        have hv : Bd (I w) 1 20 := ⟨by rw [I_to] <;> omega, by rw [I_to] <;> omega⟩
        obtain ⟨M1, q1, kp1, s1, g1⟩ := measAnew (N := N) (M := seI M 3 z.toNat (I w)) (hR.1.kp (KpR.rf.I rfl)) (fun k hk2 => by
          rw [seI_1]
          split
          · exact hv
          · exact (hR.2.1.2.1 k hk2).2) hN
        refine ⟨M.1 3 z.toNat, M1, seI M1 36 (7 + z.toNat) (I w), ?_, ?_, hR.size hk hv kp1 s1 g1⟩
        · rw [if_pos (by rw [I_1, I_le] <;> omega), if_pos (by rw [I_20, I_le] <;> omega), at_in (n := 7) rfl (by decide) (by omega) (by omega)]
          simp only [bd2]
          rw [put_in (n := 7) rfl (by decide) (by decide) (by omega) (by omega)]
          simp only [bd]
          rw [q1]
        · rw [hin]
          simp only [bd2]
          rw [if_neg (by decide), show (1 : Int32) = I 1 from rfl, I_20, within_y (by omega) (by omega) (by decide) (by decide)]
          simp only [bd2, ck, nm]
          have hi : inb (7 + I z) 56 := by rw [I_7, I_add, I_inb] <;> omega
          have hx : ix (7 + I z) = 7 + z.toNat := by rw [I_7, I_add, I_ix (by omega) (by omega)]; omega
          rw [if_pos trivial, if_pos hi, if_pos hi, hx, kp1.1 36 _ rfl, seI_ne (by decide), (hR.2.1.2.1 _ hk).1]
