/-! Part 54: photo -/
theorem mod8I : ∀ k : Nat, k < 25 → ((I ((k : Int) - 12) - I ((k : Int) - 12) / 8 * 8 = 0) ↔ ((k : Int) - 12) % 8 = 0) := by decide +kernel
theorem mod8 {S : Int} (h : -12 ≤ S) (h2 : S ≤ 12) : (I S - I S / 8 * 8 = 0) ↔ S % 8 = 0 := by
  have := mod8I (S + 12).toNat (by omega)
  rw [show (((S + 12).toNat : Nat) : Int) - 12 = S by omega] at this
  exact this
theorem RelI.noturns {M : Mem} (h : RelI M) : RelI (seI (seI M 0 10 0) 34 21 0) := by
  obtain ⟨h1, h2, h3, h4, h5, h6, h7, h8, h9⟩ := h
  refine ⟨h1.kp ((KpR.rf.I rfl).I rfl), h2.kpr ((KpR.rf.I rfl).I rfl), h3.kp ((KpR.rf.I rfl).I rfl), h4.kp ((KpR.rf.I rfl).I rfl), ?_, h6.kp ((KpR.rf.I rfl).I rfl), h7.kp ((KpR.rf.I rfl).I rfl), h8.kp ((KpR.rf.I rfl).I rfl), h9.kp ((KpR.rf.I rfl).I rfl)⟩
  refine ⟨by simp [seI_1], by unfold Bd; simp [seI_1], fun k hk hk2 => ?_⟩
  simp [seI_1] at hk2
  omega
theorem sumt_b {tt : Nat → Int} {n : Nat} (ht : ∀ i, i < n → -2 ≤ tt i ∧ tt i ≤ 2) : ∀ r i, i + r ≤ n → -2 * (r : Int) ≤ sumt tt i r ∧ sumt tt i r ≤ 2 * r
  | 0, i, _ => by simp [sumt]
  | r + 1, i, h => by
    have h1 := sumt_b ht r (i + 1) (by omega)
    have h2 := ht i (by omega)
    unfold sumt
    omega
theorem rows_s {N m : Nat} {M : Mem} {tt : Nat → Int} (hm : m ≤ 6) (h32 : ∀ i, i < m → M.1 32 i = I (tt i)) (hN : 2000 < N) : ∃ n', f_X4_rowsOf N M 32 (I m) = l_X4_rowsOf_5 N 32 (n' + 1) M (I m) (I (sumt tt 0 m)) (I m) := by
  have key : ∀ (r j n' : Nat) (S : Int), j + r = m → r < n' → ∃ n2, l_X4_rowsOf_5 N 32 n' M (I m) (I S) (I j) = l_X4_rowsOf_5 N 32 (n2 + 1) M (I m) (I (S + sumt tt j r)) (I m) := by
    intro r
    induction r with
    | zero =>
      intro j n' S h1 h2
      obtain ⟨n', rfl⟩ : ∃ q, n' = q + 1 := ⟨n' - 1, by omega⟩
      obtain rfl : j = m := by omega
      exact ⟨n', by rw [show sumt tt j 0 = 0 from rfl, Int.add_zero]⟩
    | succ r ih =>
      intro j n' S h1 h2
      obtain ⟨n', rfl⟩ : ∃ q, n' = q + 1 := ⟨n' - 1, by omega⟩
      obtain ⟨n2, q⟩ := ih (j + 1) n' (S + tt j) (by omega) (by omega)
      refine ⟨n2, ?_⟩
      rw [l_X4_rowsOf_5, if_neg (by rw [I_le] <;> omega), at_in (n := 6) rfl (by decide) (by omega) (by omega)]
      simp only [bd2, Int.toNat_natCast]
      rw [h32 j (by omega), I_add, I_1, I_add, show sumt tt j (r + 1) = tt j + sumt tt (j + 1) r from rfl, ← Int.add_assoc]
      exact q
  obtain ⟨n2, q⟩ := key m 0 N 0 (by omega) (by omega)
  rw [Int.zero_add] at q
  exact ⟨n2, q⟩
