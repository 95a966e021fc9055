/-! Part 39: row -/
def loX (x : Int32) : Int := if (97 : Int32) = x then 0 else if (98 : Int32) = x then 1 else if (99 : Int32) = x then 2 else if (108 : Int32) = x then 3 else if (109 : Int32) = x then 4 else if (114 : Int32) = x then 5 else if (115 : Int32) = x then 6 else if (113 : Int32) = x then 7 else if (116 : Int32) = x then 8 else if (120 : Int32) = x then 9 else -1
theorem loX_b (x : Int32) : -1 ≤ loX x ∧ loX x ≤ 9 := by
  unfold loX
  repeat' split
  all_goals omega
theorem lo_step {N n j : Nat} {M : Mem} {x : Int32} (hS : Sta M) (hj : j < 10) : l_X6_letterOf_2 N (n + 1) M x (I j) = if sdt 0 j = x then some (I j, M) else l_X6_letterOf_2 N n M x (I (j + 1 : Nat)) := by
  rw [l_X6_letterOf_2, if_neg (by rw [I_10, I_le] <;> omega)]
  simp only [ck]
  rw [if_pos (show inb (I j) 10 by rw [I_inb] <;> omega), I_ix (by omega) (by omega), Int.toNat_natCast, show M.1 45 j = sdt 0 j from hS 0 j (by decide) hj, I_1, I_add]
  rfl
theorem lo_s {N : Nat} {M : Mem} {x : Int32} (hS : Sta M) (hN : 2000 < N) : f_X6_letterOf N M x = some (I (loX x), M) := by
  obtain ⟨n, rfl⟩ : ∃ n, N = n + 1 + 1 + 1 + 1 + 1 + 1 + 1 + 1 + 1 + 1 + 1 := ⟨N - 11, by omega⟩
  have stop : l_X6_letterOf_2 (n + 1 + 1 + 1 + 1 + 1 + 1 + 1 + 1 + 1 + 1 + 1) (n + 1) M x (I (9 + 1 : Nat)) = some (-1, M) := by
    rw [l_X6_letterOf_2, if_pos (by decide)]
  unfold f_X6_letterOf
  show l_X6_letterOf_2 _ _ M x (I (0 : Nat)) = _
  rw [lo_step hS (by decide)]
  rw [lo_step hS (by decide)]
  rw [lo_step hS (by decide)]
  rw [lo_step hS (by decide)]
  rw [lo_step hS (by decide)]
  rw [lo_step hS (by decide)]
  rw [lo_step hS (by decide)]
  rw [lo_step hS (by decide)]
  rw [lo_step hS (by decide)]
  rw [lo_step hS (by decide)]
  rw [stop]
  rw [show sdt 0 0 = 97 from rfl, show sdt 0 1 = 98 from rfl, show sdt 0 2 = 99 from rfl, show sdt 0 3 = 108 from rfl, show sdt 0 4 = 109 from rfl, show sdt 0 5 = 114 from rfl, show sdt 0 6 = 115 from rfl, show sdt 0 7 = 113 from rfl, show sdt 0 8 = 116 from rfl, show sdt 0 9 = 120 from rfl]
  unfold loX
  repeat' split
  all_goals rfl
theorem lay_s {N : Nat} {M : Mem} {x : Int32} : f_X7_layingOf N M x = some (if loX x < 0 then -9 else I (loX x), M) := by
  by_cases h97 : x = 97
  · subst h97; rfl
  by_cases h98 : x = 98
  · subst h98; rfl
  by_cases h99 : x = 99
  · subst h99; rfl
  by_cases h100 : x = 100
  · subst h100; rfl
  by_cases h101 : x = 101
  · subst h101; rfl
  by_cases h102 : x = 102
  · subst h102; rfl
  by_cases h103 : x = 103
  · subst h103; rfl
  by_cases h104 : x = 104
  · subst h104; rfl
  by_cases h105 : x = 105
  · subst h105; rfl
  by_cases h106 : x = 106
  · subst h106; rfl
  by_cases h107 : x = 107
  · subst h107; rfl
  by_cases h108 : x = 108
  · subst h108; rfl
  by_cases h109 : x = 109
  · subst h109; rfl
  by_cases h110 : x = 110
  · subst h110; rfl
  by_cases h111 : x = 111
  · subst h111; rfl
  by_cases h112 : x = 112
  · subst h112; rfl
  by_cases h113 : x = 113
  · subst h113; rfl
  by_cases h114 : x = 114
  · subst h114; rfl
  by_cases h115 : x = 115
  · subst h115; rfl
  by_cases h116 : x = 116
  · subst h116; rfl
  by_cases h117 : x = 117
  · subst h117; rfl
  by_cases h118 : x = 118
  · subst h118; rfl
  by_cases h119 : x = 119
  · subst h119; rfl
  by_cases h120 : x = 120
  · subst h120; rfl
  unfold f_X7_layingOf loX
  rw [if_neg h97, if_neg h98, if_neg h99, if_neg h100, if_neg h101, if_neg h102, if_neg h103, if_neg h104, if_neg h105, if_neg h106, if_neg h107, if_neg h108, if_neg h109, if_neg h110, if_neg h111, if_neg h112, if_neg h113, if_neg h114, if_neg h115, if_neg h116, if_neg h117, if_neg h118, if_neg h119, if_neg h120]
  rw [if_neg (Ne.symm h97), if_neg (Ne.symm h98), if_neg (Ne.symm h99), if_neg (Ne.symm h108), if_neg (Ne.symm h109), if_neg (Ne.symm h114), if_neg (Ne.symm h115), if_neg (Ne.symm h113), if_neg (Ne.symm h116), if_neg (Ne.symm h120)]
  rfl
theorem xrow {N n : Nat} {T : Nat → Int32} (hn : n ≤ 24) (hN : 2000 < N) : ∀ (r j n' : Nat) (M : Mem), Sta M → j + r = n → r < n' → (∀ i, j ≤ i → i < n → M.1 31 i = T i) → (∀ i, i < j → 0 ≤ loX (T i) ∧ M.1 31 i = I (loX (T i))) →
    ∃ x M', l_X6_row_12 N n' M (I n) (I j) = some (x, M') ∧ KpR (fun k j => !(k == 31 || k == 4 || (k == 1 && j == 3))) M M' ∧
      ((∃ i, j ≤ i ∧ i < n ∧ loX (T i) < 0 ∧ (∀ k, k < i → 0 ≤ loX (T k)) ∧ x = I (-20 - i) ∧ M'.1 4 = M.1 4 ∧ M'.1 1 3 = M.1 1 3) ∨ ((∀ i, i < n → 0 ≤ loX (T i)) ∧ x = I n ∧ M'.1 1 3 = I n ∧ ∀ i, i < n → M'.1 4 i = I (loX (T i)))) := by
  intro r
  induction r with
  | zero =>
    intro j n' M hS h1 h2 h3 h4
    obtain ⟨n', rfl⟩ : ∃ q, n' = q + 1 := ⟨n' - 1, by omega⟩
    obtain rfl : j = n := by omega
    refine ⟨I j, seI (wrI M 4 (fun i => if i < j then M.1 31 i else M.1 4 i)) 1 3 (I j), ?_, (KpR.rf.W fun _ => rfl).I rfl, Or.inr ⟨fun i hi => (h4 i hi).1, rfl, ?_, fun i hi => ?_⟩⟩
    · rw [l_X6_row_12, if_pos (by rw [I_le] <;> omega), becomes_s (n0 := 24) rfl (by decide) hn hn (by decide) hN]
      simp only [bd]
      simp [seI_1]
    · simp [seI_1]
    · rw [seI_ne (by decide), wrI_s, if_pos hi]
      exact (h4 i hi).2
  | succ r ih =>
    intro j n' M hS h1 h2 h3 h4
    obtain ⟨n', rfl⟩ : ∃ q, n' = q + 1 := ⟨n' - 1, by omega⟩
    have hb := loX_b (T j)
    by_cases c : 0 ≤ loX (T j)
    · obtain ⟨x, M', q1, q2, q3⟩ := ih (j + 1) n' (seI M 31 j (I (loX (T j)))) (hS.kp (KpR.rf.I rfl)) (by omega) (by omega) (fun i hi hi2 => by rw [seI_1, if_neg (by omega)]; exact h3 i (by omega) hi2) (fun i hi => by
        rw [seI_1]
        by_cases e : i = j
        · subst e; exact ⟨c, by simp⟩
        · rw [if_neg (by omega)]; exact h4 i (by omega))
      refine ⟨x, M', ?_, (KpR.rf.I rfl).tr q2, ?_⟩
      · rw [l_X6_row_12, if_neg (by rw [I_le] <;> omega), at_in (n := 24) rfl (by decide) (by omega) (by omega)]
        simp only [bd2, Int.toNat_natCast]
        rw [h3 j (Nat.le_refl j) (by omega), lo_s hS hN]
        simp only [bd2]
        rw [if_pos (by rw [I_0, I_le] <;> omega), put_in (n := 24) rfl (by decide) (by decide) (by omega) (by omega)]
        simp only [bd, Int.toNat_natCast]
        rw [I_1, I_add]
        exact q1
      · rcases q3 with ⟨i, a1, a2, a3, a4, a5, a6, a7⟩ | q3
        · exact Or.inl ⟨i, by omega, a2, a3, a4, a5, by rw [a6, seI_ne (by decide)], by rw [a7, seI_ne (by decide)]⟩
        · exact Or.inr q3
    · refine ⟨I (-20 - j), M, ?_, KpR.rf, Or.inl ⟨j, Nat.le_refl j, by omega, by omega, fun k hk => (h4 k hk).1, rfl, rfl, rfl⟩⟩
      rw [l_X6_row_12, if_neg (by rw [I_le] <;> omega), at_in (n := 24) rfl (by decide) (by omega) (by omega)]
      simp only [bd2, Int.toNat_natCast]
      rw [h3 j (Nat.le_refl j) (by omega), lo_s hS hN]
      simp only [bd2]
      rw [if_neg (by rw [I_0, I_le] <;> omega), I_m20, I_sub]
theorem mrow2 {N n : Nat} {T : Nat → Int32} (hn : n ≤ 24) (hT : ∀ i, i < n → 0 ≤ loX (T i)) (M : Mem) (hM : ∀ i, i < n → M.1 38 i = T i) (hN : 2000 < N) : ∃ M', l_X7_row_42 N N M (I n) 0 = some (I n, M') ∧ KpR (fun k _ => !(k == 36)) M M' ∧ M'.1 36 55 = I n ∧ (∀ i, i < n → M'.1 36 (31 + i) = I (loX (T i))) ∧ ∀ b, (b < 31 ∨ 31 + n ≤ b) → b ≠ 55 → M'.1 36 b = M.1 36 b := by
  have key : ∀ (r j n' : Nat) (M1 : Mem), j + r = n → r < n' → KpR (fun k _ => !(k == 36)) M M1 → (∀ i, i < j → M1.1 36 (31 + i) = I (loX (T i))) → (∀ b, (b < 31 ∨ 31 + n ≤ b) → M1.1 36 b = M.1 36 b) →
      ∃ M', l_X7_row_42 N n' M1 (I n) (I j) = some (I n, M') ∧ KpR (fun k _ => !(k == 36)) M M' ∧ M'.1 36 55 = I n ∧ (∀ i, i < n → M'.1 36 (31 + i) = I (loX (T i))) ∧ ∀ b, (b < 31 ∨ 31 + n ≤ b) → b ≠ 55 → M'.1 36 b = M.1 36 b := by
    intro r
    induction r with
    | zero =>
      intro j n' M1 h1 h2 k1 k2 k3
      obtain ⟨n', rfl⟩ : ∃ q, n' = q + 1 := ⟨n' - 1, by omega⟩
      obtain rfl : j = n := by omega
      refine ⟨seI M1 36 55 (I j), ?_, k1.I rfl, by simp [seI_1], fun i hi => ?_, fun b hb hb2 => ?_⟩
      · rw [l_X7_row_42, if_pos (by rw [I_le] <;> omega)]
        rfl
      · rw [seI_1, if_neg (by omega)]; exact k2 i hi
      · rw [seI_1, if_neg (by omega)]; exact k3 b hb
    | succ r ih =>
      intro j n' M1 h1 h2 k1 k2 k3
      obtain ⟨n', rfl⟩ : ∃ q, n' = q + 1 := ⟨n' - 1, by omega⟩
      have hb := loX_b (T j)
      have hj := hT j (by omega)
      obtain ⟨M', q⟩ := ih (j + 1) n' (seI M1 36 (31 + j) (I (loX (T j)))) (by omega) (by omega) (k1.I rfl) (fun i hi => by
        rw [seI_1]
        by_cases e : i = j
        · subst e; simp
        · rw [if_neg (by omega)]; exact k2 i (by omega)) (fun b hb => by rw [seI_1, if_neg (by omega)]; exact k3 b hb)
      refine ⟨M', ?_, q.2⟩
      rw [l_X7_row_42, if_neg (by rw [I_le] <;> omega)]
      simp only [ck]
      rw [if_pos (show inb (I j) 24 by rw [I_inb] <;> omega), I_ix (by omega) (by omega), Int.toNat_natCast, k1.1 38 j rfl, hM j (by omega), lay_s]
      simp only [bd2, nm]
      rw [if_neg (show ¬ loX (T j) < 0 by omega), I_31, I_add, if_pos (show inb (I (31 + j)) 56 by rw [I_inb] <;> omega), I_ix (by omega) (by omega), show ((31 : Int) + j).toNat = 31 + j by omega, I_1, I_add]
      exact q.1
  exact key n 0 N M (by omega) (by omega) KpR.rf (fun i hi => by omega) (fun _ _ => rfl)
theorem mrow {N n : Nat} {T : Nat → Int32} (hn : n ≤ 24) (M : Mem) (hM : ∀ i, i < n → M.1 38 i = T i) (hN : 2000 < N) : ∀ (r j n' : Nat), j + r = n → r < n' → (∀ i, i < j → 0 ≤ loX (T i)) →
    ∃ x M', l_X7_row_12 N n' M (I n) (I j) = some (x, M') ∧
      ((∃ i, j ≤ i ∧ i < n ∧ loX (T i) < 0 ∧ (∀ k, k < i → 0 ≤ loX (T k)) ∧ x = I (-20 - i) ∧ M' = M) ∨ ((∀ i, i < n → 0 ≤ loX (T i)) ∧ x = I n ∧ KpR (fun k _ => !(k == 36)) M M' ∧ M'.1 36 55 = I n ∧ (∀ i, i < n → M'.1 36 (31 + i) = I (loX (T i))) ∧ ∀ b, (b < 31 ∨ 31 + n ≤ b) → b ≠ 55 → M'.1 36 b = M.1 36 b)) := by
  intro r
  induction r with
  | zero =>
    intro j n' h1 h2 h4
    obtain ⟨n', rfl⟩ : ∃ q, n' = q + 1 := ⟨n' - 1, by omega⟩
    obtain rfl : j = n := by omega
    obtain ⟨M', q1, q2⟩ := mrow2 hn h4 M hM hN
    refine ⟨I j, M', ?_, Or.inr ⟨h4, rfl, q2⟩⟩
    rw [l_X7_row_12, if_pos (by rw [I_le] <;> omega)]
    exact q1
  | succ r ih =>
    intro j n' h1 h2 h4
    obtain ⟨n', rfl⟩ : ∃ q, n' = q + 1 := ⟨n' - 1, by omega⟩
    have hb := loX_b (T j)
    have e : l_X7_row_12 N (n' + 1) M (I n) (I j) = if 0 ≤ (if loX (T j) < 0 then (-9 : Int32) else I (loX (T j))) then l_X7_row_12 N n' M (I n) (I (j + 1 : Nat)) else some (I (-20 - j), M) := by
      rw [l_X7_row_12, if_neg (by rw [I_le] <;> omega)]
      simp only [ck]
      rw [if_pos (show inb (I j) 24 by rw [I_inb] <;> omega), I_ix (by omega) (by omega), Int.toNat_natCast, hM j (by omega), lay_s]
      simp only [bd2]
      rw [I_m20, I_sub, I_1, I_add]
      rfl
    rw [e]
    by_cases c : 0 ≤ loX (T j)
    · rw [if_neg (show ¬ loX (T j) < 0 by omega), if_pos (by rw [I_0, I_le] <;> omega)]
      obtain ⟨x, M', q1, q3⟩ := ih (j + 1) n' (by omega) (by omega) (fun i hi => by
        by_cases e : i = j
        · subst e; exact c
        · exact h4 i (by omega))
      refine ⟨x, M', q1, ?_⟩
      rcases q3 with ⟨i, a1, a⟩ | q3
      · exact Or.inl ⟨i, by omega, a⟩
      · exact Or.inr q3
    · rw [if_pos (show loX (T j) < 0 by omega), if_neg (by decide)]
      exact ⟨_, M, rfl, Or.inl ⟨j, Nat.le_refl j, by omega, by omega, h4, rfl, rfl⟩⟩
theorem op_row (N : Nat) (hN : 2000 < N) : Op (fun M => f_X6_row N M) (fun M => f_X7_row N M) := by
  intro M hR
  obtain ⟨f, hf0, hf6, hf⟩ := I_exB hR.2.2.2.1.2.1.1 hR.2.2.2.1.2.1.2
  obtain ⟨n, rfl⟩ : ∃ m : Nat, f = m := ⟨f.toNat, by omega⟩
  have hm : M.1 34 5 = I n := hR.2.2.2.1.1.trans hf
  have hT : ∀ i, i < n → M.1 38 i = M.1 31 i := fun i hi => hR.2.2.2.1.2.2 i (by omega) (by rw [hf, I_to (by omega) (by omega)]; omega)
  have hn : n ≤ 24 := by omega
  obtain ⟨x, M1, q1, k1, r1⟩ := xrow (N := N) (n := n) (T := M.1 31) hn hN n 0 N (seI M 0 8 0) (hR.1.kp (KpR.rf.I rfl)) (by omega) (by omega) (fun i _ _ => by rw [seI_ne (by decide)]) (fun i hi => by omega)
  have k0 : KpR (fun k j => !(k == 31 || k == 4 || (k == 1 && j == 3) || (k == 0 && j == 8))) M M1 := (KpR.rf.I rfl).tr (k1.sub fun k j hj => by simp at hj; simp; omega)
  have e38 : ∀ i, i < n → (seI M1 34 5 0).1 38 i = M.1 31 i := fun i hi => by rw [seI_ne (by decide), k0.1 38 i rfl, hT i hi]
  obtain ⟨y, M2, q2, r2⟩ := mrow (N := N) (n := n) (T := M.1 31) hn (seI M1 34 5 0) e38 hN n 0 N (by omega) (by omega) (fun i hi => by omega)
  have hx : f_X6_row N M = some (x, M1) := by
    unfold f_X6_row
    simp only [nm]
    rw [hf]
    exact q1
  have hy : f_X7_row N M1 = some (y, M2) := by
    unfold f_X7_row
    simp only [nm]
    rw [k0.1 34 5 rfl, hm]
    exact q2
  have hfin : ∀ M2 : Mem, KpR (fun k j => !(k == 31 || k == 4 || (k == 1 && j == 3) || (k == 0 && j == 8) || (k == 34 && j == 5) || k == 36)) M M2 → M2.1 0 8 = 0 → M2.1 34 5 = 0 → Lay M2 1 36 → RelI M2 := by
    intro M2 kk e1 e2 hl
    obtain ⟨h1, h2, h3, h4, h5, h6, h7, h8, h9⟩ := hR
    refine ⟨h1.kp (kk.sub fun k j hj => ?_), hl, h3.kp (kk.sub fun k j hj => ?_), ⟨by rw [e1, e2], by rw [e1]; unfold Bd; decide, fun k _ hk2 => ?_⟩, h5.kp (kk.sub fun k j hj => ?_), h6.kp (kk.sub fun k j hj => ?_), h7.kp (kk.sub fun k j hj => ?_), h8.kp (kk.sub fun k j hj => ?_), h9.kp (kk.sub fun k j hj => ?_)⟩
    · simp [rSta] at hj; simp; omega
    · simp [rTak, rLay] at hj; simp; omega
    · rw [e1, show (0 : Int32).toInt = 0 from rfl] at hk2; omega
    · simp [rTur] at hj; simp; omega
    · simp [rRef] at hj; simp; omega
    · simp [rSps] at hj; simp; omega
    · simp [rGat] at hj; simp; omega
    · simp [rZer] at hj; simp; omega
  have e08 : M1.1 0 8 = 0 := (k1.1 0 8 rfl).trans (by simp [seI_1])
  rcases r1 with ⟨i, a1, a2, a3, a4, rfl, a6, a7⟩ | ⟨a1, rfl, a3, a4⟩
  · rcases r2 with ⟨i', b1, b2, b3, b4, rfl, rfl⟩ | ⟨b1, -⟩
    · have hii : i = i' := by
        rcases Nat.lt_trichotomy i i' with h | h | h
        · have := b4 i h; omega
        · exact h
        · have := a4 i' h; omega
      subst hii
      refine ⟨_, M1, _, hx, hy, hfin _ ((k0.sub fun k j hj => by simp at hj; simp; omega).I rfl) (by rw [seI_ne (by decide), e08]) (by simp [seI_1]) ?_⟩
      refine hR.2.1.kp (fun j => ?_) (fun j => ?_) (fun j => ?_) (fun j => ?_) (fun j => ?_) (fun j => ?_) (fun j => ?_) ?_ ?_
      · rw [seI_ne (by decide), k0.1 36 j rfl]
      · rw [seI_ne (by decide), k0.1 2 j rfl]
      · rw [seI_ne (by decide), k0.1 3 j rfl]
      · rw [seI_ne (by decide), show (1 + 3) = 4 from rfl, a6, seI_ne (by decide)]
      · rw [seI_ne (by decide), k0.1 5 j rfl]
      · rw [seI_ne (by decide), k0.1 6 j rfl]
      · rw [seI_ne (by decide), k0.1 7 j rfl]
      · rw [seI_ne (by decide), a7, seI_ne (by decide)]
      · rw [seI_ne (by decide), k0.1 1 7 rfl]
    · have := b1 i a2; omega
  · rcases r2 with ⟨i', b1, b2, b3, b4, -⟩ | ⟨b1, rfl, b3, b4, b5, b6⟩
    · have := a1 i' b2; omega
    · have e2 : ∀ a j, a ≠ 36 → a ≠ 34 → M2.1 a j = M1.1 a j := fun a j h h' => by rw [b3.1 a j (by simp; omega), seI_ne h']
      refine ⟨_, M1, M2, hx, hy, hfin _ ⟨fun a j ha => ?_, fun a j ha => ?_⟩ (by rw [e2 _ _ (by decide) (by decide), e08]) (by rw [b3.1 34 5 rfl]; simp [seI_1]) ?_⟩
      · simp at ha
        rw [b3.1 a j (by simp; omega), seI_1, if_neg (by omega)]
        exact k0.1 a j (by simp; omega)
      · simp at ha
        rw [b3.2 a j (by simp; omega)]
        exact k0.2 a j (by simp; omega)
      · obtain ⟨l1, l2, l3, l4, l5, l6, l7⟩ := hR.2.1
        have e36 : ∀ b, (b < 31 ∨ 31 + n ≤ b) → b ≠ 55 → M2.1 36 b = M.1 36 b := fun b hb hb2 => by rw [b6 b hb hb2, seI_ne (by decide), k0.1 36 b rfl]
        refine ⟨fun k hk => ?_, fun k hk => ?_, fun k hk => ?_, fun k hk => ?_, ?_, ?_, fun k hk hk2 => ?_⟩
        · rw [e36 k (by omega) (by omega), e2 _ _ (by decide) (by decide), k0.1 _ k rfl]; exact l1 k hk
        · rw [e36 _ (by omega) (by omega), e2 _ _ (by decide) (by decide), k0.1 _ k rfl]; exact l2 k hk
        · rw [e36 _ (by omega) (by omega), e2 _ _ (by decide) (by decide), k0.1 _ k rfl]; exact l3 k hk
        · rw [e36 _ (by omega) (by omega), e36 _ (by omega) (by omega), e2 _ _ (by decide) (by decide), e2 _ _ (by decide) (by decide), k0.1 _ k rfl, k0.1 _ k rfl]; exact l4 k hk
        · rw [e36 _ (by omega) (by omega), e2 _ _ (by decide) (by decide), k0.1 _ 7 rfl]; exact l5
        · rw [b4, e2 _ _ (by decide) (by decide), a3]
          refine ⟨rfl, ?_⟩
          unfold Bd
          rw [I_to (by omega) (by omega)]
          omega
        · rw [e2 _ _ (by decide) (by decide), a3, I_to (by omega) (by omega)] at hk2
          have hb := loX_b (M.1 31 k)
          have h0 := a1 k (by omega)
          rw [b5 k (by omega), e2 _ _ (by decide) (by decide), show (1 + 3) = 4 from rfl, a4 k (by omega)]
          refine ⟨rfl, ?_⟩
          unfold Bd
          rw [I_to (by omega) (by omega)]
          omega
