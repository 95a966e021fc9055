/-! Part 75: the law's loop out of the 26 pairs of calls (each an Op) -/
theorem law_pure (N L : Nat) (xs : Nat → Int32) (hL : L ≤ 256) (h_feed : ∀ (a0 : Int32) (a1 : Int64), Op (fun M => f_X6_feed N M a0 a1) (fun M => f_X7_feed N M a0 a1)) (h_row : Op (fun M => f_X6_row N M ) (fun M => f_X7_row N M )) (h_box : ∀ (a0 : Int32) (a1 : Int32), Op (fun M => f_X6_box N M a0 a1) (fun M => f_X7_box N M a0 a1)) (h_size : ∀ (a0 : Int32) (a1 : Int32), Op (fun M => f_X6_size N M a0 a1) (fun M => f_X7_size N M a0 a1)) (h_piece : ∀ (a0 : Int32), Op (fun M => f_X6_piece N M a0) (fun M => f_X7_piece N M a0)) (h_joint : ∀ (a0 : Int32) (a1 : Int32), Op (fun M => f_X6_joint N M a0 a1) (fun M => f_X7_joint N M a0 a1)) (h_closes : Op (fun M => f_X6_closes N M ) (fun M => f_X7_closes N M )) (h_uses : Op (fun M => f_X6_uses N M ) (fun M => f_X7_uses N M )) (h_sign : ∀ (a0 : Int32) (a1 : Int32), Op (fun M => f_X6_sign N M a0 a1) (fun M => f_X7_sign N M a0 a1)) (h_gap : ∀ (a0 : Int32), Op (fun M => f_X6_gap N M a0) (fun M => f_X7_gap N M a0)) (h_nearer : ∀ (a0 : Int32) (a1 : Int32), Op (fun M => f_X6_nearer N M a0 a1) (fun M => f_X7_nearer N M a0 a1)) (h_table : ∀ (a0 : Int32) (a1 : Int32), Op (fun M => f_X6_table N M a0 a1) (fun M => f_X7_table N M a0 a1)) (h_leg : ∀ (a0 : Int32) (a1 : Int32), Op (fun M => f_X6_leg N M a0 a1) (fun M => f_X7_leg N M a0 a1)) (h_off : Op (fun M => f_X6_off N M ) (fun M => f_X7_off N M )) (h_touches : Op (fun M => f_X6_touches N M ) (fun M => f_X7_touches N M )) (h_lies : Op (fun M => f_X6_lies N M ) (fun M => f_X7_lies N M )) (h_rings : ∀ (a0 : Int32) (a1 : Int32), zb a1 → Op (fun M => f_X6_rings N M a0 a1) (fun M => f_X7_rings_ N M a0 a1)) (h_ring : ∀ (a0 : Int32) (a1 : Int32) (a2 : Int32), zb a1 → Op (fun M => f_X6_ring N M a0 a1 a2) (fun M => f_X7_ring N M a0 a1 a2)) (h_most : ∀ (a0 : Int32), zb a0 → Op (fun M => f_X6_most N M a0) (fun M => f_X7_most N M a0)) (h_opens : ∀ (a0 : Int32) (a1 : Int32), zb a1 → Op (fun M => f_X6_opens N M a0 a1) (fun M => f_X7_opens N M a0 a1)) (h_nearest : ∀ (a0 : Int32), Op (fun M => f_X6_nearest N M a0) (fun M => f_X7_nearest N M a0)) (h_turn : ∀ (a0 : Int32), Op (fun M => f_X6_turn N M a0) (fun M => f_X7_turn N M a0)) (h_photo : Op (fun M => f_X6_photo N M ) (fun M => f_X7_photo N M )) (h_image : Op (fun M => f_X6_image N M ) (fun M => f_X7_image N M )) (h_on : Op (fun M => f_X6_on N M ) (fun M => f_X7_on N M )) (h_count : ∀ (a0 : Int32), Op (fun M => f_X6_count N M a0) (fun M => f_X7_count N M a0)) : ∀ (n : Nat) (M : Mem) (j : Nat), RelI M → 4 * j ≤ L + 3 → L + 4 ≤ 4 * j + 4 * n → ∃ M', l_L_law_18 N L xs n M (I (4 * j : Nat)) = some ((1 : Int32), M') := by
  intro n
  induction n with
  | zero => intro M j _ h1 h2; omega
  | succ n ih =>
    intro M j hR h1 h2
    rw [l_L_law_18]
    have e4 : Int32.ofNat L - 4 = I (L - 4 : Int) := by rw [I_nat, I_4, I_sub]
    by_cases hs : (L : Int) - 4 < 4 * j
    · rw [e4, if_pos (by rw [I_lt (by omega) (by omega) (by omega) (by omega)]; omega)]
      exact ⟨_, rfl⟩
    · rw [e4, if_neg (by rw [I_lt (by omega) (by omega) (by omega) (by omega)]; omega)]
      have hn : I (4 * j : Nat) + 4 = I (4 * (j + 1) : Nat) := by rw [I_4, I_add]; congr 1
      have i0 : inb (I (4 * j : Nat)) L := by rw [I_inb (by omega) (by omega)]; omega
      have i1 : inb (I (4 * j : Nat) + 1) L := by rw [I_1, I_add, I_inb (by omega) (by omega)]; omega
      have i2 : inb (I (4 * j : Nat) + 2) L := by rw [I_2, I_add, I_inb (by omega) (by omega)]; omega
      have i3 : inb (I (4 * j : Nat) + 3) L := by rw [I_3, I_add, I_inb (by omega) (by omega)]; omega
      have ih' := fun M hR => ih M (j + 1) hR (by omega) (by omega)
      rw [← hn] at ih'
      generalize xs (ix (I (4 * j : Nat) + 1)) = x1
      generalize xs (ix (I (4 * j : Nat) + 2)) = x2
      generalize xs (ix (I (4 * j : Nat) + 3)) = x3
      generalize xs (ix (I (4 * j : Nat))) &&& 31 = x0
      generalize I (4 * j : Nat) + 4 = nxtj at *
      generalize I (4 * j : Nat) + 1 = j1 at *
      generalize I (4 * j : Nat) + 2 = j2 at *
      generalize I (4 * j : Nat) + 3 = j3 at *
      simp only [ck, nm, if_pos i0, if_pos i1, if_pos i2, if_pos i3]
      by_cases c0 : x0 = 0
      · rw [if_pos c0]
        obtain ⟨r, M1, M2, q1, q2, hR2⟩ := h_feed x1 (shl64 (Int32.toInt64 x2) 32 ||| Int32.toInt64 x3 &&& 4294967295) M hR
        simp only at q1 q2
        simp only [bd2, q1, q2, if_true]
        exact ih' M2 hR2
      rw [if_neg c0]
      by_cases c1 : x0 = 1
      · rw [if_pos c1]
        obtain ⟨r, M1, M2, q1, q2, hR2⟩ := h_row  M hR
        simp only at q1 q2
        simp only [bd2, q1, q2, if_true]
        exact ih' M2 hR2
      rw [if_neg c1]
      by_cases c2 : x0 = 2
      · rw [if_pos c2]
        obtain ⟨r, M1, M2, q1, q2, hR2⟩ := h_box x1 x2 M hR
        simp only at q1 q2
        simp only [bd2, q1, q2, if_true]
        exact ih' M2 hR2
      rw [if_neg c2]
      by_cases c3 : x0 = 3
      · rw [if_pos c3]
        obtain ⟨r, M1, M2, q1, q2, hR2⟩ := h_size x1 x2 M hR
        simp only at q1 q2
        simp only [bd2, q1, q2, if_true]
        exact ih' M2 hR2
      rw [if_neg c3]
      by_cases c4 : x0 = 4
      · rw [if_pos c4]
        obtain ⟨r, M1, M2, q1, q2, hR2⟩ := h_piece x1 M hR
        simp only at q1 q2
        simp only [bd2, q1, q2, if_true]
        exact ih' M2 hR2
      rw [if_neg c4]
      by_cases c5 : x0 = 5
      · rw [if_pos c5]
        obtain ⟨r, M1, M2, q1, q2, hR2⟩ := h_joint x1 x2 M hR
        simp only at q1 q2
        simp only [bd2, q1, q2, if_true]
        exact ih' M2 hR2
      rw [if_neg c5]
      by_cases c6 : x0 = 6
      · rw [if_pos c6]
        obtain ⟨r, M1, M2, q1, q2, hR2⟩ := h_closes  M hR
        simp only at q1 q2
        simp only [bd2, q1, q2, if_true]
        exact ih' M2 hR2
      rw [if_neg c6]
      by_cases c7 : x0 = 7
      · rw [if_pos c7]
        obtain ⟨r, M1, M2, q1, q2, hR2⟩ := h_uses  M hR
        simp only at q1 q2
        simp only [bd2, q1, q2, if_true]
        exact ih' M2 hR2
      rw [if_neg c7]
      by_cases c8 : x0 = 8
      · rw [if_pos c8]
        obtain ⟨r, M1, M2, q1, q2, hR2⟩ := h_sign x1 x2 M hR
        simp only at q1 q2
        simp only [bd2, q1, q2, if_true]
        exact ih' M2 hR2
      rw [if_neg c8]
      by_cases c9 : x0 = 9
      · rw [if_pos c9]
        obtain ⟨r, M1, M2, q1, q2, hR2⟩ := h_gap x1 M hR
        simp only at q1 q2
        simp only [bd2, q1, q2, if_true]
        exact ih' M2 hR2
      rw [if_neg c9]
      by_cases c10 : x0 = 10
      · rw [if_pos c10]
        obtain ⟨r, M1, M2, q1, q2, hR2⟩ := h_nearer x1 x2 M hR
        simp only at q1 q2
        simp only [bd2, q1, q2, if_true]
        exact ih' M2 hR2
      rw [if_neg c10]
      by_cases c11 : x0 = 11
      · rw [if_pos c11]
        obtain ⟨r, M1, M2, q1, q2, hR2⟩ := h_table x1 x2 M hR
        simp only at q1 q2
        simp only [bd2, q1, q2, if_true]
        exact ih' M2 hR2
      rw [if_neg c11]
      by_cases c12 : x0 = 12
      · rw [if_pos c12]
        obtain ⟨r, M1, M2, q1, q2, hR2⟩ := h_leg x1 x2 M hR
        simp only at q1 q2
        simp only [bd2, q1, q2, if_true]
        exact ih' M2 hR2
      rw [if_neg c12]
      by_cases c13 : x0 = 13
      · rw [if_pos c13]
        obtain ⟨r, M1, M2, q1, q2, hR2⟩ := h_off  M hR
        simp only at q1 q2
        simp only [bd2, q1, q2, if_true]
        exact ih' M2 hR2
      rw [if_neg c13]
      by_cases c14 : x0 = 14
      · rw [if_pos c14]
        obtain ⟨r, M1, M2, q1, q2, hR2⟩ := h_touches  M hR
        simp only at q1 q2
        simp only [bd2, q1, q2, if_true]
        exact ih' M2 hR2
      rw [if_neg c14]
      by_cases c15 : x0 = 15
      · rw [if_pos c15]
        obtain ⟨r, M1, M2, q1, q2, hR2⟩ := h_lies  M hR
        simp only at q1 q2
        simp only [bd2, q1, q2, if_true]
        exact ih' M2 hR2
      rw [if_neg c15]
      by_cases c16 : x0 = 16
      · rw [if_pos c16]
        by_cases cb : x2 = 0
        · obtain ⟨r, M1, M2, q1, q2, hR2⟩ := h_rings x1 0 (Or.inl rfl) M hR
          simp only at q1 q2
          simp only [cb, if_true, if_false, bd2, q1, q2]
          exact ih' M2 hR2
        · obtain ⟨r, M1, M2, q1, q2, hR2⟩ := h_rings x1 1 (Or.inr rfl) M hR
          simp only at q1 q2
          simp only [cb, if_true, if_false, bd2, q1, q2]
          exact ih' M2 hR2
      rw [if_neg c16]
      by_cases c17 : x0 = 17
      · rw [if_pos c17]
        by_cases cb : x2 = 0
        · obtain ⟨r, M1, M2, q1, q2, hR2⟩ := h_ring x1 0 x3 (Or.inl rfl) M hR
          simp only at q1 q2
          simp only [cb, if_true, if_false, bd2, q1, q2]
          exact ih' M2 hR2
        · obtain ⟨r, M1, M2, q1, q2, hR2⟩ := h_ring x1 1 x3 (Or.inr rfl) M hR
          simp only at q1 q2
          simp only [cb, if_true, if_false, bd2, q1, q2]
          exact ih' M2 hR2
      rw [if_neg c17]
      by_cases c18 : x0 = 18
      · rw [if_pos c18]
        by_cases cb : x1 = 0
        · obtain ⟨r, M1, M2, q1, q2, hR2⟩ := h_most 0 (Or.inl rfl) M hR
          simp only at q1 q2
          simp only [cb, if_true, if_false, bd2, q1, q2]
          exact ih' M2 hR2
        · obtain ⟨r, M1, M2, q1, q2, hR2⟩ := h_most 1 (Or.inr rfl) M hR
          simp only at q1 q2
          simp only [cb, if_true, if_false, bd2, q1, q2]
          exact ih' M2 hR2
      rw [if_neg c18]
      by_cases c19 : x0 = 19
      · rw [if_pos c19]
        by_cases cb : x2 = 0
        · obtain ⟨r, M1, M2, q1, q2, hR2⟩ := h_opens x1 0 (Or.inl rfl) M hR
          simp only at q1 q2
          simp only [cb, if_true, if_false, bd2, q1, q2]
          exact ih' M2 hR2
        · obtain ⟨r, M1, M2, q1, q2, hR2⟩ := h_opens x1 1 (Or.inr rfl) M hR
          simp only at q1 q2
          simp only [cb, if_true, if_false, bd2, q1, q2]
          exact ih' M2 hR2
      rw [if_neg c19]
      by_cases c20 : x0 = 20
      · rw [if_pos c20]
        obtain ⟨r, M1, M2, q1, q2, hR2⟩ := h_nearest x1 M hR
        simp only at q1 q2
        simp only [bd2, q1, q2, if_true]
        exact ih' M2 hR2
      rw [if_neg c20]
      by_cases c21 : x0 = 21
      · rw [if_pos c21]
        obtain ⟨r, M1, M2, q1, q2, hR2⟩ := h_turn x1 M hR
        simp only at q1 q2
        simp only [bd2, q1, q2, if_true]
        exact ih' M2 hR2
      rw [if_neg c21]
      by_cases c22 : x0 = 22
      · rw [if_pos c22]
        obtain ⟨r, M1, M2, q1, q2, hR2⟩ := h_photo  M hR
        simp only at q1 q2
        simp only [bd2, q1, q2, if_true]
        exact ih' M2 hR2
      rw [if_neg c22]
      by_cases c23 : x0 = 23
      · rw [if_pos c23]
        obtain ⟨r, M1, M2, q1, q2, hR2⟩ := h_image  M hR
        simp only at q1 q2
        simp only [bd2, q1, q2, if_true]
        exact ih' M2 hR2
      rw [if_neg c23]
      by_cases c24 : x0 = 24
      · rw [if_pos c24]
        obtain ⟨r, M1, M2, q1, q2, hR2⟩ := h_on  M hR
        simp only at q1 q2
        simp only [bd2, q1, q2, if_true]
        exact ih' M2 hR2
      rw [if_neg c24]
      by_cases c25 : x0 = 25
      · rw [if_pos c25]
        obtain ⟨r, M1, M2, q1, q2, hR2⟩ := h_count x1 M hR
        simp only at q1 q2
        simp only [bd2, q1, q2, if_true]
        exact ih' M2 hR2
      rw [if_neg c25]
      exact ih' M hR
