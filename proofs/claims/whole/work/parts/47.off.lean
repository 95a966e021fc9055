/-! Part 47: off -/
def sgv (N : Nat) (x y : Int64) : Int32 := match f_X7_signOf N Mz x y with
  | some (r, _) => r
  | none => 0
theorem sgv_s (N : Nat) (M : Mem) (x y : Int64) : f_X7_signOf N M x y = some (sgv N x y, M) := by
  obtain ⟨r, hr⟩ := sg_ex N x y
  unfold sgv
  rw [hr, hr]
theorem sgv_x (N : Nat) (M : Mem) (x y : Int64) : f_X2_signOf N M x y = some (sgv N x y, M) := by rw [sg_same, sgv_s]
def AtL (m : Nat) (lx ly : Nat → Int) (P : Pl) : Prop := ∃ k, k < m ∧ P = (lx k, 0, ly k, 0)
def OutT (N : Nat) (sd : Nat → Int) (P : Pl) : Prop := sgv N (J (P.1 - sd 0)) (J P.2.1) < 0 ∨ 0 < sgv N (J (P.1 - sd 1)) (J P.2.1) ∨ sgv N (J (P.2.2.1 - sd 2)) (J P.2.2.2) < 0 ∨ 0 < sgv N (J (P.2.2.1 - sd 3)) (J P.2.2.2)
def OffP (N : Nat) (sd : Nat → Int) (m : Nat) (lx ly : Nat → Int) (P : Pl) : Prop := OutT N sd P ∨ AtL m lx ly P
def b4 (z : Int) : Prop := -400 ≤ z ∧ z ≤ 400
def TbX (M : Mem) (sd : Nat → Int) (m : Nat) (lx ly : Nat → Int) : Prop := (∀ k, k < 4 → M.1 5 k = I (sd k) ∧ b4 (sd k)) ∧ (M.1 1 7 = I m ∧ m ≤ 6) ∧ ∀ k, k < 6 → M.1 6 k = I (lx k) ∧ M.1 7 k = I (ly k) ∧ b4 (lx k) ∧ b4 (ly k)
def TbM (M : Mem) (sd : Nat → Int) (m : Nat) (lx ly : Nat → Int) : Prop := (∀ k, k < 4 → M.1 36 (14 + k) = I (sd k) ∧ b4 (sd k)) ∧ (M.1 36 30 = I m ∧ m ≤ 6) ∧ ∀ k, k < 6 → M.1 36 (18 + 2 * k) = I (lx k) ∧ M.1 36 (19 + 2 * k) = I (ly k) ∧ b4 (lx k) ∧ b4 (ly k)
theorem tb_ex {M : Mem} (hR : RelI M) : ∃ sd m lx ly, TbX M sd m lx ly ∧ TbM M sd m lx ly := by
  obtain ⟨l1, l2, l3, l4, ⟨l5, l5b⟩, l6, l7⟩ := hR.2.1
  have l5b : Bd (M.1 1 7) 0 6 := l5b
  unfold Bd at l5b
  have e7 : M.1 1 7 = I ((M.1 1 7).toInt.toNat : Nat) := by rw [Int.toNat_of_nonneg l5b.1, I_of]
  refine ⟨fun k => (M.1 5 k).toInt, (M.1 1 7).toInt.toNat, fun k => (M.1 6 k).toInt, fun k => (M.1 7 k).toInt, ⟨fun k hk => ⟨(I_of _).symm, (l3 k hk).2⟩, ⟨e7, by omega⟩, fun k hk => ⟨(I_of _).symm, (I_of _).symm, (l4 k hk).2.2.1, (l4 k hk).2.2.2⟩⟩, ⟨fun k hk => ⟨(l3 k hk).1.trans (I_of _).symm, (l3 k hk).2⟩, ⟨l5.trans e7, by omega⟩, fun k hk => ⟨(l4 k hk).1.trans (I_of _).symm, (l4 k hk).2.1.trans (I_of _).symm, (l4 k hk).2.2.1, (l4 k hk).2.2.2⟩⟩⟩
theorem TbX.kp {M M' : Mem} {sd : Nat → Int} {m : Nat} {lx ly : Nat → Int} (h : TbX M sd m lx ly) (h5 : ∀ j, M'.1 5 j = M.1 5 j) (h6 : ∀ j, M'.1 6 j = M.1 6 j) (h7 : ∀ j, M'.1 7 j = M.1 7 j) (h1 : M'.1 1 7 = M.1 1 7) : TbX M' sd m lx ly :=
  ⟨fun k hk => ⟨(h5 k).trans (h.1 k hk).1, (h.1 k hk).2⟩, ⟨h1.trans h.2.1.1, h.2.1.2⟩, fun k hk => ⟨(h6 k).trans (h.2.2 k hk).1, (h7 k).trans (h.2.2 k hk).2.1, (h.2.2 k hk).2.2⟩⟩
theorem TbM.kp {M M' : Mem} {sd : Nat → Int} {m : Nat} {lx ly : Nat → Int} (h : TbM M sd m lx ly) (h36 : ∀ j, M'.1 36 j = M.1 36 j) : TbM M' sd m lx ly :=
  ⟨fun k hk => ⟨(h36 _).trans (h.1 k hk).1, (h.1 k hk).2⟩, ⟨(h36 _).trans h.2.1.1, h.2.1.2⟩, fun k hk => ⟨(h36 _).trans (h.2.2 k hk).1, (h36 _).trans (h.2.2 k hk).2.1, (h.2.2 k hk).2.2⟩⟩
theorem xleg {N m : Nat} {M : Mem} {sd lx ly : Nat → Int} {P : Pl} (hT : TbX M sd m lx ly) (hP : PB P 960) (hN : 2000 < N) : ∃ x, (x = 1 ∧ AtL m lx ly P ∨ x = 0 ∧ ¬ AtL m lx ly P) ∧ f_X0_isAtLeg N M (J (pkp P)) = some (x, M) := by
  obtain ⟨-, ⟨h7, hm⟩, hl⟩ := hT
  have key : ∀ (r j n' : Nat), j + r = m → r < n' → (∀ k, k < j → P ≠ (lx k, 0, ly k, 0)) → ∃ x, (x = 1 ∧ AtL m lx ly P ∨ x = 0 ∧ ¬ AtL m lx ly P) ∧ l_X0_isAtLeg_2 N n' M (J (pkp P)) (I j) = some (x, M) := by
    intro r
    induction r with
    | zero =>
      intro j n' h1 h2 h3
      obtain ⟨n', rfl⟩ : ∃ q, n' = q + 1 := ⟨n' - 1, by omega⟩
      obtain rfl : j = m := by omega
      exact ⟨0, Or.inr ⟨rfl, fun ⟨k, hk, e⟩ => h3 k hk e⟩, by rw [l_X0_isAtLeg_2, h7, if_pos (by rw [I_le] <;> omega)]⟩
    | succ r ih =>
      intro j n' h1 h2 h3
      obtain ⟨n', rfl⟩ : ∃ q, n' = q + 1 := ⟨n' - 1, by omega⟩
      obtain ⟨e1, e2, e3, e4⟩ := hl j (by omega)
      unfold b4 at e3 e4
      have hb : PB (lx j, 0, ly j, 0) 960 := by unfold PB; dsimp only; omega
      rw [l_X0_isAtLeg_2, h7, if_neg (by rw [I_le] <;> omega), at_in (n := 6) rfl (by decide) (by omega) (by omega)]
      simp only [bd2, Int.toNat_natCast]
      rw [at_in (n := 6) rfl (by decide) (by omega) (by omega)]
      simp only [Int.toNat_natCast]
      rw [e1, e2, IJ (by omega) (by omega), IJ (by omega) (by omega), J_0, xplace]
      simp only []
      by_cases c : P = (lx j, 0, ly j, 0)
      · have e : lg_cmp (J (pkp P)) (J (pk (lx j) 0 (ly j) 0)) = 0 := by rw [lcmp0, show pk (lx j) 0 (ly j) 0 = pkp (lx j, 0, ly j, 0) from rfl, plE hP hb]; exact c
        rw [if_pos e]
        exact ⟨1, Or.inl ⟨rfl, j, by omega, c⟩, rfl⟩
      · have e : ¬ lg_cmp (J (pkp P)) (J (pk (lx j) 0 (ly j) 0)) = 0 := by rw [lcmp0, show pk (lx j) 0 (ly j) 0 = pkp (lx j, 0, ly j, 0) from rfl, plE hP hb]; exact c
        rw [if_neg e, I_1, I_add]
        exact ih (j + 1) n' (by omega) (by omega) (fun k hk => by
          by_cases ek : k = j
          · subst ek; exact c
          · exact h3 k (by omega))
  exact key m 0 N (by omega) (by omega) (fun k hk => by omega)
theorem mleg {N m p : Nat} {M : Mem} {sd lx ly : Nat → Int} {P : Pl} (hT : TbM M sd m lx ly) (hp : p + 5 ≤ 125) (hA : At M p P) (hP : PB P 960) (h0 : P.2.1 = 0) (h1 : P.2.2.2 = 0) (hN : 2000 < N) : ∃ x, (x = 0 ∧ AtL m lx ly P ∨ x = 1 ∧ ¬ AtL m lx ly P) ∧ l_X7_isOn_162 N N M (I p) 0 = some (x, M) := by
  obtain ⟨-, ⟨h7, hm⟩, hl⟩ := hT
  obtain ⟨a1, a2, a3, a4⟩ := hA
  unfold PB at hP
  have key : ∀ (r j n' : Nat), j + r = m → r < n' → (∀ k, k < j → P ≠ (lx k, 0, ly k, 0)) → ∃ x, (x = 0 ∧ AtL m lx ly P ∨ x = 1 ∧ ¬ AtL m lx ly P) ∧ l_X7_isOn_162 N n' M (I p) (I j) = some (x, M) := by
    intro r
    induction r with
    | zero =>
      intro j n' h1 h2 h3
      obtain ⟨n', rfl⟩ : ∃ q, n' = q + 1 := ⟨n' - 1, by omega⟩
      obtain rfl : j = m := by omega
      exact ⟨1, Or.inr ⟨rfl, fun ⟨k, hk, e⟩ => h3 k hk e⟩, by rw [l_X7_isOn_162, show ix (30 : Int32) = 30 from rfl, h7, if_pos (by rw [I_le] <;> omega)]⟩
    | succ r ih =>
      intro j n' g1 g2 h3
      obtain ⟨n', rfl⟩ : ∃ q, n' = q + 1 := ⟨n' - 1, by omega⟩
      obtain ⟨e1, e2, e3, e4⟩ := hl j (by omega)
      unfold b4 at e3 e4
      rw [l_X7_isOn_162, show ix (30 : Int32) = 30 from rfl, h7, if_neg (by rw [I_le] <;> omega)]
      simp only [ck]
      rw [I_2, I_18, I_mul, I_add, I_1, I_add, I_add, I_add]
      rw [if_pos (show inb (I ((18 : Int) + 2 * j)) 56 by rw [I_inb] <;> omega), if_pos (show inb (I p) 125 by rw [I_inb] <;> omega), if_pos (show inb (I ((18 : Int) + 2 * j + 1)) 56 by rw [I_inb] <;> omega), if_pos (show inb (I ((p : Int) + 2)) 125 by rw [I_inb] <;> omega)]
      rw [I_ix (by omega) (by omega), I_ix (by omega) (by omega), I_ix (by omega) (by omega), I_ix (by omega) (by omega), show ((18 : Int) + 2 * j).toNat = 18 + 2 * j by omega, show ((18 : Int) + 2 * j + 1).toNat = 19 + 2 * j by omega, show ((p : Int)).toNat = p by omega, show ((p : Int) + 2).toNat = p + 2 by omega]
      have q := ih (j + 1) n' (by omega) (by omega)
      have qn : P ≠ (lx j, 0, ly j, 0) → ∀ k, k < j + 1 → P ≠ (lx k, 0, ly k, 0) := fun c k hk => by
        by_cases ek : k = j
        · subst ek; exact c
        · exact h3 k (by omega)
      by_cases c1 : P.1 = lx j
      · rw [if_pos (by rw [e1, a1, c1])]
        by_cases c2 : P.2.2.1 = ly j
        · rw [if_pos (by rw [e2, a3, c2])]
          exact ⟨0, Or.inl ⟨rfl, j, by omega, Prod.ext c1 (Prod.ext h0 (Prod.ext c2 h1))⟩, rfl⟩
        · rw [if_neg (by rw [e2, a3, I_eq] <;> omega)]
          exact q (qn (fun e => c2 (by rw [e])))
      · rw [if_neg (by rw [e1, a1, I_eq] <;> omega)]
        exact q (qn (fun e => c1 (by rw [e])))
  exact key m 0 N (by omega) (by omega) (fun k hk => by omega)
