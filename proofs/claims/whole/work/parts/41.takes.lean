/-! Part 41: the reference's walk of a row -/
def alW (m v : Int) (k : Nat) : Int := [2 * m, v, 0, -v, -(2 * m), -v, 0, v].getD k 0
def alR (m v : Int) (k : Nat) : Int := [v, m, 0, -m, -v, -m, 0, m].getD k 0
def m8 (d : Int) : Nat := (d % 8).toNat
theorem and7' : ∀ n : Nat, n < 24 → I ((n : Int) - 8) &&& 7 = I (m8 ((n : Int) - 8)) := by decide +kernel
theorem and7 {d : Int} (h : -8 ≤ d) (h2 : d < 16) : I d &&& 7 = I (m8 d) := by
  have := and7' (d + 8).toNat (by omega)
  rw [show (((d + 8).toNat : Nat) : Int) - 8 = d by omega] at this
  exact this
theorem along_s {N : Nat} {M : Mem} {m v d : Int} (h : -8 ≤ d) (h2 : d < 16) (hm : -1000 ≤ m) (hm2 : m ≤ 1000) : f_X7_along N M (I (2 * m)) (I v) (I d) = some (seI (seI M 34 9 (I (alW m v (m8 d)))) 34 10 (I (alR m v (m8 d)))) := by
  have h8 : m8 d < 8 := by unfold m8; omega
  unfold f_X7_along
  rw [and7 h h2, I_neg, I_neg, show -(2 * m) = 2 * -m by omega, I_half (by omega) (by omega), I_half (by omega) (by omega)]
  generalize m8 d = k at *
  rcases (show k = 0 ∨ k = 1 ∨ k = 2 ∨ k = 3 ∨ k = 4 ∨ k = 5 ∨ k = 6 ∨ k = 7 by omega) with rfl | rfl | rfl | rfl | rfl | rfl | rfl | rfl
  all_goals
    simp only [nm, alW, alR]
    rw [show 2 * -m = -(2 * m) by omega]
    rfl
def ad (m v d : Int) : Pl := (alW m v (m8 d), alR m v (m8 d), alW m v (m8 (d - 2)), alR m v (m8 (d - 2)))
def At (M : Mem) (p : Nat) (P : Pl) : Prop := M.1 39 p = I P.1 ∧ M.1 39 (p + 1) = I P.2.1 ∧ M.1 39 (p + 2) = I P.2.2.1 ∧ M.1 39 (p + 3) = I P.2.2.2
/-- what a step of the walk leaves as it was -/
def Out (M M' : Mem) (p q : Nat) : Prop := (∀ a b, a ≠ 39 → ¬ (a = 34 ∧ (b = 9 ∨ b = 10)) → M'.1 a b = M.1 a b) ∧ M'.2 = M.2 ∧ ∀ b, (b < p ∨ q ≤ b) → M'.1 39 b = M.1 39 b
theorem Out.rf {M : Mem} {p q : Nat} : Out M M p q := ⟨fun _ _ _ _ => rfl, rfl, fun _ _ => rfl⟩
theorem Out.tr {M M' M'' : Mem} {p q p' q' : Nat} (h : Out M M' p q) (h' : Out M' M'' p' q') {a b : Nat} (h1 : a ≤ p) (h2 : a ≤ p') (h3 : q ≤ b) (h4 : q' ≤ b) : Out M M'' a b :=
  ⟨fun x y hx hy => (h'.1 x y hx hy).trans (h.1 x y hx hy), h'.2.1.trans h.2.1, fun y hy => (h'.2.2 y (by omega)).trans (h.2.2 y (by omega))⟩
theorem adds_s {N p : Nat} {M : Mem} {m v d : Int} {P : Pl} (h : -6 ≤ d) (h2 : d < 16) (hm : -1000 ≤ m) (hm2 : m ≤ 1000) (hp : p + 4 < 125) (hP : At M p P) :
    ∃ M', f_X7_adds N M (I p) (I (2 * m)) (I v) (I d) = some M' ∧ At M' p (padd P (ad m v d)) ∧ Out M M' p (p + 4) := by
  obtain ⟨p1, p2, p3, p4⟩ := hP
  have e0 : f_X7_adds N M (I p) (I (2 * m)) (I v) (I d) = some (seI (seI (seI (seI (seI (seI (seI (seI M 34 9 (I (alW m v (m8 d)))) 34 10 (I (alR m v (m8 d)))) 39 p (I (padd P (ad m v d)).1)) 39 (p + 1) (I (padd P (ad m v d)).2.1)) 34 9 (I (alW m v (m8 (d - 2))))) 34 10 (I (alR m v (m8 (d - 2))))) 39 (p + 2) (I (padd P (ad m v d)).2.2.1)) 39 (p + 3) (I (padd P (ad m v d)).2.2.2)) := by
    unfold f_X7_adds
    rw [along_s (by omega) h2 hm hm2]
    simp only [bd, nm, ck]
    rw [if_pos (show inb (I p) 125 by rw [I_inb] <;> omega), if_pos (show inb (I p) 125 by rw [I_inb] <;> omega)]
    rw [I_1, I_2, I_3, I_add, I_add, I_add]
    rw [if_pos (show inb (I ((p : Int) + 1)) 125 by rw [I_inb] <;> omega), if_pos (show inb (I ((p : Int) + 1)) 125 by rw [I_inb] <;> omega)]
    rw [I_sub, along_s (by omega) (by omega) hm hm2]
    simp only []
    rw [if_pos (show inb (I ((p : Int) + 2)) 125 by rw [I_inb] <;> omega), if_pos (show inb (I ((p : Int) + 2)) 125 by rw [I_inb] <;> omega)]
    rw [if_pos (show inb (I ((p : Int) + 3)) 125 by rw [I_inb] <;> omega), if_pos (show inb (I ((p : Int) + 3)) 125 by rw [I_inb] <;> omega)]
    rw [I_ix (by omega) (by omega), I_ix (by omega) (by omega), I_ix (by omega) (by omega), I_ix (by omega) (by omega), show ((p : Int)).toNat = p by omega, show ((p : Int) + 1).toNat = p + 1 by omega, show ((p : Int) + 2).toNat = p + 2 by omega, show ((p : Int) + 3).toNat = p + 3 by omega]
    simp [seI_1, p1, p2, p3, p4, padd, ad, I_add]
  refine ⟨_, e0, ⟨?_, ?_, ?_, ?_⟩, fun a b ha hb => ?_, rfl, fun b hb => ?_⟩
  · simp [seI_1]
  · simp [seI_1]
  · simp [seI_1]
  · simp [seI_1]
  · simp only [seI_1]
    repeat rw [if_neg (by omega)]
  · simp only [seI_1]
    repeat rw [if_neg (by omega)]
