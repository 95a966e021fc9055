/-! Part 34: measure: the steps of all letters, of the sizes -/
theorem rotf : ∀ l, l < 10 → ∀ d, d < 7 → (cof l (d + 1)).1 = (cof l d).2.1 - (cof l d).2.2.2 ∧ 2 * (cof l (d + 1)).2.1 = (cof l d).1 - (cof l d).2.2.1 ∧ (cof l (d + 1)).2.2.1 = (cof l d).2.1 + (cof l d).2.2.2 ∧ 2 * (cof l (d + 1)).2.2.2 = (cof l d).1 + (cof l d).2.2.1 := by decide +kernel
theorem cofb : ∀ l, l < 10 → ∀ d, d < 8 → (-2 ≤ (cof l d).1 ∧ (cof l d).1 ≤ 2) ∧ (-2 ≤ (cof l d).2.1 ∧ (cof l d).2.1 ≤ 2) ∧ (-2 ≤ (cof l d).2.2.1 ∧ (cof l d).2.2.1 ≤ 2) ∧ (-2 ≤ (cof l d).2.2.2 ∧ (cof l d).2.2.2 ≤ 2) := by decide +kernel
theorem mulb {z p : Int} (hz : 0 ≤ z) (hz2 : z ≤ 20) (h : -2 ≤ p ∧ p ≤ 2) : -40 ≤ z * p ∧ z * p ≤ 40 := by
  rcases (show p = -2 ∨ p = -1 ∨ p = 0 ∨ p = 1 ∨ p = 2 by omega) with rfl | rfl | rfl | rfl | rfl <;> omega
theorem I_half {m : Int} (h : -1000 ≤ m) (h2 : m ≤ 1000) : I (2 * m) / 2 = I m := by
  rw [← Int32.toInt_inj, Int32.toInt_div_of_ne_right _ _ (by decide), I_to (by omega) (by omega), I_to (by omega) (by omega), show (2 : Int32).toInt = 2 from rfl]
  exact Int.mul_tdiv_cancel_left m (by decide)
def wrD (M : Mem) (l d0 : Nat) (f : Nat → Int64) : Mem := (M.1, fun a b => if a = 16 ∧ b % 10 = l ∧ d0 ≤ b / 10 ∧ b / 10 < 8 then f (b / 10) else M.2 a b)
theorem wrD_8 {M : Mem} {l : Nat} {f : Nat → Int64} : wrD M l 8 f = M := by
  apply Prod.ext
  · rfl
  · funext a b
    show (if _ then _ else _) = _
    rw [if_neg (by omega)]
theorem wrD_s {M : Mem} {l d : Nat} {f : Nat → Int64} (hl : l < 10) (hd : d < 8) : wrD (seL M 16 (10 * d + l) (f d)) l (d + 1) f = wrD M l d f := by
  apply Prod.ext
  · rfl
  · funext a b
    show (if _ then _ else (seL M 16 (10 * d + l) (f d)).2 a b) = (if _ then _ else _)
    rw [seL_2]
    by_cases h : a = 16 ∧ b = 10 * d + l
    · rw [if_neg (by omega), if_pos h, if_pos (by omega), show b / 10 = d by omega]
    · rw [if_neg h]
      by_cases h2 : a = 16 ∧ b % 10 = l ∧ d + 1 ≤ b / 10 ∧ b / 10 < 8
      · rw [if_pos h2, if_pos (by omega)]
      · rw [if_neg h2, if_neg (by omega)]
theorem mloop {N l : Nat} (hl : l < 10) {z : Int} (hz : 0 ≤ z) (hz2 : z ≤ 20) : ∀ (k d n : Nat) (M : Mem) (a b c e : Int), d + k = 8 → k < n → (d < 8 → (a, b, c, e) = psc z (cof l d)) → l_X1_measureLetter_77 N n M (I l) (I a) (I b) (I c) (I e) (I d) = some (wrD M l d (fun d => J (pkp (psc z (cof l d))))) := by
  intro k
  induction k with
  | zero =>
    intro d n M a b c e h1 h2 _
    obtain ⟨n, rfl⟩ : ∃ q, n = q + 1 := ⟨n - 1, by omega⟩
    obtain rfl : d = 8 := by omega
    rw [l_X1_measureLetter_77, if_pos (by rw [I_8, I_le] <;> omega), wrD_8]
  | succ k ih =>
    intro d n M a b c e h1 h2 h3
    obtain ⟨n, rfl⟩ : ∃ q, n = q + 1 := ⟨n - 1, by omega⟩
    have hd : d < 8 := by omega
    have h4 := h3 hd
    obtain ⟨b1, b2, b3, b4⟩ := cofb l hl d hd
    have e1 : a = z * (cof l d).1 := congrArg (fun p : Pl => p.1) h4
    have e2 : b = z * (cof l d).2.1 := congrArg (fun p : Pl => p.2.1) h4
    have e3 : c = z * (cof l d).2.2.1 := congrArg (fun p : Pl => p.2.2.1) h4
    have e4 : e = z * (cof l d).2.2.2 := congrArg (fun p : Pl => p.2.2.2) h4
    have m1 := mulb hz hz2 b1
    have m2 := mulb hz hz2 b2
    have m3 := mulb hz hz2 b3
    have m4 := mulb hz hz2 b4
    rw [l_X1_measureLetter_77, if_neg (by rw [I_8, I_le] <;> omega), IJ (by omega) (by omega), IJ (by omega) (by omega), IJ (by omega) (by omega), IJ (by omega) (by omega), xplace]
    simp only [bd2]
    rw [I_10, I_mul, I_add, pput_in (n := 80) rfl (by decide) (by omega) (by omega)]
    simp only [bd, nm]
    rw [show ((d : Int) * 10 + l).toNat = 10 * d + l by omega, show J (pk a b c e) = J (pkp (psc z (cof l d))) by rw [← h4]; rfl]
    rw [← wrD_s (f := fun d => J (pkp (psc z (cof l d)))) hl hd]
    rw [I_sub, I_add, I_sub, I_add, I_1, I_add]
    by_cases h7 : d < 7
    · obtain ⟨r1, r2, r3, r4⟩ := rotf l hl d h7
      obtain ⟨q1, q2, q3, q4⟩ := cofb l hl (d + 1) (by omega)
      have n2 := mulb hz hz2 q2
      have n4 := mulb hz hz2 q4
      have t2 : a - c = 2 * (z * (cof l (d + 1)).2.1) := by rw [e1, e3, ← Int.mul_sub, ← r2, Int.mul_left_comm]
      have t4 : a + c = 2 * (z * (cof l (d + 1)).2.2.2) := by rw [e1, e3, ← Int.mul_add, ← r4, Int.mul_left_comm]
      rw [t2, t4, I_half (by omega) (by omega), I_half (by omega) (by omega)]
      refine ih (d + 1) n _ _ _ _ _ (by omega) (by omega) (fun _ => ?_)
      rw [e2, e4, ← Int.mul_sub, ← Int.mul_add, ← r1, ← r3]
      rfl
    · obtain rfl : d = 7 := by omega
      obtain rfl : k = 0 := by omega
      obtain ⟨n, rfl⟩ : ∃ q, n = q + 1 := ⟨n - 1, by omega⟩
      rw [l_X1_measureLetter_77, if_pos (by decide), wrD_8]
theorem mlet {N l : Nat} (hl : l < 10) {z : Int} (hz : 0 ≤ z) (hz2 : z ≤ 20) (M : Mem) (hN : 10 < N) : f_X1_measureLetter N M (I l) (I (tn l)) (I z) = some (wrD M l 0 (fun d => J (pkp (psc z (cof l d))))) := by
  have key : ∀ a b c e : Int, (a, b, c, e) = psc z (cof l 0) → l_X1_measureLetter_77 N N M (I l) (I a) (I b) (I c) (I e) 0 = some (wrD M l 0 (fun d => J (pkp (psc z (cof l d))))) := fun a b c e h => mloop hl hz hz2 8 0 N M a b c e rfl (by omega) (fun _ => h)
  have cmp : ∀ M' (t : Int), -2 ≤ t → t ≤ 2 → f_J6_compare_7cf53 N M' (I t) 0 = some (I (if t < 0 then -1 else if t = 0 then 0 else 1), M') := by
    intro M' t h1 h2
    rcases (show t = -2 ∨ t = -1 ∨ t = 0 ∨ t = 1 ∨ t = 2 by omega) with rfl | rfl | rfl | rfl | rfl <;> rfl
  unfold f_X1_measureLetter
  rcases (show l = 0 ∨ l = 1 ∨ l = 2 ∨ l = 3 ∨ l = 4 ∨ l = 5 ∨ l = 6 ∨ l = 7 ∨ l = 8 ∨ l = 9 by omega) with rfl | rfl | rfl | rfl | rfl | rfl | rfl | rfl | rfl | rfl
  all_goals
    rw [cmp M _ (by decide) (by decide)]
    simp only [bd2, nm]
  · rw [if_neg (by decide), if_neg (by decide), I_2, I_mul, I_mul, I_mul, I_0]; exact key _ _ _ _ (by simp only [psc]; refine Prod.ext ?_ (Prod.ext ?_ (Prod.ext ?_ ?_)) <;> simp [cof, cofL, tn] <;> omega)
  · rw [if_neg (by decide), if_neg (by decide), I_2, I_mul, I_mul, I_mul, I_0]; exact key _ _ _ _ (by simp only [psc]; refine Prod.ext ?_ (Prod.ext ?_ (Prod.ext ?_ ?_)) <;> simp [cof, cofL, tn] <;> omega)
  · rw [if_neg (by decide), if_neg (by decide), I_2, I_mul, I_mul, I_mul, I_0]; exact key _ _ _ _ (by simp only [psc]; refine Prod.ext ?_ (Prod.ext ?_ (Prod.ext ?_ ?_)) <;> simp [cof, cofL, tn] <;> omega)
  · rw [if_pos (by decide), I_2, I_neg, I_mul, I_mul, I_mul, I_0]; exact key _ _ _ _ (by simp only [psc]; refine Prod.ext ?_ (Prod.ext ?_ (Prod.ext ?_ ?_)) <;> simp [cof, cofL, tn] <;> omega)
  · rw [if_pos (by decide), I_2, I_neg, I_mul, I_mul, I_mul, I_0]; exact key _ _ _ _ (by simp only [psc]; refine Prod.ext ?_ (Prod.ext ?_ (Prod.ext ?_ ?_)) <;> simp [cof, cofL, tn] <;> omega)
  · rw [if_neg (by decide), if_pos (by decide), I_2, I_neg, I_mul, I_mul, I_mul, I_0]; exact key _ _ _ _ (by simp only [psc]; refine Prod.ext ?_ (Prod.ext ?_ (Prod.ext ?_ ?_)) <;> simp [cof, cofL, tn] <;> omega)
  · rw [if_neg (by decide), if_pos (by decide), I_2, I_neg, I_mul, I_mul, I_mul, I_0]; exact key _ _ _ _ (by simp only [psc]; refine Prod.ext ?_ (Prod.ext ?_ (Prod.ext ?_ ?_)) <;> simp [cof, cofL, tn] <;> omega)
  · rw [if_neg (by decide), if_neg (by decide), I_2, I_mul, I_mul, I_mul, I_0]; exact key _ _ _ _ (by simp only [psc]; refine Prod.ext ?_ (Prod.ext ?_ (Prod.ext ?_ ?_)) <;> simp [cof, cofL, tn] <;> omega)
  · rw [if_neg (by decide), if_neg (by decide), I_2, I_mul, I_mul, I_mul, I_0]; exact key _ _ _ _ (by simp only [psc]; refine Prod.ext ?_ (Prod.ext ?_ (Prod.ext ?_ ?_)) <;> simp [cof, cofL, tn] <;> omega)
  · rw [if_neg (by decide), if_neg (by decide), I_2, I_mul, I_mul, I_mul, I_0]; exact key _ _ _ _ (by simp only [psc]; refine Prod.ext ?_ (Prod.ext ?_ (Prod.ext ?_ ?_)) <;> simp [cof, cofL, tn] <;> omega)
