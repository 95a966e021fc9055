/-! Part 42: the reference's walk, a piece and all -/
theorem psc_padd (z : Int) (p q : Pl) : psc z (padd p q) = padd (psc z p) (psc z q) := by
  unfold psc padd
  dsimp only
  rw [Int.mul_add, Int.mul_add, Int.mul_add, Int.mul_add]
theorem padd_as (p q r : Pl) : padd (padd p q) r = padd p (padd q r) := by
  unfold padd
  dsimp only
  rw [Int.add_assoc, Int.add_assoc, Int.add_assoc, Int.add_assoc]
theorem alW_z (z m v : Int) (k : Nat) (hk : k < 8) : z * alW m v k = alW (z * m) (z * v) k := by
  rcases (show k = 0 ∨ k = 1 ∨ k = 2 ∨ k = 3 ∨ k = 4 ∨ k = 5 ∨ k = 6 ∨ k = 7 by omega) with rfl | rfl | rfl | rfl | rfl | rfl | rfl | rfl <;> simp [alW, Int.mul_left_comm, Int.mul_neg]
theorem alR_z (z m v : Int) (k : Nat) (hk : k < 8) : z * alR m v k = alR (z * m) (z * v) k := by
  rcases (show k = 0 ∨ k = 1 ∨ k = 2 ∨ k = 3 ∨ k = 4 ∨ k = 5 ∨ k = 6 ∨ k = 7 by omega) with rfl | rfl | rfl | rfl | rfl | rfl | rfl | rfl <;> simp [alR, Int.mul_left_comm, Int.mul_neg]
theorem ad_z (z m v d : Int) : psc z (ad m v d) = ad (z * m) (z * v) d := by
  have h1 : m8 d < 8 := by unfold m8; omega
  have h2 : m8 (d - 2) < 8 := by unfold m8; omega
  unfold psc ad
  dsimp only
  rw [alW_z _ _ _ _ h1, alR_z _ _ _ _ h1, alW_z _ _ _ _ h2, alR_z _ _ _ _ h2]
/-- a letter's step as the reference adds it -/
def plq (p q : Pl) : Bool := (p.1 == q.1 && p.2.1 == q.2.1) && (p.2.2.1 == q.2.2.1 && p.2.2.2 == q.2.2.2)
theorem plq_eq {p q : Pl} (h : plq p q = true) : p = q := by
  unfold plq at h
  simp only [Bool.and_eq_true, beq_iff_eq] at h
  exact Prod.ext h.1.1 (Prod.ext h.1.2 (Prod.ext h.2.1 h.2.2))
theorem cof_a0 : ∀ l : Nat, l < 10 → ∀ d : Nat, d < 8 → tn l = 0 → plq (cof l d) (ad 1 0 d) = true := by decide +kernel
theorem cof_a1 : ∀ l : Nat, l < 10 → ∀ d : Nat, d < 8 → tn l = 1 → plq (cof l d) (padd (ad 0 1 d) (ad 1 (-1) (d + 2))) = true := by decide +kernel
theorem cof_a2 : ∀ l : Nat, l < 10 → ∀ d : Nat, d < 8 → tn l = -1 → plq (cof l d) (padd (ad 0 1 d) (ad 1 (-1) (d - 2))) = true := by decide +kernel
theorem cof_a3 : ∀ l : Nat, l < 10 → ∀ d : Nat, d < 8 → tn l = 2 → plq (cof l d) (padd (ad 1 0 d) (ad 1 0 (d + 2))) = true := by decide +kernel
theorem cof_a4 : ∀ l : Nat, l < 10 → ∀ d : Nat, d < 8 → tn l = -2 → plq (cof l d) (padd (ad 1 0 d) (ad 1 0 (d - 2))) = true := by decide +kernel
theorem tn_b : ∀ l : Nat, l < 10 → tn l = 0 ∨ tn l = 1 ∨ tn l = -1 ∨ tn l = 2 ∨ tn l = -2 := by decide
theorem lay_go {N n v i : Nat} {M : Mem} {v2 : Int32} (hv : 5 ≤ v) (hi : i < 5) (h : v + i < 125) : l_X7_lays_16 N (n + 1) M v2 (I v) (I i) = l_X7_lays_16 N n (seI M 39 (v + i) (M.1 39 (v - 5 + i))) v2 (I v) (I (i + 1 : Nat)) := by
  rw [l_X7_lays_16, if_neg (by rw [I_5, I_le] <;> omega)]
  simp only [ck, nm]
  rw [I_5, I_sub, I_add, I_add, if_pos (show inb (I ((v : Int) - 5 + i)) 125 by rw [I_inb] <;> omega), if_pos (show inb (I ((v : Int) + i)) 125 by rw [I_inb] <;> omega), I_ix (by omega) (by omega), I_ix (by omega) (by omega), show ((v : Int) - 5 + i).toNat = v - 5 + i by omega, show ((v : Int) + i).toNat = v + i by omega, I_1, I_add]
  rfl
theorem lay_end {N n v l d : Nat} {M : Mem} {z : Int} {P : Pl} (hv : v + 5 ≤ 125) (hl : l < 10) (hd : d < 8) (hz : 0 ≤ z) (hz2 : z ≤ 20) (hM : M.1 36 (7 + kd l) = I z) (hP : At M v P) (h4 : M.1 39 (v + 4) = I d) :
    ∃ M', l_X7_lays_16 N (n + 1) M (I l) (I v) (I (5 : Nat)) = some M' ∧ At M' v (padd P (psc z (cof l d))) ∧ M'.1 39 (v + 4) = I (dn d l) ∧ Out M M' v (v + 5) := by
  have hk := kd_lt l hl
  have c1 := fun e => plq_eq (cof_a0 l hl d hd e)
  have c2 := fun e => plq_eq (cof_a1 l hl d hd e)
  have c3 := fun e => plq_eq (cof_a2 l hl d hd e)
  have c4 := fun e => plq_eq (cof_a3 l hl d hd e)
  have c5 := fun e => plq_eq (cof_a4 l hl d hd e)
  have fin : ∀ (M1 : Mem) (Q : Pl), At M1 v (padd P Q) → Out M M1 v (v + 4) → Q = psc z (cof l d) →
      ∃ M', (if inb (I ((v : Int) + 4)) 125 then some (seI M1 39 (v + 4) (I (dn d l))) else none) = some M' ∧ At M' v (padd P (psc z (cof l d))) ∧ M'.1 39 (v + 4) = I (dn d l) ∧ Out M M' v (v + 5) := by
    intro M1 Q a1 a2 a3
    subst a3
    obtain ⟨b1, b2, b3, b4⟩ := a1
    rw [if_pos (show inb (I ((v : Int) + 4)) 125 by rw [I_inb] <;> omega)]
    refine ⟨_, rfl, ⟨?_, ?_, ?_, ?_⟩, ?_, fun a b ha hb => ?_, ?_, fun b hb => ?_⟩
    · rw [seI_1, if_neg (by omega)]; exact b1
    · rw [seI_1, if_neg (by omega)]; exact b2
    · rw [seI_1, if_neg (by omega)]; exact b3
    · rw [seI_1, if_neg (by omega)]; exact b4
    · rw [seI_1, if_pos ⟨rfl, rfl⟩]
    · rw [seI_1, if_neg (by omega)]; exact a2.1 a b ha hb
    · exact a2.2.1
    · rw [seI_1, if_neg (by omega)]; exact a2.2.2 b (by omega)
  rw [l_X7_lays_16, if_pos (by decide)]
  simp only [ck, nm]
  rw [I_4, I_add, if_pos (show inb (I ((v : Int) + 4)) 125 by rw [I_inb] <;> omega), I_ix (by omega) (by omega), show ((v : Int) + 4).toNat = v + 4 by omega, h4, kindOf_s hl]
  simp only [bd2]
  rw [show (7 : Int32) + I (kd l) = I ((7 : Int) + kd l) from I_add 7 _, if_pos (show inb (I ((7 : Int) + kd l)) 56 by rw [I_inb] <;> omega), I_ix (by omega) (by omega), show ((7 : Int) + kd l).toNat = 7 + kd l by omega, hM, turnOf_s hl]
  simp only []
  rw [turn_and d hd l hl, show I d + 2 = I ((d : Int) + 2) from I_add _ 2, show I d - 2 = I ((d : Int) - 2) from I_sub _ 2, show (2 : Int32) * I z = I (2 * z) from I_mul 2 z, I_neg z]
  rcases tn_b l hl with e | e | e | e | e
  · rw [e]
    rw [if_pos (show (0 : Int32) ≤ I 0 by decide), if_pos (show I 0 = (0 : Int32) from rfl)]
    obtain ⟨M1, q1, q2, q3⟩ := adds_s (N := N) (m := z) (v := 0) (d := d) (by omega) (by omega) (by omega) (by omega) (by omega) hP
    rw [I_0, q1]
    simp only [bd]
    exact fin M1 _ q2 q3 (by rw [c1 e, ad_z, Int.mul_one, Int.mul_zero])
  · rw [e]
    rw [if_pos (show (0 : Int32) ≤ I 1 by decide), if_neg (show ¬ I 1 = (0 : Int32) by decide), if_pos (show I 1 = (1 : Int32) from rfl)]
    obtain ⟨M1, q1, q2, q3⟩ := adds_s (N := N) (m := 0) (v := z) (d := d) (by omega) (by omega) (by omega) (by omega) (by omega) hP
    obtain ⟨M2, r1, r2, r3⟩ := adds_s (N := N) (m := z) (v := -z) (d := d + 2) (by omega) (by omega) (by omega) (by omega) (by omega) q2
    rw [show (0 : Int32) = I (2 * 0) from rfl, q1]
    simp only [bd]
    rw [r1]
    exact fin M2 _ (by rw [← padd_as]; exact r2) (q3.tr r3 (by omega) (by omega) (by omega) (by omega)) (by rw [c2 e, psc_padd, ad_z, ad_z, Int.mul_one, Int.mul_zero, Int.mul_neg, Int.mul_one])
  · rw [e]
    rw [if_neg (show ¬ (0 : Int32) ≤ I (-1) by decide), if_neg (show ¬ I (-1) = (0 : Int32) by decide), if_neg (show ¬ I (-1) = (1 : Int32) by decide), if_pos (show I (-1) = (-1 : Int32) from rfl)]
    obtain ⟨M1, q1, q2, q3⟩ := adds_s (N := N) (m := 0) (v := z) (d := d) (by omega) (by omega) (by omega) (by omega) (by omega) hP
    obtain ⟨M2, r1, r2, r3⟩ := adds_s (N := N) (m := z) (v := -z) (d := d - 2) (by omega) (by omega) (by omega) (by omega) (by omega) q2
    rw [show (0 : Int32) = I (2 * 0) from rfl, q1]
    simp only [bd]
    rw [r1]
    exact fin M2 _ (by rw [← padd_as]; exact r2) (q3.tr r3 (by omega) (by omega) (by omega) (by omega)) (by rw [c3 e, psc_padd, ad_z, ad_z, Int.mul_one, Int.mul_zero, Int.mul_neg, Int.mul_one])
  · rw [e]
    rw [if_pos (show (0 : Int32) ≤ I 2 by decide), if_neg (show ¬ I 2 = (0 : Int32) by decide), if_neg (show ¬ I 2 = (1 : Int32) by decide), if_neg (show ¬ I 2 = (-1 : Int32) by decide)]
    obtain ⟨M1, q1, q2, q3⟩ := adds_s (N := N) (m := z) (v := 0) (d := d) (by omega) (by omega) (by omega) (by omega) (by omega) hP
    obtain ⟨M2, r1, r2, r3⟩ := adds_s (N := N) (m := z) (v := 0) (d := d + 2) (by omega) (by omega) (by omega) (by omega) (by omega) q2
    rw [I_0, q1]
    simp only [bd]
    rw [r1]
    exact fin M2 _ (by rw [← padd_as]; exact r2) (q3.tr r3 (by omega) (by omega) (by omega) (by omega)) (by rw [c4 e, psc_padd, ad_z, ad_z, Int.mul_one, Int.mul_zero])
  · rw [e]
    rw [if_neg (show ¬ (0 : Int32) ≤ I (-2) by decide), if_neg (show ¬ I (-2) = (0 : Int32) by decide), if_neg (show ¬ I (-2) = (1 : Int32) by decide), if_neg (show ¬ I (-2) = (-1 : Int32) by decide)]
    obtain ⟨M1, q1, q2, q3⟩ := adds_s (N := N) (m := z) (v := 0) (d := d) (by omega) (by omega) (by omega) (by omega) (by omega) hP
    obtain ⟨M2, r1, r2, r3⟩ := adds_s (N := N) (m := z) (v := 0) (d := d - 2) (by omega) (by omega) (by omega) (by omega) (by omega) q2
    rw [I_0, q1]
    simp only [bd]
    rw [r1]
    exact fin M2 _ (by rw [← padd_as]; exact r2) (q3.tr r3 (by omega) (by omega) (by omega) (by omega)) (by rw [c5 e, psc_padd, ad_z, ad_z, Int.mul_one, Int.mul_zero])
theorem lays_s {N p l d : Nat} {M : Mem} {z : Int} {P : Pl} (hp : p < 24) (hl : l < 10) (hd : d < 8) (hz : 0 ≤ z) (hz2 : z ≤ 20) (h40 : M.1 40 p = I l) (hM : M.1 36 (7 + kd l) = I z) (hP : At M (5 * p) P) (h4 : M.1 39 (5 * p + 4) = I d) (hN : 2000 < N) :
    ∃ M', f_X7_lays N M (I p) = some M' ∧ At M' (5 * (p + 1)) (padd P (psc z (cof l d))) ∧ M'.1 39 (5 * (p + 1) + 4) = I (dn d l) ∧ Out M M' (5 * (p + 1)) (5 * (p + 1) + 5) := by
  obtain ⟨n, rfl⟩ : ∃ n, N = n + 1 + 1 + 1 + 1 + 1 + 1 := ⟨N - 6, by omega⟩
  generalize hv : 5 * (p + 1) = v
  generalize hN' : n + 1 + 1 + 1 + 1 + 1 + 1 = N
  have e : ∃ M1, l_X7_lays_16 N N M (I l) (I v) 0 = l_X7_lays_16 N (n + 1) M1 (I l) (I v) (I (5 : Nat)) ∧ At M1 v P ∧ M1.1 39 (v + 4) = I d ∧ Out M M1 v (v + 5) := by
    obtain ⟨p1, p2, p3, p4⟩ := hP
    refine ⟨seI (seI (seI (seI (seI M 39 (v + 0) (I P.1)) 39 (v + 1) (I P.2.1)) 39 (v + 2) (I P.2.2.1)) 39 (v + 3) (I P.2.2.2)) 39 (v + 4) (I d), ?_, ⟨?_, ?_, ?_, ?_⟩, ?_, fun a b ha hb => ?_, rfl, fun b hb => ?_⟩
    · have go : ∀ q, n + 1 + 1 + 1 + 1 + 1 + 1 = q → l_X7_lays_16 N q M (I l) (I v) 0 = l_X7_lays_16 N (n + 1) (seI (seI (seI (seI (seI M 39 (v + 0) (I P.1)) 39 (v + 1) (I P.2.1)) 39 (v + 2) (I P.2.2.1)) 39 (v + 3) (I P.2.2.2)) 39 (v + 4) (I d)) (I l) (I v) (I (5 : Nat)) := by
        rintro q rfl
        rw [show (0 : Int32) = I (0 : Nat) from rfl, lay_go (by omega) (by omega) (by omega), lay_go (by omega) (by omega) (by omega), lay_go (by omega) (by omega) (by omega), lay_go (by omega) (by omega) (by omega), lay_go (by omega) (by omega) (by omega)]
        simp only [seI_1]
        repeat rw [if_neg (by omega)]
        rw [show v - 5 + 0 = 5 * p by omega, show v - 5 + 1 = 5 * p + 1 by omega, show v - 5 + 2 = 5 * p + 2 by omega, show v - 5 + 3 = 5 * p + 3 by omega, show v - 5 + 4 = 5 * p + 4 by omega, p1, p2, p3, p4, h4]
      exact go N hN'
    · simp [seI_1]
    · simp [seI_1]
    · simp [seI_1]
    · simp [seI_1]
    · simp [seI_1]
    · simp only [seI_1]
      repeat rw [if_neg (by omega)]
    · simp only [seI_1]
      repeat rw [if_neg (by omega)]
  obtain ⟨M1, e1, e2, e3, e4⟩ := e
  obtain ⟨M2, g1, g2, g3, g4⟩ := lay_end (N := N) (n := n) (by omega) hl hd hz hz2 ((e4.1 36 _ (by decide) (by omega)).trans hM) e2 e3
  refine ⟨M2, ?_, g2, g3, e4.tr g4 (by omega) (by omega) (by omega) (by omega)⟩
  unfold f_X7_lays
  simp only [ck, nm]
  rw [if_pos (show inb (I p) 24 by rw [I_inb] <;> omega), I_ix (by omega) (by omega), Int.toNat_natCast, h40, I_5, I_1, I_add, I_mul, show (5 : Int) * ((p : Int) + 1) = (v : Nat) by omega, e1, g1]
