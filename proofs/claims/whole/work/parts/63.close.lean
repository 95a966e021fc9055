/-! Part 63: when a row closes, by its head and its tail -/
def stS (sz : Nat → Int) (s : Pl × Nat) (l : Nat) : Pl × Nat := (padd s.1 (stp sz l s.2), dn s.2 l)
def bkS (sz : Nat → Int) (s : Pl × Nat) (l : Nat) : Pl × Nat := (padd s.1 (pneg (stp sz (mr l) s.2)), dn s.2 (mr l))
theorem back_f : ∀ l, l < 10 → ∀ d, d < 8 → cof (mr l) (dn d l) = cof l d ∧ dn (dn d l) (mr l) = d ∧ kd (mr l) = kd l ∧ mr (mr l) = l := by decide +kernel
theorem padd_neg (p q : Pl) : padd (padd p q) (pneg q) = p := by
  unfold padd pneg
  refine Prod.ext ?_ (Prod.ext ?_ (Prod.ext ?_ ?_)) <;> dsimp only <;> omega
theorem padd_neg2 (p q : Pl) : padd (padd p (pneg q)) q = p := by
  unfold padd pneg
  refine Prod.ext ?_ (Prod.ext ?_ (Prod.ext ?_ ?_)) <;> dsimp only <;> omega
theorem bk_st {sz : Nat → Int} {s : Pl × Nat} {l : Nat} (hl : l < 10) (hd : s.2 < 8) : bkS sz (stS sz s l) l = s := by
  obtain ⟨e1, e2, e3, -⟩ := back_f l hl s.2 hd
  unfold bkS stS stp
  dsimp only
  rw [e1, e2, e3, padd_neg]
theorem st_bk {sz : Nat → Int} {s : Pl × Nat} {l : Nat} (hl : l < 10) (hd : s.2 < 8) : stS sz (bkS sz s l) l = s := by
  obtain ⟨-, -, e3, e4⟩ := back_f l hl s.2 hd
  obtain ⟨e1, e2, -, -⟩ := back_f (mr l) (mr_lt l hl) s.2 hd
  rw [e4] at e1 e2
  unfold bkS stS stp
  dsimp only
  rw [e1, e2, e3, padd_neg2]
theorem PB.add {p q : Pl} {a b : Int} (h : PB p a) (h' : PB q b) : PB (padd p q) (a + b) := by
  unfold PB at *
  unfold padd
  dsimp only
  omega
theorem pneg_padd (p q : Pl) : pneg (padd p q) = padd (pneg p) (pneg q) := by
  unfold padd pneg
  refine Prod.ext ?_ (Prod.ext ?_ (Prod.ext ?_ ?_)) <;> dsimp only <;> omega
theorem pkp_neg (p : Pl) : pkp (pneg p) = -pkp p := by
  unfold pkp pneg
  dsimp only
  rw [pk_neg]
theorem PB.neg {p : Pl} {b : Int} (h : PB p b) : PB (pneg p) b := by
  unfold PB at *
  unfold pneg
  dsimp only
  omega
theorem pkp_b {p : Pl} (h : PB p 200) : -100000000000000000 ≤ pkp p ∧ pkp p ≤ 100000000000000000 := by
  unfold PB at h
  unfold pkp pk
  omega
theorem wk3 {sz : Nat → Int} {x y z : Nat} : wk sz w0 [x, y, z] = stS sz (stS sz (stS sz w0 x) y) z := rfl
theorem bk3 {sz : Nat → Int} {a b c : Nat} : bkS sz (bkS sz (bkS sz w0 c) b) a = (pneg (wk sz w0 [mr c, mr b, mr a]).1, (wk sz w0 [mr c, mr b, mr a]).2) := by
  rw [wk3]
  unfold bkS stS w0
  dsimp only
  refine Prod.ext ?_ rfl
  dsimp only
  rw [pneg_padd, pneg_padd, pneg_padd]
  rfl
theorem dg3 {w : Nat → Nat} {q t : Nat} (ht : t < 1000) : dg w q 3 t = updw (updw (updw w q (t / 100)) (q + 1) (t / 10 % 10)) (q + 2) (t % 10) := by
  show updw (updw (updw w (q + 0) (t / 10 / 10 % 10)) (q + 1) (t / 10 % 10)) (q + 2) (t % 10) = _
  rw [show t / 10 / 10 % 10 = t / 100 by omega]
  rfl
theorem wf_dg3 {sz : Nat → Int} {w : Nat → Nat} {q t : Nat} (ht : t < 1000) : wf sz (dg w q 3 t) (q + 3) = stS sz (stS sz (stS sz (wf sz w q) (t / 100)) (t / 10 % 10)) (t % 10) := by
  rw [dg3 ht, show q + 3 = q + 2 + 1 by omega, wf_upd, show q + 2 = q + 1 + 1 by omega, wf_upd, wf_upd]
  rfl
theorem close_iff {sz : Nat → Int} (hz : ∀ k, k < 7 → 0 ≤ sz k ∧ sz k ≤ 20) {w : Nat → Nat} {q t : Nat} (hq : q ≤ 3) (hw : ∀ j, j < q → w j < 10) (ht : t < 1000) :
    Clo (q + 3) (wf sz (dg w q 3 t) (q + 3)) ↔ fend sz t = J (pkp (wf sz w q).1 * 8 + (wf sz w q).2) := by
  have ha : t / 100 < 10 := by omega
  have hb : t / 10 % 10 < 10 := by omega
  have hc : t % 10 < 10 := by omega
  have h8 := wf_d sz w q
  have hB := (wf_b hz q hw).le (b := 200) (by omega)
  rw [wf_dg3 ht]
  have hf : fend sz t = J (-(pkp (wk sz w0 [mr (t % 10), mr (t / 10 % 10), mr (t / 100)]).1) * 8 + (wk sz w0 [mr (t % 10), mr (t / 10 % 10), mr (t / 100)]).2) := rfl
  have e := bk3 (sz := sz) (a := t / 100) (b := t / 10 % 10) (c := t % 10)
  have b1 := stp_b hz (mr_lt _ hc) (d := 0) (by decide)
  have b2 := stp_b hz (mr_lt _ hb) (d := dn 0 (mr (t % 10))) (dn_lt _ _)
  have b3 := stp_b hz (mr_lt _ ha) (d := dn (dn 0 (mr (t % 10))) (mr (t / 10 % 10))) (dn_lt _ _)
  have hBE : PB (wk sz w0 [mr (t % 10), mr (t / 10 % 10), mr (t / 100)]).1 200 := by
    have h0 : PB w0.1 0 := by unfold PB; decide
    exact (((h0.add b1).add b2).add b3).le (by decide)
  have h8E : (wk sz w0 [mr (t % 10), mr (t / 10 % 10), mr (t / 100)]).2 < 8 := dn_lt _ _
  rw [hf]
  generalize wk sz w0 [mr (t % 10), mr (t / 10 % 10), mr (t / 100)] = E at *
  generalize wf sz w q = s at *
  have d0 : w0.2 < 8 := by decide
  have k1 : (stS sz (stS sz (stS sz s (t / 100)) (t / 10 % 10)) (t % 10) = w0) ↔ s = (pneg E.1, E.2) := by
    rw [← e]
    constructor
    · intro h
      rw [← h, bk_st hc (dn_lt _ _), bk_st hb (dn_lt _ _), bk_st ha h8]
    · intro h
      rw [h, st_bk ha (dn_lt _ _), st_bk hb (dn_lt _ _), st_bk hc d0]
  have k2 : Clo (q + 3) (stS sz (stS sz (stS sz s (t / 100)) (t / 10 % 10)) (t % 10)) ↔ stS sz (stS sz (stS sz s (t / 100)) (t / 10 % 10)) (t % 10) = w0 := by
    generalize stS sz (stS sz (stS sz s (t / 100)) (t / 10 % 10)) (t % 10) = u
    constructor
    · intro h
      exact Prod.ext h.2.1 h.2.2
    · intro h
      rw [h]
      exact ⟨by omega, rfl, rfl⟩
  rw [k2, k1]
  have p1 := pkp_b hB
  have p2 := pkp_b hBE
  rw [J_eq (by omega) (by omega) (by omega) (by omega)]
  constructor
  · intro h
    rw [h]
    dsimp only
    rw [pkp_neg]
  · intro h
    have e1 : s.2 = E.2 := by omega
    have e2 : pkp s.1 = pkp (pneg E.1) := by rw [pkp_neg]; omega
    have e3 : s.1 = pneg E.1 := by
      have := plE (hB.le (b := 960) (by decide)) (hBE.neg.le (b := 960) (by decide))
      rw [← this, e2]
    exact Prod.ext e3 e1
theorem one_f : ∀ l, l < 10 → 0 ≤ (cof l 0).1 ∧ 0 ≤ (cof l 0).2.1 ∧ 0 < (cof l 0).1 + (cof l 0).2.1 := by decide +kernel
theorem two_f : ∀ l, l < 10 → ∀ l', l' < 10 → dn (dn 0 l) l' = 0 → 0 ≤ (cof l' (dn 0 l)).1 ∧ 0 ≤ (cof l' (dn 0 l)).2.1 := by decide +kernel
theorem noclo {sz : Nat → Int} (hz : ∀ k, k < 7 → 1 ≤ sz k) {w : Nat → Nat} {n : Nat} (hn : n ≤ 2) (hw : ∀ j, j < n → w j < 10) : ¬ Clo n (wf sz w n) := by
  rintro ⟨h0, h1, h2⟩
  have hl := hw 0 h0
  have z1 := hz _ (kd_lt _ hl)
  obtain ⟨f1, f2, f3⟩ := one_f _ hl
  have g1 : 0 ≤ sz (kd (w 0)) * (cof (w 0) 0).1 := Int.mul_nonneg (by omega) f1
  have g2 : 0 ≤ sz (kd (w 0)) * (cof (w 0) 0).2.1 := Int.mul_nonneg (by omega) f2
  have g3 : 0 < sz (kd (w 0)) * ((cof (w 0) 0).1 + (cof (w 0) 0).2.1) := Int.mul_pos (by omega) f3
  rw [Int.mul_add] at g3
  rcases (show n = 1 ∨ n = 2 by omega) with rfl | rfl
  · have a1 : (0 : Int) + sz (kd (w 0)) * (cof (w 0) 0).1 = 0 := congrArg (fun p : Pl => p.1) h1
    have a2 : (0 : Int) + sz (kd (w 0)) * (cof (w 0) 0).2.1 = 0 := congrArg (fun p : Pl => p.2.1) h1
    omega
  · have hl' := hw 1 (by decide)
    have z2 := hz _ (kd_lt _ hl')
    obtain ⟨u1, u2⟩ := two_f _ hl _ hl' h2
    have g4 : 0 ≤ sz (kd (w 1)) * (cof (w 1) (dn 0 (w 0))).1 := Int.mul_nonneg (by omega) u1
    have g5 : 0 ≤ sz (kd (w 1)) * (cof (w 1) (dn 0 (w 0))).2.1 := Int.mul_nonneg (by omega) u2
    have a1 : (0 : Int) + sz (kd (w 0)) * (cof (w 0) 0).1 + sz (kd (w 1)) * (cof (w 1) (dn 0 (w 0))).1 = 0 := congrArg (fun p : Pl => p.1) h1
    have a2 : (0 : Int) + sz (kd (w 0)) * (cof (w 0) 0).2.1 + sz (kd (w 1)) * (cof (w 1) (dn 0 (w 0))).2.1 = 0 := congrArg (fun p : Pl => p.2.1) h1
    omega
