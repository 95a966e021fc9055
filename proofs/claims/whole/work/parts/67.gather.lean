/-! Part 67: the class's search: letters of a number, the end of a head, the table of tails -/
theorem idiv10 {a : Nat} (ha : a < 1000) : I a / 10 = I (a / 10 : Nat) := by
  have h3 : (I a / I 10).toInt = ((a / 10 : Nat) : Int) := by
    rw [Int32.toInt_div_of_ne_right _ _ (by decide), I_to (by omega) (by omega), I_to (by omega) (by omega)]
    exact (Int.ofNat_tdiv a 10).symm
  rw [I_10, ← Int32.toInt_inj, h3, I_to (by omega) (by omega)]
theorem imod10 {a : Nat} (ha : a < 1000) : I a - I a / 10 * 10 = I (a % 10 : Nat) := imod (n := 10) ha (by decide) (by decide)
theorem layAt_l {N i : Nat} : ∀ (q c n' : Nat) (M : Mem), i + q ≤ 6 → c < 1000 → q < n' → ∃ M', l_X3_layAt_10 N n' M (I i) (I c) (I ((i : Int) + q - 1)) = some M' ∧ (∀ w j, i ≤ j → j < i + q → M'.1 25 j = I (dg w i q c j)) ∧ (∀ b, (b < i ∨ i + q ≤ b) → M'.1 25 b = M.1 25 b) ∧ (∀ a b, a ≠ 25 → M'.1 a b = M.1 a b) ∧ M'.2 = M.2 := by
  intro q
  induction q with
  | zero =>
    intro c n' M h1 h2 h3
    obtain ⟨n', rfl⟩ : ∃ q, n' = q + 1 := ⟨n' - 1, by omega⟩
    exact ⟨M, by rw [l_X3_layAt_10, if_pos (by rw [I_lt] <;> omega)], fun w j h4 h5 => by omega, fun _ _ => rfl, fun _ _ _ => rfl, rfl⟩
  | succ q ih =>
    intro c n' M h1 h2 h3
    obtain ⟨n', rfl⟩ : ∃ q, n' = q + 1 := ⟨n' - 1, by omega⟩
    obtain ⟨M', g1, g2, g3, g4, g5⟩ := ih (c / 10) n' (seI M 25 (i + q) (I (c % 10 : Nat))) (by omega) (by omega) (by omega)
    refine ⟨M', ?_, fun w j h4 h5 => ?_, fun b hb => ?_, fun a b ha => by rw [g4 a b ha, seI_ne ha], g5⟩
    · rw [l_X3_layAt_10, if_neg (by rw [I_lt] <;> omega), imod10 h2, idiv10 h2, put_in (n := 6) rfl (by decide) (by decide) (by omega) (by omega)]
      simp only [bd, nm]
      rw [show ((i : Int) + (q + 1 : Nat) - 1).toNat = i + q by omega, show (-1 : Int32) = I (-1) from rfl, I_add, show (i : Int) + (q + 1 : Nat) - 1 + -1 = (i : Int) + q - 1 by omega]
      exact g1
    · show M'.1 25 j = I (updw (dg w i q (c / 10)) (i + q) (c % 10) j)
      by_cases e : j = i + q
      · rw [e, g3 _ (by omega), seI_1, if_pos ⟨rfl, rfl⟩, updw_eq]
      · rw [updw_lt (by omega)]
        exact g2 w j h4 (by omega)
    · rw [g3 b (by omega), seI_1, if_neg (by omega)]
theorem layAt_s {N i q c : Nat} {M : Mem} (h1 : i + q ≤ 6) (h2 : c < 1000) (hN : 2000 < N) : ∃ M', f_X3_layAt N M (I i) (I q) (I c) = some M' ∧ (∀ w j, i ≤ j → j < i + q → M'.1 25 j = I (dg w i q c j)) ∧ (∀ b, (b < i ∨ i + q ≤ b) → M'.1 25 b = M.1 25 b) ∧ (∀ a b, a ≠ 25 → M'.1 a b = M.1 a b) ∧ M'.2 = M.2 := by
  obtain ⟨M', g1, g2⟩ := layAt_l (N := N) q c N M h1 h2 (by omega)
  refine ⟨M', ?_, g2⟩
  unfold f_X3_layAt
  simp only [nm]
  rw [I_add, I_1, I_sub]
  exact g1
theorem endOf_s {N q : Nat} {M : Mem} {w : Nat → Nat} {u : Int} (hS : Sta M) (hP : Sps M) (hu : u = 1 ∨ u = -1) (hq : q ≤ 6) (hw : Rw M 25 q w) (hN : 2000 < N) : f_X3_endOf N M (I q) (I u) = some (J (u * pkp (wf (szf M) w q).1 * 8 + (wf (szf M) w q).2), M) := by
  have key : ∀ (r j n' : Nat), j + r = q → r < n' → l_X3_endOf_8 N n' M (I q) (I u) (J (pkp (wf (szf M) w j).1)) (I (wf (szf M) w j).2) (I j) = some (J (u * pkp (wf (szf M) w q).1 * 8 + (wf (szf M) w q).2), M) := by
    intro r
    induction r with
    | zero =>
      intro j n' h1 h2
      obtain ⟨n', rfl⟩ : ∃ q, n' = q + 1 := ⟨n' - 1, by omega⟩
      obtain rfl : j = q := by omega
      have hd := wf_d (szf M) w j
      rw [l_X3_endOf_8, if_pos (by rw [I_le] <;> omega), IJ (by omega) (by omega), IJ (by omega) (by omega), J_mul, show (8 : Int64) = J 8 from rfl, J_mul, J_add]
    | succ r ih =>
      intro j n' h1 h2
      obtain ⟨n', rfl⟩ : ∃ q, n' = q + 1 := ⟨n' - 1, by omega⟩
      obtain ⟨e1, e2⟩ := hw j (by omega)
      have hd := wf_d (szf M) w j
      have at1 : f_X6_at shp N M 25 (I j) = some (I (w j), M) := by rw [at_in (n := 6) rfl (by decide) (by omega) (by omega), Int.toNat_natCast, e1]
      have st : f_X1_step N M (I (wf (szf M) w j).2) (I (w j)) = some (J (pkp (stp (szf M) (w j) (wf (szf M) w j).2)), M) := by
        unfold f_X1_step
        rw [I_10, I_mul, I_add, pat_in (n := 80) rfl (by decide) (by omega) (by omega), show (((wf (szf M) w j).2 : Int) * 10 + (w j : Nat)).toNat = 10 * (wf (szf M) w j).2 + w j by omega, hP _ _ hd e2]
        rfl
      have tu : f_X1_turned N M (I (wf (szf M) w j).2) (I (w j)) = some (I (dn (wf (szf M) w j).2 (w j)), M) := by
        unfold f_X1_turned
        rw [at_in (n := 10) rfl (by decide) (by omega) (by omega), Int.toNat_natCast, sta_tn hS e2]
        simp only [bd2]
        rw [turn_and _ hd _ e2]
      rw [l_X3_endOf_8, if_neg (by rw [I_le] <;> omega)]
      simp only [bd2, at1, st, tu]
      rw [J_pl, I_1, I_add]
      exact ih (j + 1) n' (by omega) (by omega)
  exact key q 0 N (by omega) (by omega)
theorem slot_s {N : Nat} {M : Mem} {x : Int64} : f_X3_slotOf N M x = some (slotv x, M) := rfl
theorem slot_b (x : Int64) : ∃ j : Nat, j < 1024 ∧ slotv x = I j := by
  unfold slotv
  generalize Int64.toInt32 (ushr64 (x * 2654435761) 40) = a
  have h : (a &&& 1023).toInt = a.toInt % 1024 := by
    have h : (a &&& 1023).toBitVec.toNat = a.toBitVec.toNat % 1024 := by
      rw [Int32.toBitVec_and, BitVec.toNat_and]
      exact Nat.and_two_pow_sub_one_eq_mod _ 10
    show (a &&& 1023).toBitVec.toInt = a.toBitVec.toInt % 1024
    rw [BitVec.toInt_eq_toNat_bmod, BitVec.toInt_eq_toNat_bmod, h, Int.bmod_def, Int.bmod_def]
    have := a.toBitVec.isLt
    split <;> split <;> omega
  refine ⟨(a.toInt % 1024).toNat, by omega, ?_⟩
  rw [← I_of (a &&& 1023), h]
  congr 1
  omega
theorem nxt_end (p : Nat → Bool) : nxt p 1000 = -1 := rfl
theorem nxt_y {p : Nat → Bool} {fr : Nat} (h : fr < 1000) (hp : p fr = true) : nxt p fr = fr := by
  unfold nxt
  rw [show 1000 - fr = (1000 - (fr + 1)) + 1 by omega, List.range'_succ, List.find?_cons, hp]
theorem nxt_n {p : Nat → Bool} {fr : Nat} (h : fr < 1000) (hp : p fr = false) : nxt p fr = nxt p (fr + 1) := by
  unfold nxt
  rw [show 1000 - fr = (1000 - (fr + 1)) + 1 by omega, List.range'_succ, List.find?_cons, hp]
/-- either none, or the least one -/
theorem nxt_ex (p : Nat → Bool) : ∀ (r fr : Nat), fr + r = 1000 → (nxt p fr = -1 ∧ ∀ u, fr ≤ u → u < 1000 → p u = false) ∨ ∃ t : Nat, nxt p fr = t ∧ fr ≤ t ∧ t < 1000 ∧ p t = true ∧ ∀ u, fr ≤ u → u < t → p u = false
  | 0, fr, h => by
    obtain rfl : fr = 1000 := by omega
    exact Or.inl ⟨rfl, fun u h1 h2 => by omega⟩
  | r + 1, fr, h => by
    cases hp : p fr with
    | true => exact Or.inr ⟨fr, nxt_y (by omega) hp, Nat.le_refl _, by omega, hp, fun u h1 h2 => by omega⟩
    | false =>
      rw [nxt_n (by omega) hp]
      rcases nxt_ex p r (fr + 1) (by omega) with ⟨h1, h2⟩ | ⟨t, h1, h2, h3, h4, h5⟩
      · refine Or.inl ⟨h1, fun u h3 h4 => ?_⟩
        by_cases e : u = fr
        · rw [e]; exact hp
        · exact h2 u (by omega) h4
      · refine Or.inr ⟨t, h1, by omega, h3, h4, fun u h6 h7 => ?_⟩
        by_cases e : u = fr
        · rw [e]; exact hp
        · exact h5 u (by omega) h7
theorem nxt_b (p : Nat → Bool) {fr : Nat} (h : fr ≤ 1000) : -1 ≤ nxt p fr ∧ nxt p fr < 1000 := by
  rcases nxt_ex p (1000 - fr) fr (by omega) with ⟨h1, -⟩ | ⟨t, h1, -, h3, -⟩ <;> omega
theorem fill_s {N a0 n1 : Nat} {M : Mem} {v : Int32} (h0 : iaL shp a0 = some n1) (ha : a0 < 45) (hn : n1 ≤ 2000) (hN : 2000 < N) : f_J7_fill_53178 shp N M a0 v = some (wrI M a0 (fun i => if i < n1 then v else M.1 a0 i)) := by
  unfold f_J7_fill_53178
  rw [h0]
  simp only [bd]
  rw [fillL a0 n1 (fun _ => v) M (fun n M u => l_J7_fill_53178_5 shp N a0 n1 n M v u (Int32.ofNat n1)) some]
  · intro n M'
    rw [l_J7_fill_53178_5, I_nat, if_pos (by rw [I_le] <;> omega)]
  · intro n M' j hj hM _
    rw [l_J7_fill_53178_5, I_nat, if_neg (by rw [I_le] <;> omega)]
    simp only [ck, nm]
    rw [if_pos (show inb (I j) n1 by rw [I_inb] <;> omega), if_pos ha, I_ix (by omega) (by omega), I_1, I_add]
    rfl
  · omega
def wt (t j : Nat) : Nat := [mr (t % 10), mr (t / 10 % 10), mr (t / 100)].getD j 0
theorem wt_wk {sz : Nat → Int} {t : Nat} : wf sz (wt t) 3 = wk sz w0 (tlb t) := rfl
theorem wt_lt {t : Nat} (ht : t < 1000) : ∀ j, j < 3 → wt t j < 10 := by
  intro j hj
  rcases (show j = 0 ∨ j = 1 ∨ j = 2 by omega) with rfl | rfl | rfl
  · exact mr_lt _ (by omega)
  · exact mr_lt _ (by omega)
  · exact mr_lt _ (by omega)
/-- the letters of a tail, told backwards -/
theorem tail_l {N t : Nat} {M : Mem} {K : Mem → Int32 → Option Mem} (hS : Sta M) (ht : t < 1000) (hN : 2000 < N) : ∃ M', l_X3_gather_28 N K N M (I t) (I t) 0 = (bd2 (f_X3_endOf N M' (3 : Int32) (-1 : Int32)) fun r8 M7 =>
      bd2 (f_X3_slotOf N M7 r8) fun r11 M10 =>
      bd (f_X6_putPlace shp N M10 22 (I t) r8) fun M13 =>
      bd2 (f_X6_at shp N M13 24 r11) fun r16 M15 =>
      bd (f_X6_put shp N M15 23 (I t) r16) fun M18 =>
      bd (f_X6_put shp N M18 24 r11 (I t)) fun M20 =>
      K M20 (I t + (-1))) ∧ Rw M' 25 3 (wt t) ∧ (∀ a b, a ≠ 25 → M'.1 a b = M.1 a b) ∧ M'.2 = M.2 := by
  have step : ∀ (n' c i : Nat) (M1 : Mem), c < 1000 → i < 3 → Sta M1 → l_X3_gather_28 N K (n' + 1) M1 (I t) (I c) (I i) = l_X3_gather_28 N K n' (seI M1 25 i (I (mr (c % 10)))) (I t) (I (c / 10 : Nat)) (I (i + 1 : Nat)) := by
    intro n' c i M1 hc hi hS1
    rw [l_X3_gather_28, if_neg (by rw [I_3, I_le] <;> omega), imod10 hc, idiv10 hc, at_in (n := 10) rfl (by decide) (by omega) (by omega)]
    simp only [bd2, nm, Int.toNat_natCast]
    rw [sta_mr hS1 (show c % 10 < 10 by omega), put_in (n := 6) rfl (by decide) (by decide) (by omega) (by omega)]
    simp only [bd, Int.toNat_natCast]
    rw [I_1, I_add]
    rfl
  obtain ⟨n', rfl⟩ : ∃ q, N = q + 1 + 1 + 1 + 1 := ⟨N - 4, by omega⟩
  refine ⟨seI (seI (seI M 25 0 (I (mr (t % 10)))) 25 1 (I (mr (t / 10 % 10)))) 25 2 (I (mr (t / 10 / 10 % 10))), ?_, fun j hj => ⟨?_, wt_lt ht j hj⟩, fun a b ha => by rw [seI_ne ha, seI_ne ha, seI_ne ha], rfl⟩
  · generalize hNN : n' + 1 + 1 + 1 + 1 = NN at *
    rw [show l_X3_gather_28 NN K NN M (I t) (I t) 0 = l_X3_gather_28 NN K (n' + 1 + 1 + 1 + 1) M (I t) (I t) (I (0 : Nat)) by rw [hNN]; rfl]
    rw [step _ _ 0 _ ht (by decide) hS, step _ _ (0 + 1) _ (by omega) (by decide) (hS.kp (KpR.rf.I rfl)), step _ _ (0 + 1 + 1) _ (by omega) (by decide) (hS.kp ((KpR.rf.I rfl).I rfl)), l_X3_gather_28, if_pos (by decide)]
  · rcases (show j = 0 ∨ j = 1 ∨ j = 2 by omega) with rfl | rfl | rfl
    · simp [seI_1, wt]
    · simp [seI_1, wt]
    · rw [seI_1, if_pos ⟨rfl, rfl⟩, show t / 10 / 10 % 10 = t / 100 by omega]
      rfl
def rGa (k j : Nat) : Bool := !(k == 22 || k == 23 || k == 24 || k == 25 || (k == 21 && j == 6))
def GaI (sz : Nat → Int) (k : Nat) (M : Mem) : Prop := (∀ u, k ≤ u → u < 1000 → M.2 22 u = fend sz u ∧ M.1 23 u = I (nxt (fun x => slotv (fend sz x) = slotv (fend sz u)) (u + 1))) ∧ ∀ j, j < 1024 → M.1 24 j = I (nxt (fun x => slotv (fend sz x) = I j) k)
theorem gather_l {N : Nat} {sz : Nat → Int} {M0 : Mem} (hN : 2000 < N) (hS : Sta M0) (hP : Sps M0) (hsz : szf M0 = sz) : ∀ (k n' : Nat) (M : Mem), k ≤ 1000 → k < n' → KpR rGa M0 M → GaI sz k M → ∃ M', l_X3_gather_20 N n' M (I ((k : Int) - 1)) = some M' ∧ KpR rGa M0 M' ∧ GaI sz 0 M' ∧ M'.1 21 6 = 1 := by
  intro k
  induction k with
  | zero =>
    intro n' M h1 h2 h3 h4
    obtain ⟨n', rfl⟩ : ∃ q, n' = q + 1 := ⟨n' - 1, by omega⟩
    refine ⟨seI M 21 6 1, ?_, h3.I rfl, ⟨fun u hu hu2 => ?_, fun j hj => ?_⟩, by simp [seI_1]⟩
    · rw [l_X3_gather_20, if_pos (by rw [I_0, I_lt] <;> omega)]
      rfl
    · rw [seI_2, seI_ne (by decide)]; exact h4.1 u hu hu2
    · rw [seI_ne (by decide)]; exact h4.2 j hj
  | succ k ih =>
    intro n' M h1 h2 h3 h4
    obtain ⟨n', rfl⟩ : ∃ q, n' = q + 1 := ⟨n' - 1, by omega⟩
    have hS1 : Sta M := hS.kp (h3.sub fun k j hj => by simp [rSta] at hj; simp [rGa]; omega)
    obtain ⟨M1, t1, t2, t3, t4⟩ := tail_l (N := N) (t := k) (K := l_X3_gather_20 N n') hS1 (by omega) hN
    have k1 : KpR rGa M0 M1 := ⟨fun a b hb => by rw [t3 a b (by rintro rfl; cases hb)]; exact h3.1 a b hb, fun a b hb => by rw [t4]; exact h3.2 a b hb⟩
    have hS2 : Sta M1 := hS.kp (k1.sub fun k j hj => by simp [rSta] at hj; simp [rGa]; omega)
    have hP2 : Sps M1 := hP.kp (k1.sub fun k j hj => by simp [rSps] at hj; simp [rGa]; omega)
    have hs2 : szf M1 = sz := (szf.kp (fun j => k1.1 3 j rfl)).trans hsz
    have he := endOf_s (N := N) (q := 3) (u := -1) hS2 hP2 (Or.inr rfl) (by decide) t2 hN
    rw [hs2, wt_wk] at he
    have hf : J (-1 * pkp (wk sz w0 (tlb k)).1 * 8 + (wk sz w0 (tlb k)).2) = fend sz k := by
      unfold fend
      rw [Int.neg_one_mul]
    rw [hf] at he
    obtain ⟨j0, hj0, hj1⟩ := slot_b (fend sz k)
    have e24 : M1.1 24 j0 = I (nxt (fun x => slotv (fend sz x) = I j0) (k + 1)) := by rw [t3 24 _ (by decide)]; exact h4.2 j0 hj0
    generalize hM2 : seI (seI (seL M1 22 k (fend sz k)) 23 k (M1.1 24 j0)) 24 j0 (I k) = M2
    have hrun : l_X3_gather_20 N (n' + 1) M (I (((k + 1 : Nat) : Int) - 1)) = l_X3_gather_20 N n' M2 (I ((k : Int) - 1)) := by
      rw [show ((k + 1 : Nat) : Int) - 1 = (k : Int) by omega, l_X3_gather_20, if_neg (by rw [I_0, I_lt] <;> omega), t1, show f_X3_endOf N M1 3 (-1) = _ from he]
      simp only [bd2, slot_s, hj1]
      rw [pput_in (n := 1000) rfl (by decide) (by omega) (by omega)]
      simp only [bd, Int.toNat_natCast]
      rw [at_in (n := 1024) rfl (by decide) (by omega) (by omega)]
      simp only [Int.toNat_natCast]
      rw [put_in (n := 1000) rfl (by decide) (by decide) (by omega) (by omega)]
      simp only [Int.toNat_natCast]
      rw [put_in (n := 1024) rfl (by decide) (by decide) (by omega) (by omega)]
      simp only [Int.toNat_natCast]
      rw [seL_1, hM2, show (-1 : Int32) = I (-1) from rfl, I_add]
      rfl
    rw [hrun]
    refine ih n' M2 (by omega) (by omega) ?_ ⟨fun u hu hu2 => ?_, fun j hj => ?_⟩
    · rw [← hM2]
      exact ((k1.L rfl).I rfl).I rfl
    · rw [← hM2]
      rw [seI_2, seI_2, seL_2, seI_ne (by decide), seI_1, seL_1]
      by_cases e : u = k
      · subst e
        rw [if_pos ⟨rfl, rfl⟩, if_pos ⟨rfl, rfl⟩, e24, hj1]
        exact ⟨rfl, rfl⟩
      · rw [if_neg (by omega), if_neg (by omega), t4, t3 23 _ (by decide)]
        exact h4.1 u (by omega) hu2
    · rw [← hM2, seI_1]
      by_cases e : j = j0
      · subst e
        rw [if_pos ⟨rfl, rfl⟩, nxt_y (by omega) (by simpa using hj1)]
      · rw [if_neg (by omega), seI_ne (by decide), seL_1, t3 24 _ (by decide), h4.2 j hj, nxt_n (fr := k) (by omega)]
        simp only [decide_eq_false_iff_not, hj1]
        rw [I_eq] <;> omega
theorem gather_s {N : Nat} {M : Mem} (hS : Sta M) (hP : Sps M) (hG : Gat M) (hN : 2000 < N) : ∃ M', f_X3_gather N M = some M' ∧ KpR rGa M M' ∧ M'.1 21 6 = 1 ∧ Tls M' := by
  unfold f_X3_gather
  rcases hG with h | ⟨h, hT⟩
  · have hk : KpR rGa M (wrI M 24 (fun i => if i < 1024 then -1 else M.1 24 i)) := KpR.rf.W (fun _ => rfl)
    rw [if_pos h, fill_s (n1 := 1024) rfl (by decide) (by decide) hN]
    simp only [bd]
    obtain ⟨M', g1, g2, g3, g4⟩ := gather_l (N := N) hN hS hP rfl 1000 N _ (by decide) (by omega) hk ⟨fun u h1 h2 => by omega, fun j hj => by rw [wrI_s, if_pos hj]; rfl⟩
    refine ⟨M', g1, g2, g4, ?_⟩
    have e : szf M' = szf M := szf.kp (fun j => g2.1 3 j rfl)
    unfold Tls
    rw [e]
    exact ⟨fun t ht => g3.1 t (by omega) ht, g3.2⟩
  · rw [if_neg (by rw [h]; decide)]
    exact ⟨M, rfl, KpR.rf, h, hT⟩
