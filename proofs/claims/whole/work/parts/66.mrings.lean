/-! Part 66: the reference's rings -/
def rgb (N : Nat) (M0 : Mem) (sz : Nat → Int) (n : Nat) (lie : Bool) (w : Nat → Nat) : Bool := decide (0 < n ∧ (wf sz w n).1 = (0, 0, 0, 0) ∧ (wf sz w n).2 = 0) && frs n w && (!lie || LIv N M0 sz n w)
abbrev Amr : Type := Int32 × Bool × (Nat → Nat)
def rleaf (N : Nat) (M0 : Mem) (sz : Nat → Int) (n : Nat) (lie : Bool) (wanted : Int32) (_ : Pl × Nat) (w : Nat → Nat) (a : Amr) : Amr := if rgb N M0 sz n lie w = true then (a.1 + 1, decide (a.1 = wanted), if a.1 = wanted then w else a.2.2) else a
def Xrg (a b : Nat) : Bool := a == 43 || (a == 34 && (b == 15 || b == 23))
def AccR (n : Nat) (M : Mem) (a : Amr) : Prop := M.1 34 15 = a.1 ∧ M.1 34 23 = (if a.2.1 = true then 1 else 0) ∧ (a.2.1 = true → ∀ k, k < n → M.1 43 k = I (a.2.2 k) ∧ a.2.2 k < 10)
def Enm (n : Nat) (sz sd lx ly : Nat → Int) (m : Nat) (lie : Bool) (wanted : Int32) (M : Mem) : Prop := M.1 34 8 = I n ∧ Szm M sz ∧ M.1 34 16 = wanted ∧ M.1 34 22 = (if lie = true then 1 else 0) ∧ TbM M sd m lx ly
theorem rings_fill {N n : Nat} {M0 : Mem} (hn : n ≤ 6) (h8 : M0.1 34 8 = I n) (hN : 2000 < N) : ∃ M', l_X7_rings_46 N N M0 0 = some M' ∧ (∀ k, k < n → M'.1 43 k = M0.1 40 k) ∧ M'.1 34 23 = 1 ∧ M'.1 34 15 = M0.1 34 15 + 1 ∧ (∀ a b, a ≠ 43 → ¬ (a = 34 ∧ (b = 15 ∨ b = 23)) → M'.1 a b = M0.1 a b) ∧ M'.2 = M0.2 := by
  have key : ∀ (r j n' : Nat) (M1 : Mem), j + r = n → r < n' → (∀ k, k < j → M1.1 43 k = M0.1 40 k) → (∀ a b, a ≠ 43 → M1.1 a b = M0.1 a b) → M1.2 = M0.2 → ∃ M', l_X7_rings_46 N n' M1 (I j) = some M' ∧ (∀ k, k < n → M'.1 43 k = M0.1 40 k) ∧ M'.1 34 23 = 1 ∧ M'.1 34 15 = M0.1 34 15 + 1 ∧ (∀ a b, a ≠ 43 → ¬ (a = 34 ∧ (b = 15 ∨ b = 23)) → M'.1 a b = M0.1 a b) ∧ M'.2 = M0.2 := by
    intro r
    induction r with
    | zero =>
      intro j n' M1 h1 h2 h3 h4 h5
      obtain ⟨n', rfl⟩ : ∃ q, n' = q + 1 := ⟨n' - 1, by omega⟩
      obtain rfl : j = n := by omega
      refine ⟨seI (seI M1 34 23 1) 34 15 ((seI M1 34 23 1).1 34 15 + 1), ?_, fun k hk => ?_, ?_, ?_, fun a b h1 h2 => ?_, h5⟩
      · rw [l_X7_rings_46, h4 34 8 (by decide), h8, if_pos (by rw [I_le] <;> omega)]
        rfl
      · rw [seI_ne (by decide), seI_ne (by decide)]; exact h3 k hk
      · simp [seI_1]
      · simp [seI_1, h4]
      · rw [seI_1, if_neg (by omega), seI_1, if_neg (by omega)]; exact h4 a b h1
    | succ r ih =>
      intro j n' M1 h1 h2 h3 h4 h5
      obtain ⟨n', rfl⟩ : ∃ q, n' = q + 1 := ⟨n' - 1, by omega⟩
      obtain ⟨M', q1, q2⟩ := ih (j + 1) n' (seI M1 43 j (M1.1 40 j)) (by omega) (by omega) (fun k hk => by
        rw [seI_1]
        by_cases e : k = j
        · rw [if_pos ⟨rfl, e⟩, e]; exact h4 40 j (by decide)
        · rw [if_neg (by omega)]; exact h3 k (by omega)) (fun a b ha => by rw [seI_ne ha]; exact h4 a b ha) h5
      refine ⟨M', ?_, q2⟩
      rw [l_X7_rings_46, h4 34 8 (by decide), h8, if_neg (by rw [I_le] <;> omega)]
      simp only [ck, nm]
      rw [if_pos (show inb (I j) 24 by rw [I_inb] <;> omega), if_pos (show inb (I j) 6 by rw [I_inb] <;> omega), I_ix (by omega) (by omega), Int.toNat_natCast, I_1, I_add]
      exact q1
  exact key n 0 N M0 (by omega) (by omega) (fun k hk => by omega) (fun _ _ _ => rfl) rfl
theorem ring_leaf {N n m dd : Nat} {M0 M : Mem} {sz sd lx ly : Nat → Int} {lie : Bool} {wanted : Int32} {w : Nat → Nat} {a : Amr} (hn : n ≤ 6) (hn1 : 0 < n) (hz : ∀ k, k < 7 → 0 ≤ sz k ∧ sz k ≤ 20) (hN : 2000 < N) (hT : TbX M0 sd m lx ly) (hT0 : TbM M0 sd m lx ly) (hE : Enm n sz sd lx ly m lie wanted M) (hJ : Jn M sz n w) (hA : AccR n M a) (hs : a.2.1 = false) :
    ∃ M', f_X7_goesOn N (dd + 1) M (I n) 0 = some M' ∧ KpS Xrg n M M' ∧ AccR n M' (rleaf N M0 sz n lie wanted (wf sz w n) w a) := by
  obtain ⟨h8, -, h16, h22, hT2⟩ := hE
  have hw := fun k hk => (hJ.2 k hk).2
  have hd := wf_d sz w n
  have hB := (wf_b hz n hw).le (b := 960) (by omega)
  obtain ⟨j1, j2⟩ := hJ.1 n (Nat.le_refl n)
  obtain ⟨x, x1, x2⟩ := mclosed (N := N) (n := n) (s := wf sz w n) (by omega) h8 (hJ.1 0 (by omega)).1 j1 j2 hB hd hN
  have hf := mfirst (N := N) hn hJ.2 hN
  have hl := mlies (N := N) hn hz hw hT hT0 hT2 ⟨h8, hJ.1, fun i hi => (hJ.2 i hi).1⟩ hN
  have e : f_X7_goesOn N (dd + 1) M (I n) 0 = bd (f_X7_rings N M) fun M47 => some M47 := by
    show (if I n = M.1 34 8 then _ else _) = _
    rw [if_pos h8.symm, if_pos rfl]
  rw [e]
  have same : rgb N M0 sz n lie w = false → ∃ M', some M = some M' ∧ KpS Xrg n M M' ∧ AccR n M' (rleaf N M0 sz n lie wanted (wf sz w n) w a) := fun h => ⟨M, rfl, KpS.rf, by
    unfold rleaf
    rw [if_neg (by rw [h]; decide)]
    exact hA⟩
  -- a ring counted
  have cnt : rgb N M0 sz n lie w = true → ∃ M', (if M.1 34 15 = M.1 34 16 then l_X7_rings_46 N N M 0 else some (seI M 34 15 (M.1 34 15 + 1))) = some M' ∧ KpS Xrg n M M' ∧ AccR n M' (rleaf N M0 sz n lie wanted (wf sz w n) w a) := by
    intro h
    unfold rleaf
    rw [if_pos h, h16, hA.1]
    by_cases c : a.1 = wanted
    · rw [if_pos c, if_pos c, decide_eq_true c]
      obtain ⟨M', f1, f2, f3, f4, f5, f6⟩ := rings_fill (N := N) hn h8 hN
      refine ⟨M', f1, ⟨fun x b h1 h2 h3 h4 => ?_, f6, fun b hb => ?_, fun b hb => ?_⟩, ?_, ?_, fun _ k hk => ?_⟩
      · refine f5 x b ?_ ?_
        · rintro rfl; cases h4
        · rintro ⟨rfl, rfl | rfl⟩ <;> cases h4
      · exact f5 39 b (by decide) (by omega)
      · exact f5 40 b (by decide) (by omega)
      · rw [f4, hA.1]
      · rw [f3]; rfl
      · rw [f2 k hk]; exact hJ.2 k hk
    · rw [if_neg c, if_neg c, decide_eq_false c]
      refine ⟨_, rfl, ⟨fun x b h1 h2 h3 h4 => ?_, rfl, fun b hb => ?_, fun b hb => ?_⟩, ?_, ?_, fun h => by cases h⟩
      · rw [seI_1, if_neg]
        rintro ⟨rfl, rfl⟩; cases h4
      · rw [seI_ne (by decide)]
      · rw [seI_ne (by decide)]
      · simp [seI_1]
      · rw [seI_1, if_neg (by decide), hA.2.1, hs]
  unfold f_X7_rings
  rw [x2]
  simp only [bd2]
  rcases x1 with ⟨rfl, hc⟩ | ⟨rfl, hc⟩
  · have dc : decide (0 < n ∧ (wf sz w n).1 = (0, 0, 0, 0) ∧ (wf sz w n).2 = 0) = true := decide_eq_true hc
    rw [if_neg (show ¬ (1 : Int32) = 0 by decide), h8, hf]
    simp only []
    cases hfr : frs n w with
    | false =>
      rw [if_pos (by rfl)]
      exact same (by unfold rgb; rw [hfr]; simp)
    | true =>
      rw [if_neg (show ¬ (if true = true then (1 : Int32) else 0) = 0 by decide), h22]
      cases lie with
      | false =>
        rw [if_pos (by rfl)]
        obtain ⟨M', c1, c2⟩ := cnt (by unfold rgb; rw [hfr, dc]; simp)
        refine ⟨M', ?_, c2⟩
        simp only [nm]
        rw [c1]
        rfl
      | true =>
        rw [if_neg (show ¬ (if true = true then (1 : Int32) else 0) = 0 by decide), hl]
        simp only []
        cases hli : LIv N M0 sz n w with
        | false =>
          rw [if_pos (by rfl)]
          exact same (by unfold rgb; rw [hli]; simp)
        | true =>
          rw [if_neg (show ¬ (if true = true then (1 : Int32) else 0) = 0 by decide)]
          obtain ⟨M', c1, c2⟩ := cnt (by unfold rgb; rw [hfr, dc, hli]; simp)
          refine ⟨M', ?_, c2⟩
          simp only [nm]
          rw [c1]
          rfl
  · have dc : decide (0 < n ∧ (wf sz w n).1 = (0, 0, 0, 0) ∧ (wf sz w n).2 = 0) = false := decide_eq_false hc
    rw [if_pos rfl]
    exact same (by unfold rgb; rw [dc]; simp)
def zw : Nat → Nat := fun _ => 0
/-- what the reference's search gives: how many, whether the wanted one was found, its letters -/
def mres (N : Nat) (M0 : Mem) (sz : Nat → Int) (n : Nat) (lie : Bool) (wanted : Int32) (bx : Nat → Int) : Amr := nest n 0 zw (fun w a => if a.2.1 = true then a else if lackS w n bx 7 = 0 then rleaf N M0 sz n lie wanted (wf sz w n) w a else a) (0, false, zw)
theorem mrings {N n m : Nat} {M0 M : Mem} {sz sd lx ly bx : Nat → Int} (lie : Bool) (wanted : Int32) (hn : n ≤ 6) (hn1 : 0 < n) (hz : ∀ k, k < 7 → 0 ≤ sz k ∧ sz k ≤ 20) (hN : 2000 < N) (hT : TbX M0 sd m lx ly) (hT0 : TbM M0 sd m lx ly) (hT2 : TbM M sd m lx ly) (h39 : ∀ k, k < 5 → M.1 39 k = 0) (h23 : M.1 34 23 = 0) (hb : ∀ k, k < 7 → M.1 36 k = I (bx k) ∧ 0 ≤ bx k ∧ bx k ≤ 9) (hs : Szm M sz) :
    ∃ M', f_X7_ringsOf N M (I n) (if lie = true then 1 else 0) wanted = some (if 0 ≤ wanted then (if (mres N M0 sz n lie wanted bx).2.1 = true then 1 else -9) else (mres N M0 sz n lie wanted bx).1, M') ∧ KpR rMS M M' ∧ ((mres N M0 sz n lie wanted bx).2.1 = true → ∀ k, k < n → M'.1 43 k = I ((mres N M0 sz n lie wanted bx).2.2 k) ∧ (mres N M0 sz n lie wanted bx).2.2 k < 10) := by
  obtain ⟨M1, b1, b2, b3, b4, b5, b6⟩ := begun (N := N) (n := n) h39 hb hN
  generalize hM6 : seI (seI (seI (seI M1 34 15 0) 34 16 wanted) 34 23 0) 34 22 (if lie = true then 1 else 0) = M6
  have k6 : ∀ a b, ¬ (a = 34 ∧ (b = 15 ∨ b = 16 ∨ b = 22 ∨ b = 23)) → M6.1 a b = M1.1 a b := fun a b h => by
    rw [← hM6, seI_1, if_neg (by omega), seI_1, if_neg (by omega), seI_1, if_neg (by omega), seI_1, if_neg (by omega)]
  have hEn : Enm n sz sd lx ly m lie wanted M6 := by
    refine ⟨by rw [k6 34 8 (by omega)]; exact b2, fun k hk => ?_, ?_, ?_, ?_⟩
    · rw [k6 36 _ (by omega), b4 36 _ (by decide) (by omega)]; exact hs k hk
    · rw [← hM6]; simp [seI_1]
    · rw [← hM6]; simp [seI_1]
    · exact hT2.kp (fun j => by rw [k6 36 _ (by omega), b4 36 _ (by decide) (by omega)])
  have h := msearch (A := Amr) (N := N) (n := n) (t := 0) (sz := sz) (st := fun a => a.2.1) (leaf := rleaf N M0 sz n lie wanted) (X := Xrg) (E := Enm n sz sd lx ly m lie wanted) (RA := AccR n) (by decide) hn hz hN (fun _ => rfl) (fun _ => rfl) (fun _ => rfl) (fun _ => rfl) rfl rfl (fun M h => ⟨h.1, h.2.1⟩)
    (fun M M' h hk => by
      have k36 : ∀ b, M'.1 36 b = M.1 36 b := fun b => hk 36 b (by decide) (by decide) (by decide) (by omega) rfl
      refine ⟨by rw [hk 34 8 (by decide) (by decide) (by decide) (by decide) rfl]; exact h.1, fun k hk' => by rw [k36]; exact h.2.1 k hk', by rw [hk 34 16 (by decide) (by decide) (by decide) (by decide) rfl]; exact h.2.2.1, by rw [hk 34 22 (by decide) (by decide) (by decide) (by decide) rfl]; exact h.2.2.2.1, h.2.2.2.2.kp k36⟩)
    (fun M M' a h hk => by
      unfold AccR at h ⊢
      rw [hk 34 15 rfl, hk 34 23 rfl]
      exact ⟨h.1, h.2.1, fun h' k hk' => by rw [hk 43 k rfl]; exact h.2.2 h' k hk'⟩) (fun M a h => h.2.1)
    (fun dd M w a hE hJ hA hst => ring_leaf hn hn1 hz hN hT hT0 hE hJ hA hst) n 12 0 M6 zw bx (0, false, zw) (by omega) (by omega) hEn
    ((b6 _ _).cg (fun b hb => by rw [k6 39 b (by omega)]) (fun b hb => by omega)) (fun k hk => by rw [k6 41 k (by omega)]; exact b3 k hk)
    ⟨by rw [← hM6]; simp [seI_1], by rw [← hM6]; simp [seI_1], fun h => by cases h⟩ rfl
  obtain ⟨M8, g1, g2, g3⟩ := h
  rw [gf_nest (n := n) (bx := bx) (fun k hk => (hb k hk).2.1) n 0 zw bx (0, false, zw) (by omega) (fun k hk => by show bx k = bx k - (0 : Nat); omega) (fun k hk => (hb k hk).2.1) rfl] at g3
  have g3 : AccR n M8 (mres N M0 sz n lie wanted bx) := g3
  generalize mres N M0 sz n lie wanted bx = R at *
  refine ⟨seI M8 34 23 0, ?_, ?_, fun h k hk => by rw [seI_ne (by decide)]; exact g3.2.2 h k hk⟩
  · unfold f_X7_ringsOf
    rw [b1]
    simp only [bd, nm, ck]
    rw [if_pos (show zb (if lie = true then 1 else 0) by cases lie <;> simp [zb]), hM6, show f_X7_goesOn N 12 M6 0 0 = some M8 from g1]
    simp only []
    by_cases c : 0 ≤ wanted
    · rw [if_pos c, if_pos c, g3.2.1]
      cases R.2.1 with
      | true => rfl
      | false => rfl
    · rw [if_neg c, if_neg c, seI_1, if_neg (by decide), g3.1]
  · have k1 : KpR rMS M M6 := by
      refine ⟨fun a b hb => ?_, fun a b hb => by rw [← hM6, seI_2, seI_2, seI_2, seI_2, b5]⟩
      by_cases e23 : a = 34 ∧ b = 23
      · rw [e23.1, e23.2, h23, ← hM6]; simp [seI_1]
      have n0 : ¬ (a = 34 ∧ (b = 15 ∨ b = 16 ∨ b = 22 ∨ b = 23)) := by
        rintro ⟨rfl, rfl | rfl | rfl | rfl⟩
        · cases hb
        · cases hb
        · cases hb
        · exact e23 ⟨rfl, rfl⟩
      have n2 : a ≠ 41 := by rintro rfl; cases hb
      have n3 : ¬ (a = 34 ∧ b = 8) := by rintro ⟨rfl, rfl⟩; cases hb
      rw [k6 a b n0, b4 a b n2 n3]
    have g2' : KpS Xrg 0 M6 (seI M8 34 23 0) := by
      refine ⟨fun a b h1 h2 h3 h4 => ?_, by rw [seI_2]; exact g2.2.1, fun b hb => by rw [seI_ne (by decide)]; exact g2.2.2.1 b hb, fun b hb => by omega⟩
      rw [seI_1, if_neg]
      · exact g2.1 a b h1 h2 h3 h4
      · rintro ⟨rfl, rfl⟩
        cases h4
    refine k1.tr (g2'.ms (fun a b hx => ?_))
    simp [Xrg] at hx
    rcases hx with rfl | ⟨rfl, rfl | rfl⟩
    · exact Or.inl rfl
    · exact Or.inl rfl
    · refine Or.inr ?_
      rw [← hM6]
      simp [seI_1]
