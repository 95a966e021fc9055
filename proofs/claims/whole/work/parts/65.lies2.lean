/-! Part 65: whether a row lies, by the row alone -/
def Cxl (M0 : Mem) (sz : Nat → Int) (n : Nat) (w : Nat → Nat) : Mem := (fun a b => if a = 17 then I n else if a = 19 then I (wf sz w b).2 else if a = 20 then I (w b) else M0.1 a b, fun a b => if a = 18 then J (pkp (wf sz w b).1) else M0.2 a b)
def pc (p : Pl) (k : Nat) : Int := if k = 0 then p.1 else if k = 1 then p.2.1 else if k = 2 then p.2.2.1 else p.2.2.2
def Cml (M0 : Mem) (sz : Nat → Int) (n : Nat) (w : Nat → Nat) : Mem := (fun a b => if a = 39 then (if b % 5 = 4 then I (wf sz w (b / 5)).2 else I (pc (wf sz w (b / 5)).1 (b % 5))) else if a = 40 then I (w b) else if a = 34 then I n else M0.1 a b, M0.2)
def XL (M : Mem) (sz : Nat → Int) (n : Nat) (w : Nat → Nat) : Prop := M.1 17 4 = I n ∧ (∀ i, i ≤ n → M.2 18 i = J (pkp (wf sz w i).1) ∧ M.1 19 i = I (wf sz w i).2) ∧ ∀ i, i < n → M.1 20 i = I (w i)
def ML (M : Mem) (sz : Nat → Int) (n : Nat) (w : Nat → Nat) : Prop := M.1 34 8 = I n ∧ (∀ i, i ≤ n → At M (5 * i) (wf sz w i).1 ∧ M.1 39 (5 * i + 4) = I (wf sz w i).2) ∧ ∀ i, i < n → M.1 40 i = I (w i)
theorem Cxl_XL {M0 : Mem} {sz : Nat → Int} {n : Nat} {w : Nat → Nat} : XL (Cxl M0 sz n w) sz n w :=
  ⟨rfl, fun _ _ => ⟨rfl, rfl⟩, fun _ _ => rfl⟩
theorem Cml_39 {M0 : Mem} {sz : Nat → Int} {n : Nat} {w : Nat → Nat} {b : Nat} : (Cml M0 sz n w).1 39 b = if b % 5 = 4 then I (wf sz w (b / 5)).2 else I (pc (wf sz w (b / 5)).1 (b % 5)) := rfl
theorem Cml_ML {M0 : Mem} {sz : Nat → Int} {n : Nat} {w : Nat → Nat} : ML (Cml M0 sz n w) sz n w := by
  refine ⟨rfl, fun i hi => ⟨⟨?_, ?_, ?_, ?_⟩, ?_⟩, fun _ _ => rfl⟩
  · rw [Cml_39, if_neg (by omega), show 5 * i / 5 = i by omega, show 5 * i % 5 = 0 by omega]; rfl
  · rw [Cml_39, if_neg (by omega), show (5 * i + 1) / 5 = i by omega, show (5 * i + 1) % 5 = 1 by omega]; rfl
  · rw [Cml_39, if_neg (by omega), show (5 * i + 2) / 5 = i by omega, show (5 * i + 2) % 5 = 2 by omega]; rfl
  · rw [Cml_39, if_neg (by omega), show (5 * i + 3) / 5 = i by omega, show (5 * i + 3) % 5 = 3 by omega]; rfl
  · rw [Cml_39, if_pos (by omega), show (5 * i + 4) / 5 = i by omega]
theorem lies_same {N n m : Nat} {M M2 : Mem} {sd lx ly sz : Nat → Int} {w : Nat → Nat} (hn : n ≤ 6) (hz : ∀ k, k < 7 → 0 ≤ sz k ∧ sz k ≤ 20) (hw : ∀ i, i < n → w i < 10) (hT : TbX M sd m lx ly) (hT2 : TbM M2 sd m lx ly) (hX : XL M sz n w) (hM : ML M2 sz n w) (hN : 2000 < N) :
    ∃ x y, f_X0_firstOff N M = some (x, M) ∧ f_X5_firstTouch N M = some (y, M) ∧ f_X7_offOf N M2 = some (x, M2) ∧ f_X7_touchOf N M2 = some (y, M2) := by
  have hb : ∀ i, i ≤ n → PB (wf sz w i).1 960 := fun i hi => (wf_b hz i (fun k hk => hw k (by omega))).le (by omega)
  obtain ⟨x, x1, x2⟩ := off_same (N := N) (P := fun i => (wf sz w i).1) (by omega) hT hT2 hX.1 hM.1 (fun i hi => (hX.2.1 i hi).1) (fun i hi => (hM.2.1 i hi).1) hb hN
  obtain ⟨y, y1, y2⟩ := touch_same (N := N) (s := wf sz w) (by omega) hw hX.1 hM.1 hX.2.1 hM.2.1 hb (wf_d _ _) rfl hX.2.2 hM.2.2 hN
  exact ⟨x, y, x1, y1, x2, y2⟩
/-- whether a row lies -/
def LIv (N : Nat) (M0 : Mem) (sz : Nat → Int) (n : Nat) (w : Nat → Nat) : Bool := match f_X7_offOf N (Cml M0 sz n w), f_X7_touchOf N (Cml M0 sz n w) with
  | some (x, _), some (y, _) => decide (x = -9 ∧ y = -9)
  | _, _ => false
theorem xlies {N n m : Nat} {M0 M : Mem} {sd lx ly sz : Nat → Int} {w : Nat → Nat} (hn : n ≤ 6) (hz : ∀ k, k < 7 → 0 ≤ sz k ∧ sz k ≤ 20) (hw : ∀ i, i < n → w i < 10) (hT2 : TbM M0 sd m lx ly) (hT : TbX M sd m lx ly) (hX : XL M sz n w) (hN : 2000 < N) :
    ∃ x y, f_X0_firstOff N M = some (x, M) ∧ f_X5_firstTouch N M = some (y, M) ∧ (LIv N M0 sz n w = true ↔ x = -9 ∧ y = -9) := by
  obtain ⟨x, y, h1, h2, h3, h4⟩ := lies_same (N := N) hn hz hw hT (TbM.kp (M' := Cml M0 sz n w) hT2 (fun j => rfl)) hX Cml_ML hN
  refine ⟨x, y, h1, h2, ?_⟩
  unfold LIv
  rw [h3, h4]
  simp
theorem mlies {N n m : Nat} {M0 M2 : Mem} {sd lx ly sz : Nat → Int} {w : Nat → Nat} (hn : n ≤ 6) (hz : ∀ k, k < 7 → 0 ≤ sz k ∧ sz k ≤ 20) (hw : ∀ i, i < n → w i < 10) (hT : TbX M0 sd m lx ly) (hT0 : TbM M0 sd m lx ly) (hT2 : TbM M2 sd m lx ly) (hM : ML M2 sz n w) (hN : 2000 < N) :
    f_X7_isLying N M2 = some (if LIv N M0 sz n w = true then 1 else 0, M2) := by
  have hTx : TbX (Cxl M0 sz n w) sd m lx ly := hT.kp (fun _ => rfl) (fun _ => rfl) (fun _ => rfl) rfl
  obtain ⟨x, y, h1, h2, h3, h4⟩ := lies_same (N := N) hn hz hw hTx hT2 Cxl_XL hM hN
  obtain ⟨x', y', g1, g2, g3⟩ := xlies (N := N) hn hz hw hT0 hTx (Cxl_XL (M0 := M0)) hN
  rw [h1] at g1
  rw [h2] at g2
  have ex : x = x' := congrArg (fun o : Option (Int32 × Mem) => match o with | some (x, _) => x | none => 0) g1
  have ey : y = y' := congrArg (fun o : Option (Int32 × Mem) => match o with | some (x, _) => x | none => 0) g2
  subst ex
  subst ey
  unfold f_X7_isLying
  rw [h3]
  simp only [bd2]
  by_cases c : x = -9
  · rw [if_pos c, h4]
    simp only []
    by_cases c2 : y = -9
    · rw [if_pos c2, if_pos (g3.mpr ⟨c, c2⟩)]
    · rw [if_neg c2, if_neg (fun h => c2 (g3.mp h).2)]
  · rw [if_neg c, if_neg (fun h => c (g3.mp h).1)]
