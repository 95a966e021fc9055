/-! Part 49: touches and lies -/
def Crs (w : Nat → Nat) (i : Nat) : Prop := 0 < i ∧ w (i - 1) = 9
theorem xcross {N n i j : Nat} {M : Mem} {w : Nat → Nat} (hn : n ≤ 24) (hi : 0 < i) (hi2 : i ≤ n) (hj : j < i) (hl : ∀ i, i < n → M.1 20 i = I (w i)) (hw : ∀ i, i < n → w i < 10) : ∃ x, (x = 1 ∧ (Crs w i ∧ Crs w j) ∨ x = 0 ∧ ¬ (Crs w i ∧ Crs w j)) ∧ f_X5_areCrossings N M (I i) (I j) = some (x, M) := by
  unfold f_X5_areCrossings
  by_cases c0 : j = 0
  · rw [if_pos (by rw [I_0, I_le] <;> omega)]
    exact ⟨0, Or.inr ⟨rfl, fun h => by have := h.2.1; omega⟩, rfl⟩
  rw [if_neg (by rw [I_0, I_le] <;> omega), I_1, I_sub, at_in (n := 24) rfl (by decide) (by omega) (by omega)]
  simp only [bd2]
  rw [show ((i : Int) - 1).toNat = i - 1 by omega, hl _ (by omega), I_sub, at_in (n := 24) rfl (by decide) (by omega) (by omega)]
  have hw1 := hw (i - 1) (by omega)
  have hw2 := hw (j - 1) (by omega)
  by_cases c1 : w (i - 1) = 9
  · rw [if_pos (show I (w (i - 1) : Nat) = 9 by rw [c1]; rfl)]
    simp only []
    rw [show ((j : Int) - 1).toNat = j - 1 by omega, hl _ (by omega)]
    by_cases c2 : w (j - 1) = 9
    · rw [if_pos (show I (w (j - 1) : Nat) = 9 by rw [c2]; rfl)]
      exact ⟨1, Or.inl ⟨rfl, ⟨hi, c1⟩, by omega, c2⟩, rfl⟩
    · rw [if_neg (show ¬ I (w (j - 1) : Nat) = 9 by rw [I_9, I_eq] <;> omega)]
      exact ⟨0, Or.inr ⟨rfl, fun h => c2 h.2.2⟩, rfl⟩
  · rw [if_neg (show ¬ I (w (i - 1) : Nat) = 9 by rw [I_9, I_eq] <;> omega)]
    exact ⟨0, Or.inr ⟨rfl, fun h => c1 h.1.2⟩, rfl⟩
theorem mcross {N n i : Nat} {M : Mem} {w : Nat → Nat} (hn : n ≤ 24) (hi2 : i ≤ n) (hl : ∀ i, i < n → M.1 40 i = I (w i)) (hw : ∀ i, i < n → w i < 10) : ∃ x, (x = 1 ∧ Crs w i ∨ x = 0 ∧ ¬ Crs w i) ∧ f_X7_isCrossed N M (I i) = some (x, M) := by
  unfold f_X7_isCrossed
  by_cases c0 : i = 0
  · rw [if_pos (by rw [I_0, I_le] <;> omega)]
    exact ⟨0, Or.inr ⟨rfl, fun h => by have := h.1; omega⟩, rfl⟩
  have hw1 := hw (i - 1) (by omega)
  rw [if_neg (by rw [I_0, I_le] <;> omega)]
  simp only [ck]
  have e : M.1 40 (ix (I i - 1)) = I (w (i - 1)) := by
    rw [I_1, I_sub, I_ix (by omega) (by omega), show ((i : Int) - 1).toNat = i - 1 by omega, hl _ (by omega)]
  rw [if_pos (show inb (I i - 1) 24 by rw [I_1, I_sub, I_inb] <;> omega)]
  by_cases c1 : w (i - 1) = 9
  · rw [if_pos (by rw [e, c1]; rfl)]
    exact ⟨1, Or.inl ⟨rfl, by omega, c1⟩, rfl⟩
  · rw [if_neg (by rw [e, I_9, I_eq] <;> omega)]
    exact ⟨0, Or.inr ⟨rfl, fun h => c1 h.2⟩, rfl⟩
theorem touch_in {N n i : Nat} {M M2 : Mem} {w : Nat → Nat} {P : Nat → Pl} {c : Int32} {K K' : Mem → Int32 → Int32 → Option (Int32 × Mem)} (hn : n ≤ 24) (hw : ∀ i, i < n → w i < 10) (h4 : M.1 17 4 = I n) (h8 : M2.1 34 8 = I n) (hp : ∀ i, i ≤ n → M.2 18 i = J (pkp (P i))) (hA : ∀ i, i ≤ n → At M2 (5 * i) (P i)) (hb : ∀ i, i ≤ n → PB (P i) 960) (hl : ∀ i, i < n → M.1 20 i = I (w i)) (hl2 : ∀ i, i < n → M2.1 40 i = I (w i)) (hi : 0 < i) (hi2 : i ≤ n) (hN : 2000 < N)
    (hK : ∃ x, K M c (I (i + 1 : Nat)) = some (x, M) ∧ K' M2 c (I (i + 1 : Nat)) = some (x, M2)) : ∀ (r j n' : Nat), j + r = i → r < n' → ∃ x, l_X5_firstTouch_17 N K n' M c (I i) (I j) = some (x, M) ∧ l_X7_touchOf_17 N K' n' M2 c (I i) (I j) = some (x, M2) := by
  intro r
  induction r with
  | zero =>
    intro j n' h1 h2
    obtain ⟨n', rfl⟩ : ∃ q, n' = q + 1 := ⟨n' - 1, by omega⟩
    rw [l_X5_firstTouch_17, l_X7_touchOf_17, if_pos (show I i ≤ I j by rw [I_le] <;> omega), if_pos (show I i ≤ I j by rw [I_le] <;> omega), I_1, I_add]
    exact hK
  | succ r ih =>
    intro j n' h1 h2
    obtain ⟨n', rfl⟩ : ∃ q, n' = q + 1 := ⟨n' - 1, by omega⟩
    obtain ⟨v, v1, v2⟩ := ih (j + 1) n' (by omega) (by omega)
    obtain ⟨x, x1, x2⟩ := xcross (N := N) hn hi hi2 (show j < i by omega) hl hw
    obtain ⟨y, y1, y2⟩ := mcross (N := N) hn hi2 hl2 hw
    obtain ⟨z, z1, z2⟩ := mcross (N := N) (i := j) hn (by omega) hl2 hw
    have ej : I j + 1 = I (j + 1 : Nat) := by rw [I_1, I_add]; rfl
    have nle : ¬ I i ≤ I j := by rw [I_le] <;> omega
    have cX : (bd2 (f_X5_areCrossings N M (I i) (I j)) fun r m => if r = 0 then some (I i, m) else l_X5_firstTouch_17 N K n' m c (I i) (I j + 1)) = if x = 0 then some (I i, M) else some (v, M) := by
      rw [x2, ej]
      simp only [bd2]
      rw [v1]
    have cM : (bd2 (f_X7_isCrossed N M2 (I j)) fun r m => if r = 0 then some (I i, m) else bd2 (f_X7_isCrossed N m (I i)) fun r m => if r = 0 then some (I i, m) else l_X7_touchOf_17 N K' n' m c (I i) (I j + 1)) = if x = 0 then some (I i, M2) else some (v, M2) := by
      rw [z2, ej]
      simp only [bd2]
      rw [y2]
      simp only []
      rw [v2]
      rcases x1 with ⟨rfl, h⟩ | ⟨rfl, h⟩ <;> rcases y1 with ⟨rfl, h'⟩ | ⟨rfl, h'⟩ <;> rcases z1 with ⟨rfl, h''⟩ | ⟨rfl, h''⟩
      all_goals first
        | rfl
        | exact absurd h.1 h'
        | exact absurd h.2 h''
        | exact absurd ⟨h', h''⟩ h
    rw [l_X5_firstTouch_17, l_X7_touchOf_17, if_neg nle, if_neg nle, pat_in (n := 25) rfl (by decide) (by omega) (by omega), same_s (a := j) (b := i) (by omega) (by omega) (hA j (by omega)) (hA i hi2) (hb j (by omega)) (hb i hi2) hN]
    simp only [bd2, Int.toNat_natCast]
    rw [pat_in (n := 25) rfl (by decide) (by omega) (by omega)]
    simp only [Int.toNat_natCast]
    by_cases cs : P i = P j
    · have e : lg_cmp (M.2 18 i) (M.2 18 j) = 0 := by rw [hp i hi2, hp j (by omega), lcmp0, plE (hb i hi2) (hb j (by omega))]; exact cs
      rw [if_pos e, if_pos cs.symm, if_neg (show ¬ (1 : Int32) = 0 by decide)]
      by_cases c0 : c = 0
      · rw [if_pos c0, if_pos c0]
        refine ⟨if x = 0 then I i else v, cX.trans ?_, cM.trans ?_⟩ <;> by_cases hx : x = 0 <;> simp only [hx, if_true, if_false]
      · rw [if_neg c0, if_neg c0]
        by_cases cn : i = n
        · rw [if_pos (show I i = M.1 17 4 by rw [h4, cn]), if_pos (show I i = M2.1 34 8 by rw [h8, cn])]
          by_cases cj : j = 0
          · rw [if_pos (show I j = 0 by rw [cj]; rfl), if_pos (show I j = 0 by rw [cj]; rfl), ej]
            exact ⟨v, v1, v2⟩
          · have nj : ¬ I j = 0 := by rw [I_0, I_eq] <;> omega
            rw [if_neg nj, if_neg nj]
            refine ⟨if x = 0 then I i else v, cX.trans ?_, cM.trans ?_⟩ <;> by_cases hx : x = 0 <;> simp only [hx, if_true, if_false]
        · have nn : ¬ I i = M.1 17 4 := by rw [h4, I_eq] <;> omega
          have nn2 : ¬ I i = M2.1 34 8 := by rw [h8, I_eq] <;> omega
          rw [if_neg nn, if_neg nn2]
          refine ⟨if x = 0 then I i else v, cX.trans ?_, ?_⟩
          · by_cases hx : x = 0 <;> simp only [hx, if_true, if_false]
          · have : ∀ {α : Type} (a : α), (if I j = 0 then a else a) = a := fun a => by split <;> rfl
            rw [this]
            refine cM.trans ?_
            by_cases hx : x = 0 <;> simp only [hx, if_true, if_false]
    · have e : ¬ lg_cmp (M.2 18 i) (M.2 18 j) = 0 := by rw [hp i hi2, hp j (by omega), lcmp0, plE (hb i hi2) (hb j (by omega))]; exact cs
      rw [if_neg e, if_neg (Ne.symm cs), if_pos rfl, ej]
      refine ⟨v, ?_, v2⟩
      rw [v1]
      split
      · rfl
      · split
        · split <;> rfl
        · rfl
theorem touch_same {N n : Nat} {M M2 : Mem} {w : Nat → Nat} {s : Nat → Pl × Nat} (hn : n ≤ 24) (hw : ∀ i, i < n → w i < 10) (h4 : M.1 17 4 = I n) (h8 : M2.1 34 8 = I n) (hp : ∀ i, i ≤ n → M.2 18 i = J (pkp (s i).1) ∧ M.1 19 i = I (s i).2) (hA : ∀ i, i ≤ n → At M2 (5 * i) (s i).1 ∧ M2.1 39 (5 * i + 4) = I (s i).2) (hb : ∀ i, i ≤ n → PB (s i).1 960) (hd : ∀ i, (s i).2 < 8) (hs0 : s 0 = w0) (hl : ∀ i, i < n → M.1 20 i = I (w i)) (hl2 : ∀ i, i < n → M2.1 40 i = I (w i)) (hN : 2000 < N) :
    ∃ x, f_X5_firstTouch N M = some (x, M) ∧ f_X7_touchOf N M2 = some (x, M2) := by
  obtain ⟨x, x1, x2⟩ := xclosed (N := N) hn h4 (hp n (Nat.le_refl n)).1 (hp n (Nat.le_refl n)).2 (hb n (Nat.le_refl n)) (hd n)
  obtain ⟨y, y1, y2⟩ := mclosed (N := N) hn h8 (by have := (hA 0 (by omega)).1; rw [hs0] at this; exact this) (hA n (Nat.le_refl n)).1 (hA n (Nat.le_refl n)).2 (hb n (Nat.le_refl n)) (hd n) hN
  have e : y = x := by
    rcases x1 with ⟨rfl, h⟩ | ⟨rfl, h⟩ <;> rcases y1 with ⟨rfl, h'⟩ | ⟨rfl, h'⟩
    · rfl
    · exact absurd h h'
    · exact absurd h' h
    · rfl
  subst e
  have key : ∀ (r i n' : Nat), i + r = n + 1 → 0 < i → r < n' → ∃ x, l_X5_firstTouch_7 N n' M y (I i) = some (x, M) ∧ l_X7_touchOf_7 N n' M2 y (I i) = some (x, M2) := by
    intro r
    induction r with
    | zero =>
      intro i n' h1 h0 h2
      obtain ⟨n', rfl⟩ : ∃ q, n' = q + 1 := ⟨n' - 1, by omega⟩
      refine ⟨-9, ?_, ?_⟩
      · rw [l_X5_firstTouch_7, h4, if_pos (by rw [I_lt] <;> omega)]
      · rw [l_X7_touchOf_7, h8, if_pos (by rw [I_lt] <;> omega)]
    | succ r ih =>
      intro i n' h1 h0 h2
      obtain ⟨n', rfl⟩ : ∃ q, n' = q + 1 := ⟨n' - 1, by omega⟩
      rw [l_X5_firstTouch_7, l_X7_touchOf_7, h4, h8, if_neg (show ¬ I n < I i by rw [I_lt] <;> omega), if_neg (show ¬ I n < I i by rw [I_lt] <;> omega)]
      exact touch_in (P := fun i => (s i).1) hn hw h4 h8 (fun i hi => (hp i hi).1) (fun i hi => (hA i hi).1) hb hl hl2 h0 (by omega) hN (ih (i + 1) n' (by omega) (by omega) (by omega)) i 0 N (by omega) (by omega)
  obtain ⟨v, v1, v2⟩ := key n 1 N (by omega) (by decide) (by omega)
  refine ⟨v, ?_, ?_⟩
  · unfold f_X5_firstTouch
    rw [x2]
    exact v1
  · unfold f_X7_touchOf
    rw [y2]
    exact v2
theorem op_touches (N : Nat) (hN : 2000 < N) : Op (fun M => f_X6_touches N M) (fun M => f_X7_touches N M) := by
  intro M hR
  obtain ⟨n, w, M1, hn, h3, h55, hw, q1, q2, q3, q4, q5, q6, q7, q8⟩ := both (N := N) hR hN
  obtain ⟨M2, g1, g2, g3, g4, g5, g6⟩ := q8 M1 q3 KpR.rf
  obtain ⟨x, x1, x2⟩ := touch_same (N := N) (s := wf (szf M) w) hn hw q2 g2 q4 g4 q6 (wf_d _ _) rfl q5 g5 hN
  refine ⟨x, M1, M2, ?_, ?_, g3⟩
  · simp only [f_X6_touches]
    rw [h3, q1]
    simp only [bd, bd2, x1]
  · simp only [f_X7_touches]
    rw [g1]
    simp only [bd, bd2, x2]
