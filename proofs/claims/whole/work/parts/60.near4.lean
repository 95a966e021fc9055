/-! Part 60: nearest, the reference's side; what a search leaves; a new row -/
def rMS (k j : Nat) : Bool := !((k == 39 && Nat.ble 5 j) || k == 40 || k == 41 || k == 43 || k == 44 || (k == 34 && !(j == 3 || j == 5 || j == 21 || j == 23)))
theorem relv_ms : ∀ k j, relv k j = true → rMS k j = true := by
  intro k j h
  by_cases e : k = 40
  · subst e; cases h
  by_cases e1 : k = 41
  · subst e1; cases h
  by_cases e5 : k = 43
  · subst e5; cases h
  by_cases e6 : k = 44
  · subst e6; cases h
  by_cases e2 : k = 39
  · subst e2
    have h : Nat.blt j 5 = true := h
    have e5 : Nat.ble 5 j = false := by
      rw [Bool.eq_false_iff]
      intro h'
      have h2 := Nat.ble_eq.mp h'
      have h3 : Nat.ble (j + 1) 5 = true := h
      have h4 := Nat.ble_eq.mp h3
      omega
    simp [rMS, e5]
  by_cases e3 : k = 34
  · subst e3
    have h : (j == 3 || j == 5 || j == 21 || j == 23) = true := h
    simp [rMS]
    simp at h
    exact h
  simp [rMS, e, e1, e2, e3, e5, e6]
theorem KpS.ms {X : Nat → Nat → Bool} {M M' : Mem} (h : KpS X 0 M M') (hX : ∀ a b, X a b = true → rMS a b = false ∨ M'.1 a b = M.1 a b) : KpR rMS M M' := by
  refine ⟨fun a b hb => ?_, fun a b _ => by rw [h.2.1]⟩
  by_cases e39 : a = 39
  · subst e39
    refine h.2.2.1 b ?_
    rcases Nat.lt_or_ge b 5 with h1 | h1
    · omega
    · have e : Nat.ble 5 b = true := Nat.ble_eq.mpr h1
      simp [rMS, e] at hb
  · cases hx : X a b with
    | false =>
      refine h.1 a b e39 ?_ ?_ hx
      · rintro rfl; cases hb
      · rintro ⟨rfl, rfl | rfl⟩ <;> cases hb
    | true =>
      rcases hX a b hx with h2 | h2
      · rw [h2] at hb; cases hb
      · exact h2
/-- the reference's joints at rest, and a search begun -/
theorem begun {N n : Nat} {M : Mem} (h0 : ∀ k, k < 5 → M.1 39 k = 0) {lf : Nat → Int} (hb : ∀ k, k < 7 → M.1 36 k = I (lf k) ∧ 0 ≤ lf k ∧ lf k ≤ 9) (hN : 2000 < N) : ∃ M', f_X7_begins N M (I n) = some M' ∧ M'.1 34 8 = I n ∧ Lft M' 41 lf ∧ (∀ a b, a ≠ 41 → ¬ (a = 34 ∧ b = 8) → M'.1 a b = M.1 a b) ∧ M'.2 = M.2 ∧ ∀ sz w, Jn M' sz 0 w := by
  obtain ⟨M', b1, b2, b3, b4, b5⟩ := begins_s (N := N) (n := n) (M := M) hN
  refine ⟨M', b1, b2, fun k hk => ?_, b4, b5, fun sz w => ⟨fun j hj => ?_, fun j hj => by omega⟩⟩
  · rw [b3 k hk]; exact hb k hk
  · obtain rfl : j = 0 := by omega
    unfold At
    rw [b4 39 _ (by decide) (by omega), b4 39 _ (by decide) (by omega), b4 39 _ (by decide) (by omega), b4 39 _ (by decide) (by omega), b4 39 _ (by decide) (by omega), h0 _ (by decide), h0 _ (by decide), h0 _ (by decide), h0 _ (by decide), h0 _ (by decide)]
    exact ⟨⟨rfl, rfl, rfl, rfl⟩, rfl⟩
def Xne (a b : Nat) : Bool := a == 44 || (a == 34 && (b == 17 || b == 19 || b == 20 || b == 23))
def AccM (n : Nat) (M : Mem) : Acn → Prop
  | none => M.1 34 23 = 0 ∧ M.1 34 17 = 0
  | some b => M.1 34 23 = 0 ∧ M.1 34 17 = 1 ∧ M.1 34 19 = I (gW b.2) ∧ M.1 34 20 = I (gR b.2) ∧ PB b.2 960 ∧ ∀ k, k < n → M.1 44 k = I (b.1 k) ∧ b.1 k < 10
theorem AccM.kp {n : Nat} {M M' : Mem} {a : Acn} (h : AccM n M a) (hk : ∀ x b, Xne x b = true → M'.1 x b = M.1 x b) : AccM n M' a := by
  cases a with
  | none =>
    unfold AccM at h ⊢
    rw [hk 34 23 rfl, hk 34 17 rfl]
    exact h
  | some b =>
    unfold AccM at h ⊢
    rw [hk 34 23 rfl, hk 34 17 rfl, hk 34 19 rfl, hk 34 20 rfl]
    exact ⟨h.1, h.2.1, h.2.2.1, h.2.2.2.1, h.2.2.2.2.1, fun k hk' => by rw [hk 44 k rfl]; exact h.2.2.2.2.2 k hk'⟩
theorem nears_fill {N n : Nat} {M0 : Mem} (hn : n ≤ 6) (h8 : M0.1 34 8 = I n) (hN : 2000 < N) : ∃ M', l_X7_nears_87 N N M0 0 = some M' ∧ (∀ k, k < n → M'.1 44 k = M0.1 40 k) ∧ (∀ a b, a ≠ 44 → M'.1 a b = M0.1 a b) ∧ M'.2 = M0.2 := by
  have key : ∀ (r j n' : Nat) (M1 : Mem), j + r = n → r < n' → (∀ k, k < j → M1.1 44 k = M0.1 40 k) → (∀ a b, a ≠ 44 → M1.1 a b = M0.1 a b) → M1.2 = M0.2 → ∃ M', l_X7_nears_87 N n' M1 (I j) = some M' ∧ (∀ k, k < n → M'.1 44 k = M0.1 40 k) ∧ (∀ a b, a ≠ 44 → M'.1 a b = M0.1 a b) ∧ M'.2 = M0.2 := by
    intro r
    induction r with
    | zero =>
      intro j n' M1 h1 h2 h3 h4 h5
      obtain ⟨n', rfl⟩ : ∃ q, n' = q + 1 := ⟨n' - 1, by omega⟩
      obtain rfl : j = n := by omega
      exact ⟨M1, by rw [l_X7_nears_87, h4 34 8 (by decide), h8, if_pos (by rw [I_le] <;> omega)], h3, h4, h5⟩
    | succ r ih =>
      intro j n' M1 h1 h2 h3 h4 h5
      obtain ⟨n', rfl⟩ : ∃ q, n' = q + 1 := ⟨n' - 1, by omega⟩
      obtain ⟨M', q1, q2⟩ := ih (j + 1) n' (seI M1 44 j (M1.1 40 j)) (by omega) (by omega) (fun k hk => by
        rw [seI_1]
        by_cases e : k = j
        · rw [if_pos ⟨rfl, e⟩, e]; exact h4 40 j (by decide)
        · rw [if_neg (by omega)]; exact h3 k (by omega)) (fun a b ha => by rw [seI_ne ha]; exact h4 a b ha) h5
      refine ⟨M', ?_, q2⟩
      rw [l_X7_nears_87, h4 34 8 (by decide), h8, if_neg (by rw [I_le] <;> omega)]
      simp only [ck, nm]
      rw [if_pos (show inb (I j) 24 by rw [I_inb] <;> omega), if_pos (show inb (I j) 6 by rw [I_inb] <;> omega), I_ix (by omega) (by omega), Int.toNat_natCast, I_1, I_add]
      exact q1
  exact key n 0 N M0 (by omega) (by omega) (fun k hk => by omega) (fun _ _ _ => rfl) rfl
/-- the leaf: a whole row -/
theorem near_leaf {N n dd : Nat} {sz : Nat → Int} {M : Mem} {w : Nat → Nat} {a : Acn} (hn : n ≤ 6) (hn1 : 0 < n) (hz : ∀ k, k < 7 → 0 ≤ sz k ∧ sz k ≤ 20) (hN : 2000 < N) (h8 : M.1 34 8 = I n) (hJ : Jn M sz n w) (hA : AccM n M a) : ∃ M', f_X7_goesOn N (dd + 1) M (I n) 1 = some M' ∧ KpS Xne n M M' ∧ AccM n M' (lfn (wf sz w n) w a) := by
  have hd := wf_d sz w n
  have hB := (wf_b hz n (fun k hk => (hJ.2 k hk).2)).le (b := 960) (by omega)
  have gb := g_b hB
  obtain ⟨j1, j2⟩ := hJ.1 n (Nat.le_refl n)
  obtain ⟨x, x1, x2⟩ := mclosed (N := N) (n := n) (s := wf sz w n) (by omega) h8 (hJ.1 0 (by omega)).1 j1 j2 hB hd hN
  have e : f_X7_goesOn N (dd + 1) M (I n) 1 = bd (f_X7_nears N M) fun M47 => some M47 := by
    show (if I n = M.1 34 8 then _ else _) = _
    rw [if_pos h8.symm, if_neg (show ¬ (1 : Int32) = 0 by decide), if_pos rfl]
  rw [e]
  unfold f_X7_nears
  rw [h8, I_5, I_4, I_mul, I_add]
  simp only [ck]
  rw [if_pos (show inb (I ((5 : Int) * n + 4)) 125 by rw [I_inb] <;> omega), I_ix (by omega) (by omega), show ((5 : Int) * n + 4).toNat = 5 * n + 4 by omega, j2]
  have same : lfn (wf sz w n) w a = a → ∃ M', some M = some M' ∧ KpS Xne n M M' ∧ AccM n M' (lfn (wf sz w n) w a) := fun h => ⟨M, rfl, KpS.rf, by rw [h]; exact hA⟩
  by_cases c0 : (wf sz w n).2 = 0
  · rw [if_pos (by rw [c0]; rfl), x2]
    simp only [bd2]
    rcases x1 with ⟨rfl, hc⟩ | ⟨rfl, hc⟩
    · rw [if_neg (show ¬ (1 : Int32) = 0 by decide)]
      exact same (by unfold lfn; exact if_neg (fun h => h.2 hc.2.1))
    · have hne : (wf sz w n).1 ≠ (0, 0, 0, 0) := fun h => hc ⟨hn1, h, c0⟩
      have el : lfn (wf sz w n) w a = lkp (wf sz w n).1 w a := by rw [lfn_lkp, if_pos ⟨c0, hne⟩]
      rw [if_pos rfl]
      -- the row becomes the best one
      have hup : ∃ M', l_X7_nears_87 N N (seI (seI (seI M 34 17 1) 34 19 (I (gW (wf sz w n).1))) 34 20 (I (gR (wf sz w n).1))) 0 = some M' ∧ KpS Xne n M M' ∧ AccM n M' (some (w, (wf sz w n).1)) := by
        obtain ⟨M', f1, f2, f3, f4⟩ := nears_fill (N := N) (n := n) (M0 := seI (seI (seI M 34 17 1) 34 19 (I (gW (wf sz w n).1))) 34 20 (I (gR (wf sz w n).1))) hn (by simp [seI_1]; exact h8) hN
        refine ⟨M', f1, ⟨fun a b h1 h2 h3 h4 => ?_, by rw [f4, seI_2, seI_2, seI_2], fun b hb => ?_, fun b hb => ?_⟩, ?_, ?_, ?_, ?_, hB, fun k hk => ?_⟩
        · have n44 : a ≠ 44 := by rintro rfl; cases h4
          have n1 : ¬ (a = 34 ∧ b = 17) := by rintro ⟨rfl, rfl⟩; cases h4
          have n2 : ¬ (a = 34 ∧ b = 19) := by rintro ⟨rfl, rfl⟩; cases h4
          have n3 : ¬ (a = 34 ∧ b = 20) := by rintro ⟨rfl, rfl⟩; cases h4
          rw [f3 a b n44, seI_1, if_neg n3, seI_1, if_neg n2, seI_1, if_neg n1]
        · rw [f3 39 b (by decide), seI_ne (by decide), seI_ne (by decide), seI_ne (by decide)]
        · rw [f3 40 b (by decide), seI_ne (by decide), seI_ne (by decide), seI_ne (by decide)]
        · rw [f3 34 23 (by decide)]
          simp only [seI_1]
          cases a with
          | none => exact hA.1
          | some b => exact hA.1
        · rw [f3 34 17 (by decide)]; simp [seI_1]
        · rw [f3 34 19 (by decide)]; simp [seI_1]
        · rw [f3 34 20 (by decide)]; simp [seI_1]
        · rw [f2 k hk, seI_ne (by decide), seI_ne (by decide), seI_ne (by decide)]
          exact hJ.2 k hk
      have ga : ∀ (M1 : Mem) (q : Int32), M1.1 34 8 = I n → M1.1 39 = M.1 39 → f_X7_gapOf N M1 q = some (if q = 0 then I (gW (wf sz w n).1) else I (gR (wf sz w n).1), M1) := fun M1 q h1 h2 => gapOf_s (by omega) h1 (j1.cg (fun b _ => by rw [h2]))
      have s17 : ∀ v, (seI M 34 17 v).1 34 8 = I n := fun v => by simp [seI_1]; exact h8
      have s19 : ∀ v u, (seI (seI M 34 17 v) 34 19 u).1 34 8 = I n := fun v u => by simp [seI_1]; exact h8
      have g1 := ga (seI M 34 17 1) 0 (s17 1) (by rw [seI_ne (by decide)])
      have g2 := ga (seI (seI M 34 17 1) 34 19 (I (gW (wf sz w n).1))) 1 (s19 _ _) (by rw [seI_ne (by decide), seI_ne (by decide)])
      rw [if_pos rfl] at g1
      rw [if_neg (by decide)] at g2
      obtain ⟨M', u1, u2, u3⟩ := hup
      rw [el]
      cases a with
      | none =>
        rw [if_pos (show M.1 34 17 ≤ 0 by rw [hA.2]; decide)]
        simp only [nm]
        rw [g1]
        simp only []
        rw [g2]
        simp only []
        rw [u1]
        exact ⟨M', rfl, u2, u3⟩
      | some b =>
        obtain ⟨a0, a1, a2, a3, a4, a5⟩ := hA
        have gb' := g_b a4
        have g3 := ga M 0 h8 rfl
        have g4 := ga M 1 h8 rfl
        rw [if_pos rfl] at g3
        rw [if_neg (by decide)] at g4
        obtain ⟨r, r1, r2⟩ := gv_lt (N := N) hB a4 M
        rw [if_neg (show ¬ M.1 34 17 ≤ 0 by rw [a1]; decide), g3]
        simp only []
        rw [g4]
        simp only []
        rw [a2, a3, IJ (by omega) (by omega), IJ (by omega) (by omega), IJ (by omega) (by omega), IJ (by omega) (by omega), J_sub, J_sub, r1]
        simp only []
        show ∃ M', _ = some M' ∧ KpS Xne n M M' ∧ AccM n M' (if gval (wf sz w n).1 < gval b.2 then some (w, (wf sz w n).1) else some b)
        by_cases c : gval (wf sz w n).1 < gval b.2
        · rw [if_pos (r2.mpr c), if_pos c]
          simp only [nm]
          rw [g1]
          simp only []
          rw [g2]
          simp only []
          rw [u1]
          exact ⟨M', rfl, u2, u3⟩
        · rw [if_neg (fun h => c (r2.mp h)), if_neg c]
          exact ⟨M, rfl, KpS.rf, a0, a1, a2, a3, a4, a5⟩
  · rw [if_neg (by rw [I_0, I_eq] <;> omega)]
    exact same (by unfold lfn; exact if_neg (fun h => c0 h.1))
theorem mnear {N n : Nat} {sz lf : Nat → Int} {M : Mem} (hn : n ≤ 6) (hn1 : 0 < n) (hz : ∀ k, k < 7 → 0 ≤ sz k ∧ sz k ≤ 20) (hN : 2000 < N) (h8 : M.1 34 8 = I n) (hs : Szm M sz) (hJ : ∀ w, Jn M sz 0 w) (hL : Lft M 41 lf) (h23 : M.1 34 23 = 0) (h17 : M.1 34 17 = 0) (w : Nat → Nat) :
    ∃ M', f_X7_goesOn N 12 M 0 1 = some M' ∧ KpS Xne 0 M M' ∧ AccM n M' (mnr sz n 0 w0 w lf none) := by
  have h := msearch (A := Acn) (N := N) (n := n) (t := 1) (sz := sz) (st := fun _ => false) (leaf := lfn) (X := Xne) (E := fun M => M.1 34 8 = I n ∧ Szm M sz) (RA := AccM n) (by decide) hn hz hN (fun _ => rfl) (fun _ => rfl) (fun _ => rfl) (fun _ => rfl) rfl rfl (fun M h => h)
    (fun M M' h hk => ⟨by rw [hk 34 8 (by decide) (by decide) (by decide) (by decide) rfl]; exact h.1, fun k hk' => by rw [hk 36 _ (by decide) (by decide) (by decide) (by omega) rfl]; exact h.2 k hk'⟩)
    (fun M M' a h hk => h.kp hk) (fun M a h => by cases a <;> exact h.1)
    (fun dd M w a hE hJ hA _ => near_leaf hn hn1 hz hN hE.1 hJ hA) n 12 0 M w lf none (by omega) (by omega) ⟨h8, hs⟩ (hJ w) hL ⟨h23, h17⟩ rfl
  exact h
