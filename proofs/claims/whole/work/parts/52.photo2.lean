/-! Part 52: photo, the reference's recursion -/
/-- what laying from piece i on leaves as it was -/
def KpG (i : Nat) (M M' : Mem) : Prop := (∀ a b, a ≠ 39 → a ≠ 40 → ¬ (a = 34 ∧ (b = 9 ∨ b = 10 ∨ b = 18)) → M'.1 a b = M.1 a b) ∧ M'.2 = M.2 ∧ (∀ b, b < 5 * (i + 1) → M'.1 39 b = M.1 39 b) ∧ ∀ b, b < i → M'.1 40 b = M.1 40 b
theorem KpG.rf {i : Nat} {M : Mem} : KpG i M M := ⟨fun _ _ _ _ _ => rfl, rfl, fun _ _ => rfl, fun _ _ => rfl⟩
theorem KpG.tr {i : Nat} {M M' M'' : Mem} (h : KpG i M M') (h' : KpG i M' M'') : KpG i M M'' :=
  ⟨fun a b h1 h2 h3 => (h'.1 a b h1 h2 h3).trans (h.1 a b h1 h2 h3), h'.2.1.trans h.2.1, fun b hb => (h'.2.2.1 b hb).trans (h.2.2.1 b hb), fun b hb => (h'.2.2.2 b hb).trans (h.2.2.2 b hb)⟩
def Szm (M : Mem) (sz : Nat → Int) : Prop := ∀ k, k < 7 → M.1 36 (7 + k) = I (sz k)
theorem mturns {N n : Nat} {sz tt : Nat → Int} (hn : n ≤ 6) (hn1 : 0 < n) (hz : ∀ k, k < 7 → 0 ≤ sz k ∧ sz k ≤ 20) (ht : ∀ i, i < n → -2 ≤ tt i ∧ tt i ≤ 2) (hN : 2000 < N) : ∀ (r dd i a : Nat) (M : Mem) (s : Pl × Nat) (lf : Nat → Int), i + r = n → r < dd → Szm M sz → M.1 34 8 = I n → M.1 34 23 = 0 → M.1 34 18 = I a → (∀ i, i < n → M.1 42 i = I (tt i)) → Lft M 41 lf → At M 0 (0, 0, 0, 0) → At M (5 * i) s.1 → M.1 39 (5 * i + 4) = I s.2 → PB s.1 (40 * i) → s.2 < 8 →
    ∃ M', f_X7_goesOn N dd M (I i) 2 = some M' ∧ KpG i M M' ∧ M'.1 34 18 = I ((a + cntw sz tt r i s lf : Nat)) := by
  intro r
  induction r with
  | zero =>
    intro dd i a M s lf h1 h2 hs h8 h23 h18 h42 hL h0 hA hd4 hB hd
    obtain ⟨dd, rfl⟩ : ∃ q, dd = q + 1 := ⟨dd - 1, by omega⟩
    obtain rfl : i = n := by omega
    obtain ⟨x, x1, x2⟩ := mclosed (N := N) (n := i) (s := s) (by omega) h8 h0 hA hd4 (hB.le (by omega)) hd hN
    have e : f_X7_goesOn N (dd + 1) M (I i) 2 = if x = 0 then some (seI M 34 18 (M.1 34 18 + 0)) else some (seI M 34 18 (M.1 34 18 + 1)) := by
      show (if I i = M.1 34 8 then _ else _) = _
      rw [if_pos h8.symm, if_neg (show ¬ (2 : Int32) = 0 by decide), if_neg (show ¬ (2 : Int32) = 1 by decide), x2]
      rfl
    rw [e]
    unfold cntw
    rcases x1 with ⟨rfl, h⟩ | ⟨rfl, h⟩
    · rw [if_neg (show ¬ (1 : Int32) = 0 by decide), if_pos h.2, h18, I_1, I_add]
      exact ⟨_, rfl, ⟨fun a b h1 h2 h3 => by rw [seI_1, if_neg (by omega)], rfl, fun b hb => by rw [seI_ne (by decide)], fun b hb => by rw [seI_ne (by decide)]⟩, by simp [seI_1]⟩
    · rw [if_pos rfl, if_neg (fun h' => h ⟨hn1, h'⟩), h18, I_0, I_add]
      exact ⟨_, rfl, ⟨fun a b h1 h2 h3 => by rw [seI_1, if_neg (by omega)], rfl, fun b hb => by rw [seI_ne (by decide)], fun b hb => by rw [seI_ne (by decide)]⟩, by simp [seI_1]⟩
  | succ r ih =>
    intro dd i a M s lf h1 h2 hs h8 h23 h18 h42 hL h0 hA hd4 hB hd
    obtain ⟨dd, rfl⟩ : ∃ q, dd = q + 1 := ⟨dd - 1, by omega⟩
    have e : f_X7_goesOn N (dd + 1) M (I i) 2 = l_X7_goesOn_55 N (f_X7_goesOn N dd) N M (I i) 2 (I (0 : Nat)) := by
      show (if I i = M.1 34 8 then _ else _) = _
      rw [if_neg (show ¬ I i = M.1 34 8 by rw [h8, I_eq] <;> omega)]
      rfl
    rw [e]
    unfold cntw
    generalize hf : (fun l => if tn l = tt i ∧ 0 < lf (kd l) then cntw sz tt r (i + 1) (padd s.1 (stp sz l s.2), dn s.2 l) (updl lf (kd l) (lf (kd l) - 1)) else 0) = f
    have key : ∀ (q l n' : Nat) (M1 : Mem), l + q = 10 → q < n' → KpG i M M1 → M1.1 34 18 = I ((a + suml f l : Nat)) → ∃ M', l_X7_goesOn_55 N (f_X7_goesOn N dd) n' M1 (I i) 2 (I l) = some M' ∧ KpG i M M' ∧ M'.1 34 18 = I ((a + suml f 10 : Nat)) := by
      intro q
      induction q with
      | zero =>
        intro l n' M1 g1 g2 g3 g4
        obtain ⟨n', rfl⟩ : ∃ q, n' = q + 1 := ⟨n' - 1, by omega⟩
        obtain rfl : l = 10 := by omega
        exact ⟨M1, by rw [l_X7_goesOn_55, if_pos (by decide)], g3, g4⟩
      | succ q ihq =>
        intro l n' M1 g1 g2 g3 g4
        obtain ⟨n', rfl⟩ : ∃ q, n' = q + 1 := ⟨n' - 1, by omega⟩
        have hl : l < 10 := by omega
        have hk := kd_lt l hl
        obtain ⟨b1, b2⟩ := ht i (by omega)
        have bt := tn_b l hl
        obtain ⟨k1, k2, k3⟩ := hL (kd l) hk
        have el : I l + 1 = I (l + 1 : Nat) := by rw [I_1, I_add]; rfl
        have m41 : M1.1 41 (kd l) = I (lf (kd l)) := (g3.1 41 _ (by decide) (by decide) (by omega)).trans k1
        have ik : inb (I (kd l)) 7 := by rw [I_inb] <;> omega
        have xk : ix (I (kd l)) = kd l := by rw [I_ix (by omega) (by omega)]; omega
        have i6 : inb (I i) 6 := by rw [I_inb] <;> omega
        have i24 : inb (I i) 24 := by rw [I_inb] <;> omega
        have xi : ix (I i) = i := by rw [I_ix (by omega) (by omega)]; omega
        have stepE : l_X7_goesOn_55 N (f_X7_goesOn N dd) (n' + 1) M1 (I i) 2 (I l) = if M1.1 41 (kd l) = 0 then l_X7_goesOn_55 N (f_X7_goesOn N dd) n' M1 (I i) 2 (I (l + 1 : Nat)) else if I (tn l) = M1.1 42 i then
            bd (f_X7_lays N (seI (seI M1 41 (kd l) (M1.1 41 (kd l) - 1)) 40 i (I l)) (I i)) fun M32 => bd (f_X7_goesOn N dd M32 (I i + 1) 2) fun M34 => l_X7_goesOn_55 N (f_X7_goesOn N dd) n' (seI M34 41 (kd l) (M34.1 41 (kd l) + 1)) (I i) 2 (I (l + 1 : Nat)) else l_X7_goesOn_55 N (f_X7_goesOn N dd) n' M1 (I i) 2 (I (l + 1 : Nat)) := by
          rw [l_X7_goesOn_55, if_neg (show ¬ (10 : Int32) ≤ I l by rw [I_10, I_le] <;> omega), if_pos (show M1.1 34 23 = 0 by rw [g3.1 34 23 (by decide) (by decide) (by omega)]; exact h23), kindOf_s hl]
          simp only [bd2, ck, nm, if_pos ik, if_pos i6, if_pos i24, xk, xi, el]
          rw [turnOf_s hl, if_pos trivial] <;> rfl
        rw [stepE]
        have m42 : M1.1 42 i = I (tt i) := (g3.1 42 _ (by decide) (by decide) (by omega)).trans (h42 i (by omega))
        by_cases c : tn l = tt i ∧ 0 < lf (kd l)
        · have fl : f l = cntw sz tt r (i + 1) (padd s.1 (stp sz l s.2), dn s.2 l) (updl lf (kd l) (lf (kd l) - 1)) := by rw [← hf]; exact if_pos c
          rw [if_neg (show ¬ M1.1 41 (kd l) = 0 by rw [m41, I_0, I_eq] <;> omega), if_pos (show I (tn l) = M1.1 42 i by rw [m42, c.1]), m41, I_1, I_sub]
          have hA1 : At (seI (seI M1 41 (kd l) (I (lf (kd l) - 1))) 40 i (I l)) (5 * i) s.1 := by
            unfold At at hA ⊢
            rw [seI_ne (by decide), seI_ne (by decide), g3.2.2.1 _ (by omega), g3.2.2.1 _ (by omega), g3.2.2.1 _ (by omega), g3.2.2.1 _ (by omega)]
            exact hA
          obtain ⟨M2, p1, p2, p3, p4⟩ := lays_s (N := N) (p := i) (l := l) (d := s.2) (M := seI (seI M1 41 (kd l) (I (lf (kd l) - 1))) 40 i (I l)) (z := sz (kd l)) (by omega) hl hd (hz _ hk).1 (hz _ hk).2 (by simp [seI_1]) (by rw [seI_ne (by decide), seI_ne (by decide), g3.1 36 _ (by decide) (by decide) (by omega)]; exact hs _ hk) hA1 (by rw [seI_ne (by decide), seI_ne (by decide), g3.2.2.1 _ (by omega)]; exact hd4) hN
          have k12 : ∀ a b, a ≠ 39 → a ≠ 40 → a ≠ 41 → ¬ (a = 34 ∧ (b = 9 ∨ b = 10)) → M2.1 a b = M1.1 a b := fun a b q1 q2 q3 q4 => by rw [p4.1 a b q1 q4, seI_ne q2, seI_ne q3]
          have k39 : ∀ b, b < 5 * (i + 1) → M2.1 39 b = M1.1 39 b := fun b hb => by rw [p4.2.2 b (by omega), seI_ne (by decide), seI_ne (by decide)]
          have k41 : ∀ b, M2.1 41 b = (seI M1 41 (kd l) (I (lf (kd l) - 1))).1 41 b := fun b => by rw [p4.1 41 b (by decide) (by omega), seI_ne (by decide)]
          have hL1 : Lft M1 41 lf := fun k hk => ⟨(g3.1 41 k (by decide) (by decide) (by omega)).trans (hL k hk).1, (hL k hk).2⟩
          have hL2 : Lft M2 41 (updl lf (kd l) (lf (kd l) - 1)) := fun k hk => ⟨(k41 k).trans (hL1.dec c.2 k hk).1, (hL1.dec c.2 k hk).2⟩
          have h0' : At M2 0 (0, 0, 0, 0) := by
            unfold At at h0 ⊢
            rw [k39 _ (by omega), k39 _ (by omega), k39 _ (by omega), k39 _ (by omega), g3.2.2.1 _ (by omega), g3.2.2.1 _ (by omega), g3.2.2.1 _ (by omega), g3.2.2.1 _ (by omega)]
            exact h0
          obtain ⟨M3, r1, r2, r3⟩ := ih dd (i + 1) (a + suml f l) M2 (padd s.1 (stp sz l s.2), dn s.2 l) (updl lf (kd l) (lf (kd l) - 1)) (by omega) (by omega) (fun k hk => by rw [k12 36 _ (by decide) (by decide) (by decide) (by omega), g3.1 36 _ (by decide) (by decide) (by omega)]; exact hs k hk) (by rw [k12 34 8 (by decide) (by decide) (by decide) (by omega), g3.1 34 8 (by decide) (by decide) (by omega)]; exact h8) (by rw [k12 34 23 (by decide) (by decide) (by decide) (by omega), g3.1 34 23 (by decide) (by decide) (by omega)]; exact h23) (by rw [k12 34 18 (by decide) (by decide) (by decide) (by omega)]; exact g4) (fun k hk => by rw [k12 42 k (by decide) (by decide) (by decide) (by omega), g3.1 42 k (by decide) (by decide) (by omega)]; exact h42 k hk) hL2 h0' p2 p3 (hB.step hz hl hd) (dn_lt _ _)
          have m3 : M3.1 41 (kd l) = I (lf (kd l) - 1) := by rw [r2.1 41 _ (by decide) (by decide) (by omega), k41, seI_1, if_pos ⟨rfl, rfl⟩]
          obtain ⟨M', t1, t2, t3⟩ := ihq (l + 1) n' (seI M3 41 (kd l) (I (lf (kd l)))) (by omega) (by omega) ⟨fun x b q1 q2 q3 => by
              by_cases e41 : x = 41
              · subst e41
                rw [seI_1]
                by_cases eb : b = kd l
                · rw [if_pos ⟨rfl, eb⟩, eb, k1]
                · rw [if_neg (by omega), r2.1 41 _ (by decide) (by decide) (by omega), k41, seI_1, if_neg (by omega), g3.1 41 _ (by decide) (by decide) (by omega)]
              · rw [seI_ne e41, r2.1 x b q1 q2 q3, k12 x b q1 q2 e41 (by omega)]; exact g3.1 x b q1 q2 q3,
            by rw [seI_2, r2.2.1, p4.2.1, seI_2, seI_2]; exact g3.2.1,
            fun b hb => by rw [seI_ne (by decide), r2.2.2.1 b (by omega), k39 b hb]; exact g3.2.2.1 b hb,
            fun b hb => by rw [seI_ne (by decide), r2.2.2.2 b (by omega), p4.1 40 b (by decide) (by omega), seI_1, if_neg (by omega), seI_ne (by decide)]; exact g3.2.2.2 b hb⟩ (by rw [seI_ne (by decide), r3, ← fl, Nat.add_assoc]; rfl)
          refine ⟨M', ?_, t2, t3⟩
          rw [p1]
          simp only [bd]
          rw [I_add, show (i : Int) + 1 = ((i + 1 : Nat) : Int) by omega, r1]
          simp only []
          rw [m3, I_add, show lf (kd l) - 1 + 1 = lf (kd l) by omega]
          exact t1
        · have fl : f l = 0 := by rw [← hf]; exact if_neg c
          obtain ⟨M', t1, t2, t3⟩ := ihq (l + 1) n' M1 (by omega) (by omega) g3 (by rw [g4, show suml f (l + 1) = suml f l + f l from rfl, fl, Nat.add_zero])
          refine ⟨M', ?_, t2, t3⟩
          by_cases c1 : lf (kd l) = 0
          · rw [if_pos (show M1.1 41 (kd l) = 0 by rw [m41, c1]; rfl)]; exact t1
          · rw [if_neg (show ¬ M1.1 41 (kd l) = 0 by rw [m41, I_0, I_eq] <;> omega), if_neg (show ¬ I (tn l) = M1.1 42 i by rw [m42, I_eq] <;> omega)]; exact t1
    exact key 10 0 N M rfl (by omega) KpG.rf h18
