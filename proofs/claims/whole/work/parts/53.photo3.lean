/-! Part 53: photo: the box laid out, the turns' sum -/
theorem begins_s {N n : Nat} {M : Mem} (hN : 2000 < N) : ∃ M', f_X7_begins N M (I n) = some M' ∧ M'.1 34 8 = I n ∧ (∀ k, k < 7 → M'.1 41 k = M.1 36 k) ∧ (∀ a b, a ≠ 41 → ¬ (a = 34 ∧ b = 8) → M'.1 a b = M.1 a b) ∧ M'.2 = M.2 := by
  have key : ∀ (r j n' : Nat) (M1 : Mem), j + r = 7 → r < n' → (∀ b, M1.1 36 b = M.1 36 b) → (∀ k, k < j → M1.1 41 k = M.1 36 k) → ∃ M', l_X7_begins_7 N n' M1 (I j) = some M' ∧ (∀ k, k < 7 → M'.1 41 k = M.1 36 k) ∧ (∀ a b, a ≠ 41 → M'.1 a b = M1.1 a b) ∧ M'.2 = M1.2 := by
    intro r
    induction r with
    | zero =>
      intro j n' M1 h1 h2 h3 h4
      obtain ⟨n', rfl⟩ : ∃ q, n' = q + 1 := ⟨n' - 1, by omega⟩
      obtain rfl : j = 7 := by omega
      exact ⟨M1, by rw [l_X7_begins_7, if_pos (by decide)], h4, fun _ _ _ => rfl, rfl⟩
    | succ r ih =>
      intro j n' M1 h1 h2 h3 h4
      obtain ⟨n', rfl⟩ : ∃ q, n' = q + 1 := ⟨n' - 1, by omega⟩
      obtain ⟨M', q1, q2, q3, q4⟩ := ih (j + 1) n' (seI M1 41 j (M1.1 36 j)) (by omega) (by omega) (fun b => by rw [seI_ne (by decide)]; exact h3 b) (fun k hk => by
        rw [seI_1]
        by_cases e : k = j
        · rw [if_pos ⟨rfl, e⟩, e]; exact h3 j
        · rw [if_neg (by omega)]; exact h4 k (by omega))
      refine ⟨M', ?_, q2, fun a b ha => by rw [q3 a b ha, seI_ne ha], by rw [q4, seI_2]⟩
      rw [l_X7_begins_7, if_neg (by rw [I_7, I_le] <;> omega)]
      simp only [ck, nm]
      rw [if_pos (show inb (I j) 56 by rw [I_inb] <;> omega), if_pos (show inb (I j) 7 by rw [I_inb] <;> omega), I_ix (by omega) (by omega), Int.toNat_natCast, I_1, I_add]
      exact q1
  obtain ⟨M', q1, q2, q3, q4⟩ := key 7 0 N (seI M 34 8 (I n)) rfl (by omega) (fun b => by rw [seI_ne (by decide)]) (fun k hk => by omega)
  refine ⟨M', ?_, by rw [q3 34 8 (by decide)]; simp [seI_1], q2, fun a b h1 h2 => by rw [q3 a b h1, seI_1, if_neg h2], by rw [q4, seI_2]⟩
  unfold f_X7_begins
  simp only [nm]
  exact q1
def sumt (tt : Nat → Int) : Nat → Nat → Int
  | _, 0 => 0
  | i, r + 1 => tt i + sumt tt (i + 1) r
theorem dn_mod : ∀ d : Nat, d < 8 → ∀ l : Nat, l < 10 → (dn d l : Int) = (d + tn l) % 8 := by decide +kernel
theorem suml_0 (f : Nat → Nat) : ∀ j, (∀ l, l < j → f l = 0) → suml f j = 0
  | 0, _ => rfl
  | j + 1, h => by
    unfold suml
    rw [suml_0 f j (fun l hl => h l (by omega)), h j (by omega)]
theorem cntw_0 {sz tt : Nat → Int} : ∀ (r i : Nat) (s : Pl × Nat) (lf : Nat → Int), s.2 < 8 → ((s.2 : Int) + sumt tt i r) % 8 ≠ 0 → cntw sz tt r i s lf = 0
  | 0, i, s, lf, hd, h => by
    unfold cntw
    rw [if_neg]
    intro h'
    rw [h'.2] at h
    exact h rfl
  | r + 1, i, s, lf, hd, h => by
    unfold cntw
    refine suml_0 _ 10 (fun l hl => ?_)
    by_cases c : tn l = tt i ∧ 0 < lf (kd l)
    · rw [if_pos c]
      refine cntw_0 r (i + 1) _ _ (dn_lt _ _) ?_
      show ((dn s.2 l : Int) + sumt tt (i + 1) r) % 8 ≠ 0
      rw [dn_mod s.2 hd l hl, c.1]
      have e : sumt tt i (r + 1) = tt i + sumt tt (i + 1) r := rfl
      rw [e] at h
      omega
    · rw [if_neg c]
