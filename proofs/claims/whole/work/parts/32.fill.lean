/-! Part 32: loops that write an array; image -/
def wrI (M : Mem) (k : Nat) (f : Nat → Int32) : Mem := (fun a b => if a = k then f b else M.1 a b, M.2)
theorem wrI_1 {M : Mem} {k a b : Nat} {f : Nat → Int32} : (wrI M k f).1 a b = if a = k then f b else M.1 a b := rfl
theorem wrI_2 {M : Mem} {k : Nat} {f : Nat → Int32} : (wrI M k f).2 = M.2 := rfl
theorem wrI_s {M : Mem} {k : Nat} {f : Nat → Int32} : (wrI M k f).1 k = f := by funext b; simp [wrI_1]
theorem wrI_ne {M : Mem} {k a : Nat} {f : Nat → Int32} (h : a ≠ k) : (wrI M k f).1 a = M.1 a := by funext b; simp [wrI_1, h]
theorem KpR.W {r : Nat → Nat → Bool} {M M' : Mem} {k : Nat} {f : Nat → Int32} (h0 : KpR r M M') (h : ∀ i, r k i = false) : KpR r M (wrI M' k f) := by
  refine ⟨fun a b hb => ?_, h0.2⟩
  rw [wrI_1, if_neg]
  · exact h0.1 a b hb
  · rintro rfl
    rw [h] at hb
    cases hb
/-- a loop that writes places 0 .. n1 - 1 of an array, one after the other -/
theorem fillG {R : Type} (k n1 : Nat) (src : Nat → Int32) (M0 : Mem) (g : Nat → Mem → Int32 → Option R) (fin : Mem → Option R) (hstop : ∀ n M, g (n + 1) M (I n1) = fin M)
    (hstep : ∀ n M (j : Nat), j < n1 → (∀ a b, (a ≠ k ∨ j ≤ b) → M.1 a b = M0.1 a b) → M.2 = M0.2 → g (n + 1) M (I j) = g n (seI M k j (src j)) (I (j + 1 : Nat))) :
    ∀ (n j : Nat) (M : Mem), j ≤ n1 → n1 - j < n → (∀ a b, (a ≠ k ∨ j ≤ b) → M.1 a b = M0.1 a b) → M.2 = M0.2 → g n M (I j) = fin (wrI M k (fun i => if j ≤ i ∧ i < n1 then src i else M.1 k i)) := by
  intro n
  induction n with
  | zero => intro j M _ h; omega
  | succ n ih =>
    intro j M h1 h2 h3 h4
    by_cases e : j = n1
    · subst e
      rw [hstop]
      congr 1
      apply Prod.ext
      · funext a b
        rw [wrI_1]
        split
        · rename_i ha
          subst ha
          rw [if_neg (by omega)]
        · rfl
      · rfl
    · rw [hstep n M j (by omega) h3 h4, ih (j + 1) (seI M k j (src j)) (by omega) (by omega) (fun a b hab => ?_) h4]
      · congr 1
        apply Prod.ext
        · funext a b
          rw [wrI_1, wrI_1]
          by_cases ha : a = k
          · subst ha
            rw [if_pos rfl, if_pos rfl, seI_1]
            by_cases hb : b = j
            · subst hb
              rw [if_neg (by omega), if_pos ⟨rfl, rfl⟩, if_pos (by omega)]
            · rw [if_neg (show ¬ (a = a ∧ b = j) by omega)]
              by_cases hc : j + 1 ≤ b ∧ b < n1
              · rw [if_pos hc, if_pos (by omega)]
              · rw [if_neg hc, if_neg (by omega)]
          · rw [if_neg ha, if_neg ha, seI_1, if_neg (by omega)]
        · rfl
      · rw [seI_1, if_neg (by omega)]
        exact h3 a b (by omega)
theorem fillL {R : Type} (k n1 : Nat) (src : Nat → Int32) (M0 : Mem) (g : Nat → Mem → Int32 → Option R) (fin : Mem → Option R) (hstop : ∀ n M, g (n + 1) M (I n1) = fin M)
    (hstep : ∀ n M (j : Nat), j < n1 → (∀ a b, (a ≠ k ∨ j ≤ b) → M.1 a b = M0.1 a b) → M.2 = M0.2 → g (n + 1) M (I j) = g n (seI M k j (src j)) (I (j + 1 : Nat))) (n : Nat) (hn : n1 < n) :
    g n M0 0 = fin (wrI M0 k (fun i => if i < n1 then src i else M0.1 k i)) := by
  have h := fillG k n1 src M0 g fin hstop hstep n 0 M0 (Nat.zero_le _) (by omega) (fun _ _ _ => rfl) rfl
  show g n M0 (I 0) = _
  simpa using h
theorem copyAll_s {sh : Nat → Shp} {N a0 a1 n0 n1 : Nat} {M : Mem} (h0 : iaL sh a0 = some n0) (h1 : iaL sh a1 = some n1) (ha : a0 ≠ a1) (ha1 : a1 < 45) (hn0 : n0 ≤ 2000) (hn1 : n1 ≤ n0) (hN : 2000 < N) :
    f_X6_copyAll sh N M a0 a1 = some (wrI M a1 (fun i => if i < n1 then M.1 a0 i else M.1 a1 i)) := by
  unfold f_X6_copyAll
  rw [fillL a1 n1 (fun i => M.1 a0 i) M (fun n M v => l_X6_copyAll_2 sh N a0 a1 n M v) some]
  · intro n M'
    rw [l_X6_copyAll_2, h1]
    simp only [bd]
    rw [I_nat, if_pos (by rw [I_le] <;> omega)]
  · intro n M' j hj hM _
    rw [l_X6_copyAll_2, h1]
    simp only [bd]
    rw [I_nat, if_neg (by rw [I_le] <;> omega), at_in h0 hn0 (by omega) (by omega)]
    simp only [bd2, ck, nm]
    rw [if_pos (show inb (I j) n1 by rw [I_inb] <;> omega), if_pos ha1, I_ix (by omega) (by omega), I_1, I_add]
    simp only [Int.toNat_natCast]
    rw [hM a0 j (Or.inl ha)]
    rfl
  · omega
theorem becomes8_s {N a0 n0 n : Nat} {M : Mem} (h0 : iaL shp a0 = some n0) (hn0 : n0 ≤ 2000) (hn : n ≤ n0) (hn2 : n ≤ 24) (ha : a0 ≠ 11) (hN : 2000 < N) :
    f_X0_becomes_8 N M a0 (I n) = some (seI (wrI M 11 (fun i => if i < n then M.1 a0 i else M.1 11 i)) 8 3 (I n)) := by
  unfold f_X0_becomes_8
  rw [fillL 11 n (fun i => M.1 a0 i) M (fun n' M v => l_X0_becomes_8_2 N a0 n' M (I n) v) (fun M => some (seI M 8 3 (I n)))]
  · intro n' M'
    rw [l_X0_becomes_8_2, if_pos (by rw [I_le] <;> omega)]
    rfl
  · intro n' M' j hj hM _
    rw [l_X0_becomes_8_2, if_neg (by rw [I_le] <;> omega), at_in h0 hn0 (by omega) (by omega)]
    simp only [bd2]
    rw [put_in (n := 24) rfl (by decide) (by decide) (by omega) (by omega)]
    simp only [bd]
    rw [I_1, I_add]
    simp only [Int.toNat_natCast]
    rw [hM a0 j (Or.inl ha)]
    rfl
  · omega
theorem becomes_s {N a0 n0 n : Nat} {M : Mem} (h0 : iaL shp a0 = some n0) (hn0 : n0 ≤ 2000) (hn : n ≤ n0) (hn2 : n ≤ 24) (ha : a0 ≠ 4) (hN : 2000 < N) :
    f_X0_becomes N M a0 (I n) = some (seI (wrI M 4 (fun i => if i < n then M.1 a0 i else M.1 4 i)) 1 3 (I n)) := by
  unfold f_X0_becomes
  rw [fillL 4 n (fun i => M.1 a0 i) M (fun n' M v => l_X0_becomes_2 N a0 n' M (I n) v) (fun M => some (seI M 1 3 (I n)))]
  · intro n' M'
    rw [l_X0_becomes_2, if_pos (by rw [I_le] <;> omega)]
    rfl
  · intro n' M' j hj hM _
    rw [l_X0_becomes_2, if_neg (by rw [I_le] <;> omega), at_in h0 hn0 (by omega) (by omega)]
    simp only [bd2]
    rw [put_in (n := 24) rfl (by decide) (by decide) (by omega) (by omega)]
    simp only [bd]
    rw [I_1, I_add]
    simp only [Int.toNat_natCast]
    rw [hM a0 j (Or.inl ha)]
    rfl
  · omega
