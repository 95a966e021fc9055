/-! Part 43: both walks of THE ROW -/
def rTks (k j : Nat) : Bool := !(k == 40 || (k == 39 && Nat.ble 5 j) || (k == 34 && (j == 8 || j == 9 || j == 10)))
theorem rTks_39 {b : Nat} (h : rTks 39 b = true) : b < 5 := by
  rcases Nat.lt_or_ge b 5 with h1 | h1
  · exact h1
  · have e : Nat.ble 5 b = true := Nat.ble_eq.mpr h1
    simp [rTks, e] at h
theorem wf_psc (sz : Nat → Int) (w : Nat → Nat) (n : Nat) : wf sz w (n + 1) = (padd (wf sz w n).1 (psc (sz (kd (w n))) (cof (w n) (wf sz w n).2)), dn (wf sz w n).2 (w n)) := rfl
def Tks (M M' : Mem) (n : Nat) (w : Nat → Nat) (sz : Nat → Int) : Prop := KpR rTks M M' ∧ (∀ i, i ≤ n → At M' (5 * i) (wf sz w i).1 ∧ M'.1 39 (5 * i + 4) = I (wf sz w i).2) ∧ (∀ i, i < n → M'.1 40 i = I (w i))
theorem takes_s {N n : Nat} {M : Mem} {w : Nat → Nat} {sz : Nat → Int} (h55 : M.1 36 55 = I n) (hn : n ≤ 24) (hw : ∀ i, i < n → M.1 36 (31 + i) = I (w i) ∧ w i < 10) (hs : ∀ k, k < 7 → M.1 36 (7 + k) = I (sz k) ∧ 0 ≤ sz k ∧ sz k ≤ 20) (h0 : ∀ k, k < 5 → M.1 39 k = 0) (hN : 2000 < N) :
    ∃ M', f_X7_takes N M = some M' ∧ Tks M M' n w sz ∧ M'.1 34 8 = I n := by
  have key : ∀ (r j n' : Nat) (M1 : Mem), j + r = n → r < n' → Tks M M1 j w sz → M1.1 34 8 = I n → ∃ M', l_X7_takes_13 N n' M1 (I j) = some M' ∧ Tks M M' n w sz ∧ M'.1 34 8 = I n := by
    intro r
    induction r with
    | zero =>
      intro j n' M1 h1 h2 ht h8
      obtain ⟨n', rfl⟩ : ∃ q, n' = q + 1 := ⟨n' - 1, by omega⟩
      obtain rfl : j = n := by omega
      refine ⟨M1, ?_, ht, h8⟩
      rw [l_X7_takes_13, h8, if_pos (by rw [I_le] <;> omega)]
    | succ r ih =>
      intro j n' M1 h1 h2 ht h8
      obtain ⟨n', rfl⟩ : ∃ q, n' = q + 1 := ⟨n' - 1, by omega⟩
      obtain ⟨e1, e2⟩ := hw j (by omega)
      obtain ⟨t1, t2, t3⟩ := ht
      obtain ⟨a1, a2⟩ := t2 j (Nat.le_refl j)
      have hk := kd_lt (w j) e2
      obtain ⟨s1, s2, s3⟩ := hs (kd (w j)) hk
      have hA : At (seI M1 40 j (I (w j))) (5 * j) (wf sz w j).1 := by
        unfold At at a1 ⊢
        rw [seI_ne (by decide)]
        exact a1
      obtain ⟨M2, g1, g2, g3, g4⟩ := lays_s (N := N) (p := j) (M := seI M1 40 j (I (w j))) (by omega) e2 (wf_d sz w j) s2 s3 (by simp [seI_1]) (by rw [seI_ne (by decide), t1.1 36 _ rfl]; exact s1) hA (by rw [seI_ne (by decide)]; exact a2) hN
      have k2 : KpR rTks M M2 := by
        refine ⟨fun a b hb => ?_, fun a b hb => ?_⟩
        · rw [← t1.1 a b hb]
          by_cases e : a = 39
          · subst e
            have hb5 := rTks_39 hb
            rw [g4.2.2 b (by omega), seI_ne (by decide)]
          · simp [rTks] at hb
            rw [g4.1 a b e (by omega), seI_ne (by omega)]
        · rw [g4.2.1, seI_2]; exact t1.2 a b hb
      have k3 : Tks M M2 (j + 1) w sz := by
        refine ⟨k2, fun i hi => ?_, fun i hi => ?_⟩
        · by_cases e : i = j + 1
          · subst e
            exact ⟨g2, g3⟩
          · obtain ⟨b1, b2⟩ := t2 i (by omega)
            unfold At at b1 ⊢
            have f : ∀ b, b < 5 * (j + 1) → M2.1 39 b = M1.1 39 b := fun b hb => by rw [g4.2.2 b (by omega), seI_ne (by decide)]
            rw [f _ (by omega), f _ (by omega), f _ (by omega), f _ (by omega), f _ (by omega)]
            exact ⟨b1, b2⟩
        · rw [g4.1 40 i (by decide) (by omega), seI_1]
          by_cases e : i = j
          · subst e; rw [if_pos ⟨rfl, rfl⟩]
          · rw [if_neg (by omega)]; exact t3 i (by omega)
      obtain ⟨M', q⟩ := ih (j + 1) n' M2 (by omega) (by omega) k3 (by rw [g4.1 34 8 (by decide) (by omega), seI_ne (by decide), h8])
      refine ⟨M', ?_, q.2⟩
      rw [l_X7_takes_13, h8, if_neg (by rw [I_le] <;> omega)]
      simp only [ck, nm]
      rw [I_31, I_add, if_pos (show inb (I ((31 : Int) + j)) 56 by rw [I_inb] <;> omega), if_pos (show inb (I j) 24 by rw [I_inb] <;> omega), I_ix (by omega) (by omega), I_ix (by omega) (by omega), show ((31 : Int) + j).toNat = 31 + j by omega, Int.toNat_natCast, t1.1 36 _ rfl, e1, g1]
      simp only [bd]
      rw [I_1, I_add]
      exact q.1
  obtain ⟨M', q1, q2⟩ := key n 0 N (seI M 34 8 (I n)) (by omega) (by omega) ⟨KpR.rf.I rfl, fun i hi => by
    obtain rfl : i = 0 := by omega
    unfold At
    rw [seI_ne (by decide), h0 _ (by decide), h0 _ (by decide), h0 _ (by decide), h0 _ (by decide), h0 _ (by decide)]
    exact ⟨⟨rfl, rfl, rfl, rfl⟩, rfl⟩, fun i hi => by omega⟩ (by simp [seI_1])
  refine ⟨M', ?_, q2⟩
  unfold f_X7_takes
  simp only [nm]
  rw [show ix (55 : Int32) = 55 from rfl, h55]
  exact q1
theorem szf_b {M : Mem} (hR : RelI M) : ∀ k, k < 7 → 0 ≤ szf M k ∧ szf M k ≤ 20 := fun k hk => by
  have := (hR.2.1.2.1 k hk).2
  unfold Bd at this
  have e : M.1 (1 + 2) k = M.1 3 k := rfl
  rw [e] at this
  unfold szf
  omega
theorem kpR_kp {r : Nat → Nat → Bool} {M M' : Mem} (h : KpR r M M') (hr : ∀ k j, relv k j = true → r k j = true) : Kp M M' := ⟨fun k j hj => h.1 k j (hr k j hj), fun k j hj => h.2 k j (hr k j hj)⟩
theorem relv_fol : ∀ k j, relv k j = true → rFol k j = true := by
  intro k j h
  by_cases e : k = 17
  · subst e; cases h
  by_cases e2 : k = 20
  · subst e2; cases h
  by_cases e3 : k = 18
  · subst e3; have h : (j == 0) = true := h; simp [rFol, h]
  by_cases e4 : k = 19
  · subst e4; have h : (j == 0) = true := h; simp [rFol, h]
  simp [rFol, e, e2, e3, e4]
theorem relv_tks : ∀ k j, relv k j = true → rTks k j = true := by
  intro k j h
  by_cases e : k = 40
  · subst e; cases h
  by_cases e2 : k = 39
  · subst e2
    have h : Nat.blt j 5 = true := h
    have e5 : Nat.ble 5 j = false := by
      rw [Bool.eq_false_iff]
      intro h'
      have h2 := Nat.ble_eq.mp h'
      have h3 : Nat.ble (j + 1) 5 = true := h
      have h4 := Nat.ble_eq.mp h3
      omega
    simp [rTks, e5]
  by_cases e3 : k = 34
  · subst e3
    have h : (j == 3 || j == 5 || j == 21 || j == 23) = true := h
    simp at h
    simp [rTks]
    omega
  simp [rTks, e, e2, e3]
/-- both walks, from a good state -/
theorem follow_R {N n : Nat} {M : Mem} {w : Nat → Nat} (hR : RelI M) (hn : n ≤ 24) (hw : Rw M 4 n w) (hN : 2000 < N) : ∃ M', f_X5_follow N M 4 (I n) = some M' ∧ Fol M M' n w ∧ M'.1 17 4 = I n ∧ RelI M' := by
  obtain ⟨M', q1, q2, q3⟩ := follow_s (N := N) hR.1 hR.2.2.2.2.2.2.1 (Or.inl rfl) (n0 := 24) rfl (by decide) hn hn hw hN
  exact ⟨M', q1, q2, q3, hR.kp (kpR_kp q2.kp relv_fol)⟩
theorem takes_R {N n : Nat} {M : Mem} {w : Nat → Nat} (hR : RelI M) (h55 : M.1 36 55 = I n) (hn : n ≤ 24) (hw : ∀ i, i < n → M.1 36 (31 + i) = I (w i) ∧ w i < 10) (hN : 2000 < N) : ∃ M', f_X7_takes N M = some M' ∧ Tks M M' n w (szf M) ∧ M'.1 34 8 = I n ∧ RelI M' := by
  obtain ⟨M', q1, q2, q3⟩ := takes_s (N := N) (sz := szf M) h55 hn hw (fun k hk => ⟨by rw [(hR.2.1.2.1 k hk).1]; exact szf_I, szf_b hR k hk⟩) hR.2.2.2.2.2.2.2.2.2.2.1 hN
  exact ⟨M', q1, q2, q3, hR.kp (kpR_kp q2.1 relv_tks)⟩
