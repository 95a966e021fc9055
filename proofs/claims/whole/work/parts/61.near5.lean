/-! Part 61: nearest -/
theorem mbecomes {N a0 n : Nat} {M0 : Mem} (h0 : iaL shp a0 = some 6) (ha : a0 ≠ 36) (hn : n ≤ 6) (hN : 2000 < N) : ∃ M', f_X7_becomes N M0 a0 (I n) = some M' ∧ M'.1 36 55 = I n ∧ (∀ k, k < n → M'.1 36 (31 + k) = M0.1 a0 k) ∧ (∀ b, (b < 31 ∨ 31 + n ≤ b) → b ≠ 55 → M'.1 36 b = M0.1 36 b) ∧ (∀ a b, a ≠ 36 → M'.1 a b = M0.1 a b) ∧ M'.2 = M0.2 := by
  have key : ∀ (r j n' : Nat) (M1 : Mem), j + r = n → r < n' → (∀ k, k < j → M1.1 36 (31 + k) = M0.1 a0 k) → (∀ b, (b < 31 ∨ 31 + j ≤ b) → M1.1 36 b = M0.1 36 b) → (∀ a b, a ≠ 36 → M1.1 a b = M0.1 a b) → M1.2 = M0.2 → ∃ M', l_X7_becomes_2 N a0 n' M1 (I n) (I j) = some M' ∧ M'.1 36 55 = I n ∧ (∀ k, k < n → M'.1 36 (31 + k) = M0.1 a0 k) ∧ (∀ b, (b < 31 ∨ 31 + n ≤ b) → b ≠ 55 → M'.1 36 b = M0.1 36 b) ∧ (∀ a b, a ≠ 36 → M'.1 a b = M0.1 a b) ∧ M'.2 = M0.2 := by
    intro r
    induction r with
    | zero =>
      intro j n' M1 h1 h2 h3 h4 h5 h6
      obtain ⟨n', rfl⟩ : ∃ q, n' = q + 1 := ⟨n' - 1, by omega⟩
      obtain rfl : j = n := by omega
      refine ⟨seI M1 36 55 (I j), ?_, by simp [seI_1], fun k hk => ?_, fun b hb hb2 => ?_, fun a b ha => ?_, h6⟩
      · rw [l_X7_becomes_2, if_pos (by rw [I_le] <;> omega)]
        rfl
      · rw [seI_1, if_neg (by omega)]; exact h3 k hk
      · rw [seI_1, if_neg (by omega)]; exact h4 b hb
      · rw [seI_ne ha]; exact h5 a b ha
    | succ r ih =>
      intro j n' M1 h1 h2 h3 h4 h5 h6
      obtain ⟨n', rfl⟩ : ∃ q, n' = q + 1 := ⟨n' - 1, by omega⟩
      obtain ⟨M', q1, q2⟩ := ih (j + 1) n' (seI M1 36 (31 + j) (M1.1 a0 j)) (by omega) (by omega) (fun k hk => by
        rw [seI_1]
        by_cases e : k = j
        · rw [if_pos ⟨rfl, by omega⟩, e]; exact h5 a0 j ha
        · rw [if_neg (by omega)]; exact h3 k (by omega)) (fun b hb => by rw [seI_1, if_neg (by omega)]; exact h4 b (by omega)) (fun a b ha => by rw [seI_ne ha]; exact h5 a b ha) h6
      refine ⟨M', ?_, q2⟩
      rw [l_X7_becomes_2, if_neg (by rw [I_le] <;> omega), h0]
      simp only [bd, ck, nm]
      rw [I_31, I_add, if_pos (show inb (I j) 6 by rw [I_inb] <;> omega), if_pos (show inb (I ((31 : Int) + j)) 56 by rw [I_inb] <;> omega), I_ix (by omega) (by omega), I_ix (by omega) (by omega), Int.toNat_natCast, show ((31 : Int) + j).toNat = 31 + j by omega, I_1, I_add]
      exact q1
  exact key n 0 N M0 (by omega) (by omega) (fun k hk => by omega) (fun _ _ => rfl) (fun _ _ _ => rfl) rfl
def rNR (k j : Nat) : Bool := !(k == 4 || (k == 1 && j == 3) || k == 36 || (k == 39 && Nat.ble 5 j) || k == 40 || k == 41 || k == 43 || k == 44 || (k == 34 && !(j == 3 || j == 5 || j == 21 || j == 23)))
theorem nr_ms {k j : Nat} (h : rNR k j = true) : rMS k j = true := by
  simp only [rNR, rMS, Bool.not_eq_true', Bool.or_eq_false_iff] at h ⊢
  obtain ⟨⟨⟨⟨⟨⟨⟨⟨_, _⟩, _⟩, a⟩, b⟩, c⟩, d⟩, e⟩, f⟩ := h
  exact ⟨⟨⟨⟨⟨a, b⟩, c⟩, d⟩, e⟩, f⟩
/-- another row on both sides -/
theorem RelI.newrow {M M2 : Mem} {n : Nat} {w : Nat → Nat} (hR : RelI M) (kk : KpR rNR M M2) (hn : n ≤ 6) (h36 : ∀ b, (b < 31 ∨ 31 + n ≤ b) → b ≠ 55 → M2.1 36 b = M.1 36 b) (e3 : M2.1 1 3 = I n) (e55 : M2.1 36 55 = I n) (hw : ∀ k, k < n → M2.1 4 k = I (w k) ∧ M2.1 36 (31 + k) = I (w k) ∧ w k < 10) : RelI M2 := by
  obtain ⟨h1, h2, h3, h4, h5, h6, h7, h8, h9⟩ := hR
  refine ⟨h1.kp (kk.sub fun k j hj => ?_), ?_, h3.kp (kk.sub fun k j hj => ?_), h4.kp (kk.sub fun k j hj => ?_), h5.kp (kk.sub fun k j hj => ?_), h6.kp (kk.sub fun k j hj => ?_), h7.kp (kk.sub fun k j hj => ?_), h8.kp (kk.sub fun k j hj => ?_), h9.kp (kk.sub fun k j hj => ?_)⟩
  · simp [rSta] at hj; simp [rNR]; omega
  · obtain ⟨l1, l2, l3, l4, l5, l6, l7⟩ := h2
    have e2 : ∀ a j, a ≠ 36 → a ≠ 4 → a < 8 → ¬ (a = 1 ∧ j = 3) → M2.1 a j = M.1 a j := fun a j q1 q2 q3 q4 => kk.1 a j (by simp [rNR]; omega)
    refine ⟨fun k hk => ?_, fun k hk => ?_, fun k hk => ?_, fun k hk => ?_, ?_, ?_, fun k hk hk2 => ?_⟩
    · rw [h36 k (by omega) (by omega), e2 (1 + 1) k (by decide) (by decide) (by decide) (by omega)]; exact l1 k hk
    · rw [h36 _ (by omega) (by omega), e2 (1 + 2) k (by decide) (by decide) (by decide) (by omega)]; exact l2 k hk
    · rw [h36 _ (by omega) (by omega), e2 (1 + 4) k (by decide) (by decide) (by decide) (by omega)]; exact l3 k hk
    · rw [h36 _ (by omega) (by omega), h36 _ (by omega) (by omega), e2 (1 + 5) k (by decide) (by decide) (by decide) (by omega), e2 (1 + 6) k (by decide) (by decide) (by decide) (by omega)]; exact l4 k hk
    · rw [h36 _ (by omega) (by omega), e2 1 7 (by decide) (by decide) (by decide) (by omega)]; exact l5
    · rw [e3, e55]
      refine ⟨rfl, ?_⟩
      unfold Bd
      rw [I_to (by omega) (by omega)]
      omega
    · rw [e3, I_to (by omega) (by omega)] at hk2
      obtain ⟨a1, a2, a3⟩ := hw k (by omega)
      rw [a2, show (1 + 3) = 4 from rfl, a1]
      refine ⟨rfl, ?_⟩
      unfold Bd
      rw [I_to (by omega) (by omega)]
      omega
  · simp [rTak, rLay] at hj; simp [rNR]; omega
  · simp [rTap] at hj; simp [rNR]; omega
  · simp [rTur] at hj; simp [rNR]; omega
  · simp [rRef] at hj; simp [rNR]; omega
  · simp [rSps] at hj; simp [rNR]; omega
  · simp [rGat] at hj; simp [rNR]; omega
  · by_cases e : k = 39
    · subst e
      have hj : Nat.blt j 5 = true := by simpa [rZer] using hj
      have e5 : Nat.ble 5 j = false := by
        rw [Bool.eq_false_iff]
        intro h'
        have h2 := Nat.ble_eq.mp h'
        have h3 : Nat.ble (j + 1) 5 = true := hj
        have h4 := Nat.ble_eq.mp h3
        omega
      simp [rNR, e5]
    · simp [rZer, e] at hj; simp [rNR]; omega
theorem relv_xn : ∀ k j, relv k j = true → (k ≠ 28 ∧ k ≠ 29 ∧ k ≠ 30 ∧ k ≠ 27) := by
  intro k j h
  refine ⟨?_, ?_, ?_, ?_⟩ <;> (rintro rfl; cases h)
theorem op_nearest (N : Nat) (hN : 2000 < N) (a : Int32) : Op (fun M => f_X6_nearest N M a) (fun M => f_X7_nearest N M a) := by
  intro M hR
  obtain ⟨z, hz1, hz2, rfl⟩ := I_ex a
  show ∃ r M1 M2, f_X6_nearest N M (I z) = some (r, M1) ∧ f_X7_nearest N M1 (I z) = some (r, M2) ∧ RelI M2
  by_cases c2 : z < 1
  · obtain ⟨M1, M2, q1, q2, hR2⟩ := op_r4 (N := N) hR
    refine ⟨-4, M1, M2, ?_, ?_, hR2⟩
    · simp only [f_X6_nearest]
      rw [if_neg (by rw [I_1, I_le] <;> omega), q1]; rfl
    · simp only [f_X7_nearest]
      rw [I_1, I_5, within_4 hz1 c2 (by decide)]
      simp only [bd2]
      rw [if_neg (by decide), q2]
  by_cases c3 : 5 < z
  · obtain ⟨M1, M2, q1, q2, hR2⟩ := op_r6 (N := N) hR
    refine ⟨-6, M1, M2, ?_, ?_, hR2⟩
    · simp only [f_X6_nearest]
      rw [if_pos (by rw [I_1, I_le] <;> omega), if_neg (by rw [I_5, I_le] <;> omega), q1]; rfl
    · simp only [f_X7_nearest]
      rw [I_1, I_5, within_6 hz2 c3 (by decide) (by decide)]
      simp only [bd2]
      rw [if_neg (by decide), q2]
  obtain ⟨m, rfl⟩ : ∃ m : Nat, z = m := ⟨z.toNat, by omega⟩
  have hsz := szf_b hR
  have hbx : ∀ k, k < 7 → M.1 2 k = I (mkf M k) ∧ 0 ≤ mkf M k ∧ mkf M k ≤ 9 := fun k hk => ⟨(I_of _).symm, (hR.2.1.1 k hk).2⟩
  -- the class
  obtain ⟨Mc, hc, hcM⟩ : ∃ Mc, f_X6_copyAll shp N M 2 28 = some Mc ∧ (∀ k, k < 7 → Mc.1 28 k = M.1 2 k) ∧ (∀ a b, a ≠ 28 → Mc.1 a b = M.1 a b) ∧ Mc.2 = M.2 :=
    ⟨_, copyAll_s (n0 := 7) (n1 := 7) rfl rfl (by decide) (by decide) (by decide) (by decide) hN, fun k hk => by rw [wrI_s, if_pos hk], fun a b ha => by rw [wrI_ne ha], rfl⟩
  obtain ⟨hc1, hc2, hc3⟩ := hcM
  have kc : ∀ r : Nat → Nat → Bool, (∀ k j, r k j = true → k ≠ 28 ∧ k ≠ 27) → KpR r M (seI Mc 27 5 0) := fun r hr => ⟨fun k j hj => by rw [seI_ne (hr k j hj).2, hc2 k j (hr k j hj).1], fun k j hj => by rw [seI_2, hc3]⟩
  obtain ⟨Mx, x1, x2, x3⟩ := xnear (N := N) (n := m) (sz := szf M) (by omega) hsz hN (m - 1) 12 0 (seI Mc 27 5 0) w0 (fun _ => 0) (mkf M) false none (by omega) (by omega)
    (hR.1.kp (kc _ fun k j hj => by have := Nat.ble_eq.mp hj; omega)) (hR.2.2.2.2.2.2.1.kp (kc _ fun k j hj => by simp [rSps] at hj; omega)) (szf.kp (fun j => by rw [seI_ne (by decide), hc2 3 j (by decide)]))
    (fun k hk => by rw [seI_ne (by decide), hc1 k hk]; exact hbx k hk) (fun k hk => by omega) (by unfold PB; decide) (by decide) (show (seI Mc 27 5 0).1 27 5 = 0 by simp [seI_1])
  rw [show m - 1 + 1 = m by omega, xnr_f _ _ _ _ _ _ rfl rfl rfl] at x3
  have kx : ∀ a b, a ≠ 28 → a ≠ 29 → a ≠ 30 → a ≠ 27 → Mx.1 a b = M.1 a b := fun a b q1 q2 q3 q4 => by rw [x2.1 a b q2 q3 (fun h => q4 h.1), seI_ne q4, hc2 a b q1]
  have kx2 : ∀ a b, a ≠ 27 → Mx.2 a b = M.2 a b := fun a b q => by rw [x2.2.1 a b q, seI_2, hc3]
  have hRx : RelI Mx := hR.kp ⟨fun k j hj => by
    obtain ⟨q1, q2, q3, q4⟩ := relv_xn k j hj
    exact kx k j q1 q2 q3 q4, fun k j hj => by
    obtain ⟨q1, q2, q3, q4⟩ := relv_xn k j hj
    exact kx2 k j q4⟩
  have im : imin (I m) 5 = I m := by
    unfold imin
    rw [if_neg (by rw [I_5, I_lt] <;> omega)]
  have hcall : ∀ K : Int32 → Mem → Option (Int32 × Mem), zb (Mx.1 27 5) → bd2 (f_X4_findsNearest N M (I m)) K = K (Mx.1 27 5) Mx := by
    intro K hzb
    unfold f_X4_findsNearest
    rw [hc]
    simp only [bd, nm]
    rw [im]
    have x1' : f_X4_layNear N 12 (seI Mc 27 5 0) 0 (I m) 0 0 0 = some Mx := x1
    rw [x1']
    simp only [ck]
    rw [if_pos hzb]
    rfl
  -- the reference, from a memory that holds the same box
  have hM : ∀ M1 : Mem, (∀ a b, a ≠ 4 → ¬ (a = 1 ∧ b = 3) → M1.1 a b = Mx.1 a b) → ∃ M2, (∀ K : Mem → Option (Int32 × Mem), bd (f_X7_begins N M1 (I m)) (fun M5 => nm (seI M5 34 17 0) fun M7 => bd (f_X7_goesOn N 12 M7 0 1) K) = K M2) ∧ KpR rMS M1 M2 ∧ AccM m M2 (mnr (szf M) m 0 w0 (fun _ => 0) (mkf M) none) := by
    intro M1 h1
    have h0 : ∀ a b, a ≠ 4 → a ≠ 1 → a ≠ 28 → a ≠ 29 → a ≠ 30 → a ≠ 27 → M1.1 a b = M.1 a b := fun a b q0 q1 q2 q3 q4 q5 => by rw [h1 a b q0 (fun h => q1 h.1), kx a b q2 q3 q4 q5]
    obtain ⟨M3, b1, b2, b3, b4, b5, b6⟩ := begun (N := N) (n := m) (M := M1) (lf := mkf M) (fun k hk => by rw [h0 39 k (by decide) (by decide) (by decide) (by decide) (by decide) (by decide)]; exact hR.2.2.2.2.2.2.2.2.2.2.1 k hk) (fun k hk => by
      rw [h0 36 k (by decide) (by decide) (by decide) (by decide) (by decide) (by decide), (hR.2.1.1 k hk).1]; exact hbx k hk) hN
    have h23 : (seI M3 34 17 0).1 34 23 = 0 := by
      rw [seI_1, if_neg (by decide), b4 34 23 (by decide) (by decide), h0 34 23 (by decide) (by decide) (by decide) (by decide) (by decide) (by decide)]
      exact hR.2.2.2.2.2.2.2.2.2.2.2
    obtain ⟨M2, g1, g2, g3⟩ := mnear (N := N) (n := m) (sz := szf M) (lf := mkf M) (M := seI M3 34 17 0) (by omega) (by omega) hsz hN (by rw [seI_1, if_neg (by decide)]; exact b2)
      (fun k hk => by rw [seI_ne (by decide), b4 36 _ (by decide) (by omega), h0 36 _ (by decide) (by decide) (by decide) (by decide) (by decide) (by decide), (hR.2.1.2.1 k hk).1]; exact szf_I)
      (fun w => (b6 _ w).cg (fun b _ => by rw [seI_ne (by decide)]) (fun b hb => by omega)) (fun k hk => by rw [seI_ne (by decide)]; exact b3 k hk)
      h23 (by simp [seI_1]) (fun _ => 0)
    refine ⟨M2, fun K => ?_, ?_, g3⟩
    · rw [b1]
      simp only [bd, nm]
      rw [g1]
    · have k1 : KpR rMS M1 (seI M3 34 17 0) := by
        refine ⟨fun a b hb => ?_, fun a b hb => by rw [seI_2, b5]⟩
        have n1 : ¬ (a = 34 ∧ b = 17) := by rintro ⟨rfl, rfl⟩; cases hb
        have n2 : a ≠ 41 := by rintro rfl; cases hb
        have n3 : ¬ (a = 34 ∧ b = 8) := by rintro ⟨rfl, rfl⟩; cases hb
        rw [seI_1, if_neg n1, b4 a b n2 n3]
      refine k1.tr (g2.ms (fun a b hx => ?_))
      simp [Xne] at hx
      rcases hx with rfl | ⟨rfl, ((rfl | rfl) | rfl) | rfl⟩
      · exact Or.inl rfl
      · exact Or.inl rfl
      · exact Or.inl rfl
      · exact Or.inl rfl
      · refine Or.inr ?_
        rw [h23]
        generalize mnr (szf M) m 0 w0 (fun _ => 0) (mkf M) none = acc at g3
        cases acc with
        | none => exact g3.1
        | some b => exact g3.1
  have w1 : ∀ M1, f_X7_within N M1 (I m) 1 5 = some (0, M1) := fun M1 => within_y (a := 1) (b := 5) (by omega) (by omega) (by decide) (by decide)
  have e1 : ¬ I m < 1 := by rw [I_1, I_lt] <;> omega
  have hX : f_X6_nearest N M (I m) = bd2 (f_X4_findsNearest N M (I m)) fun r4 M3 => if r4 = 0 then some (-9, M3) else bd (f_X0_becomes N M3 30 (I m)) fun M7 => some (1, M7) := by
    show (if (1 : Int32) ≤ I m then _ else _) = _
    rw [if_pos (by rw [I_1, I_le] <;> omega), if_pos (by rw [I_5, I_le] <;> omega)]
  generalize hac : mnr (szf M) m 0 w0 (fun _ => 0) (mkf M) none = acc at hM x3
  cases acc with
  | none =>
    obtain ⟨M2, g1, g2, g3⟩ := hM Mx (fun _ _ _ _ => rfl)
    have x0 : Mx.1 27 5 = 0 := x3
    refine ⟨-9, Mx, M2, ?_, ?_, hRx.kp (kpR_kp g2 relv_ms)⟩
    · rw [hX, hcall _ (Or.inl x0), x0]
      rfl
    · simp only [f_X7_nearest]
      rw [w1]
      simp only [bd2]
      rw [if_pos trivial, g1, if_pos g3.2]
  | some b =>
    obtain ⟨x3a, -, -, -, x3e⟩ := x3
    have hb : f_X0_becomes N Mx 30 (I m) = _ := becomes_s (n0 := 6) (n := m) rfl (by decide) (by omega) (by omega) (by decide) hN
    obtain ⟨M2, g1, g2, g3⟩ := hM (seI (wrI Mx 4 (fun i => if i < m then Mx.1 30 i else Mx.1 4 i)) 1 3 (I m)) (fun a b q1 q2 => by rw [seI_1, if_neg q2, wrI_ne q1])
    obtain ⟨-, a1, -, -, -, a5⟩ := g3
    obtain ⟨M5, u1, u2, u3, u4, u5, u6⟩ := mbecomes (N := N) (a0 := 44) (n := m) (M0 := M2) rfl (by decide) (by omega) hN
    have k15 : ∀ a b, rMS a b = true → a ≠ 36 → M5.1 a b = (seI (wrI Mx 4 (fun i => if i < m then Mx.1 30 i else Mx.1 4 i)) 1 3 (I m)).1 a b := fun a b q1 q2 => by rw [u5 a b q2, g2.1 a b q1]
    have kk : KpR rNR Mx M5 := by
      refine ⟨fun a b hb => ?_, fun a b hb => ?_⟩
      · have n4 : a ≠ 4 := by rintro rfl; cases hb
        have n1 : ¬ (a = 1 ∧ b = 3) := by rintro ⟨rfl, rfl⟩; cases hb
        have n36 : a ≠ 36 := by rintro rfl; cases hb
        have hm : rMS a b = true := nr_ms hb
        rw [k15 a b hm n36, seI_1, if_neg n1, wrI_ne n4]
      · have hm : rMS a b = true := nr_ms hb
        rw [u6, g2.2 a b hm, seI_2, wrI_2]
    refine ⟨1, seI (wrI Mx 4 (fun i => if i < m then Mx.1 30 i else Mx.1 4 i)) 1 3 (I m), M5, ?_, ?_, hRx.newrow (n := m) (w := b.1) kk (by omega) (fun c h1 h2 => ?_) ?_ u2 (fun k hk => ⟨?_, ?_, (a5 k hk).2⟩)⟩
    · rw [hX, hcall _ (Or.inr x3a), x3a]
      rw [if_neg (show ¬ (1 : Int32) = 0 by decide), hb]
      rfl
    · simp only [f_X7_nearest]
      rw [w1]
      simp only [bd2]
      rw [if_pos trivial, g1, if_neg (by rw [a1]; decide), u1]
      rfl
    · rw [u4 c h1 h2, g2.1 36 c rfl, seI_ne (by decide), wrI_ne (by decide)]
    · rw [k15 1 3 rfl (by decide), seI_1, if_pos ⟨rfl, rfl⟩]
    · rw [k15 4 k rfl (by decide), seI_ne (by decide), wrI_s, if_pos hk]
      exact x3e k hk
    · rw [u3 k hk]
      exact (a5 k hk).1
