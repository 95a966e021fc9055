/-! Part 71: rings, ring, most -/
theorem nestN {n : Nat} (hn : n ≤ 6) : ∃ T, T ≤ 1000000 ∧ ∀ (A : Type) (F : (Nat → Nat) → A → A) (a : A), nest n 0 zw F a = fol (fun c a => F (dg zw 0 n c) a) T a :=
  ⟨10 ^ n, by rcases (show n = 0 ∨ n = 1 ∨ n = 2 ∨ n = 3 ∨ n = 4 ∨ n = 5 ∨ n = 6 by omega) with rfl | rfl | rfl | rfl | rfl | rfl | rfl <;> decide, fun _ F a => nest_flat (F := F) n F a⟩
/-- both sides count the same rings, and stop at the same one -/
theorem rel_rings {N : Nat} {M0 : Mem} {sz bx : Nat → Int} {n : Nat} {lie : Bool} {stop : Int} {wanted : Int32} (hn : n ≤ 6) (hb : ∀ k, k < 7 → 0 ≤ bx k) (hs : 0 ≤ stop) (hs2 : stop < 2147483648) (hw : ∀ x : Nat, x < 1000000 → ¬ (I stop < I x) → (I x = wanted ↔ I stop < I (x + 1 : Nat))) :
    ∃ x : Nat, x ≤ 1000000 ∧ (xres N M0 sz bx n lie false stop).1 = I x ∧ (mres N M0 sz n lie wanted bx).1 = I x ∧ ((mres N M0 sz n lie wanted bx).2.1 = true ↔ I stop < I x) ∧ ((mres N M0 sz n lie wanted bx).2.1 = true → (xres N M0 sz bx n lie false stop).2.2 = (mres N M0 sz n lie wanted bx).2.2) := by
  obtain ⟨T, hT, hf⟩ := nestN hn
  have e1 : xres N M0 sz bx n lie false stop = _ := hf Axr (CF N M0 sz bx n lie false stop) (0, fun _ => 0, zw)
  have e2 : mres N M0 sz n lie wanted bx = _ := hf Amr (fun w a => if a.2.1 = true then a else if lackS w n bx 7 = 0 then rleaf N M0 sz n lie wanted (wf sz w n) w a else a) (0, false, zw)
  rw [e1, e2]
  have h := fol_rel (R := fun c (a : Axr) (b : Amr) => ∃ x : Nat, x ≤ c ∧ a.1 = I x ∧ b.1 = I x ∧ (b.2.1 = true ↔ I stop < I x) ∧ (b.2.1 = true → a.2.2 = b.2.2)) (f := fun c a => CF N M0 sz bx n lie false stop (dg zw 0 n c) a) (g := fun c a => if a.2.1 = true then a else if lackS (dg zw 0 n c) n bx 7 = 0 then rleaf N M0 sz n lie wanted (wf sz (dg zw 0 n c) n) (dg zw 0 n c) a else a) (a := (0, fun _ => 0, zw)) (b := (0, false, zw))
    ⟨0, Nat.le_refl 0, rfl, rfl, ⟨fun h => (by cases h), fun h => (by rw [I_lt] at h <;> omega)⟩, fun h => (by cases h)⟩ T (by
    intro c hc a b ⟨x, x1, x2, x3, x4, x5⟩
    generalize dg zw 0 n c = w
    by_cases cs : I stop < I x
    · have hb1 : b.2.1 = true := x4.mpr cs
      rw [CF_stop (by rw [x2]; exact cs), if_pos hb1]
      exact ⟨x, by omega, x2, x3, x4, x5⟩
    · have hb1 : ¬ b.2.1 = true := fun h => cs (x4.mp h)
      rw [if_neg hb1]
      have hlb := (lackS_b w n bx hb 7 (Nat.le_refl 7)).1
      have keep : CF N M0 sz bx n lie false stop w a = a → (if lackS w n bx 7 = 0 then rleaf N M0 sz n lie wanted (wf sz w n) w b else b) = b → ∃ x : Nat, x ≤ c + 1 ∧ (CF N M0 sz bx n lie false stop w a).1 = I x ∧ (if lackS w n bx 7 = 0 then rleaf N M0 sz n lie wanted (wf sz w n) w b else b).1 = I x ∧ ((if lackS w n bx 7 = 0 then rleaf N M0 sz n lie wanted (wf sz w n) w b else b).2.1 = true ↔ I stop < I x) ∧ ((if lackS w n bx 7 = 0 then rleaf N M0 sz n lie wanted (wf sz w n) w b else b).2.1 = true → (CF N M0 sz bx n lie false stop w a).2.2 = (if lackS w n bx 7 = 0 then rleaf N M0 sz n lie wanted (wf sz w n) w b else b).2.2) := by
        intro h1 h2
        rw [h1, h2]
        exact ⟨x, by omega, x2, x3, x4, x5⟩
      have hcf : CF N M0 sz bx n lie false stop w a = if 0 < n ∧ (wf sz w n).1 = (0, 0, 0, 0) ∧ (wf sz w n).2 = 0 then crg N M0 sz bx n lie false w a else a := by
        unfold CF
        exact if_neg (by rw [x2]; exact cs)
      by_cases cl : lackS w n bx 7 = 0
      · by_cases cc : 0 < n ∧ (wf sz w n).1 = (0, 0, 0, 0) ∧ (wf sz w n).2 = 0
        · cases cg : (frs n w && (!lie || LIv N M0 sz n w)) with
          | true =>
            have hr : rgb N M0 sz n lie w = true := by
              unfold rgb
              rw [Bool.and_assoc, cg, decide_eq_true cc]
              rfl
            have h1 : CF N M0 sz bx n lie false stop w a = (a.1 + 1, a.2.1, w) := by
              rw [hcf, if_pos cc]
              unfold crg
              rw [if_pos ⟨by rw [cl]; decide, cg⟩, if_pos cl]
            have h2 : (if lackS w n bx 7 = 0 then rleaf N M0 sz n lie wanted (wf sz w n) w b else b) = (b.1 + 1, decide (b.1 = wanted), if b.1 = wanted then w else b.2.2) := by
              rw [if_pos cl]
              unfold rleaf
              rw [if_pos hr]
            rw [h1, h2]
            have hx := hw x (by omega) cs
            refine ⟨x + 1, by omega, by rw [x2, I_1, I_add]; rfl, by rw [x3, I_1, I_add]; rfl, ?_, fun h => ?_⟩
            · rw [x3]
              simpa using hx
            · have h : decide (b.1 = wanted) = true := h
              show w = if b.1 = wanted then w else b.2.2
              rw [if_pos (by simpa using h)]
          | false =>
            have hr : rgb N M0 sz n lie w = false := by
              unfold rgb
              rw [Bool.and_assoc, cg]
              simp
            refine keep ?_ ?_
            · rw [hcf, if_pos cc]
              unfold crg
              rw [if_neg]
              rintro ⟨-, h⟩
              rw [cg] at h
              cases h
            · rw [if_pos cl]
              unfold rleaf
              rw [hr]
              rfl
        · have hr : rgb N M0 sz n lie w = false := by
            unfold rgb
            rw [decide_eq_false cc]
            rfl
          refine keep ?_ ?_
          · rw [hcf, if_neg cc]
          · rw [if_pos cl]
            unfold rleaf
            rw [hr]
            rfl
      · refine keep ?_ (if_neg cl)
        rw [hcf]
        unfold crg
        rw [if_neg (show ¬ (lackS w n bx 7 ≤ mayN false ∧ (frs n w && (!lie || LIv N M0 sz n w)) = true) from fun h => cl (by have : lackS w n bx 7 ≤ 0 := h.1; omega))]
        split <;> rfl)
  obtain ⟨x, h1, h2⟩ := h
  exact ⟨x, by omega, h2⟩
theorem model_s {N n : Nat} {M0 M1 : Mem} (lie : Bool) (wanted : Int32) (hN : 2000 < N) (hR : RelI M0) (hn1 : 0 < n) (hn : n ≤ 6) (h36 : ∀ j, M1.1 36 j = M0.1 36 j) (h39 : ∀ k, k < 5 → M1.1 39 k = M0.1 39 k) (h23 : M1.1 34 23 = M0.1 34 23) :
    ∃ M', f_X7_ringsOf N M1 (I n) (bI lie) wanted = some (if 0 ≤ wanted then (if (mres N M0 (szf M0) n lie wanted (mkf M0)).2.1 = true then 1 else -9) else (mres N M0 (szf M0) n lie wanted (mkf M0)).1, M') ∧ KpR rMS M1 M' ∧ ((mres N M0 (szf M0) n lie wanted (mkf M0)).2.1 = true → ∀ k, k < n → M'.1 43 k = I ((mres N M0 (szf M0) n lie wanted (mkf M0)).2.2 k) ∧ (mres N M0 (szf M0) n lie wanted (mkf M0)).2.2 k < 10) := by
  obtain ⟨sd, m, lx, ly, tx, tm⟩ := tb_ex hR
  exact mrings (N := N) (M0 := M0) lie wanted hn hn1 (szf_b hR) hN tx tm (tm.kp h36) (fun k hk => by rw [h39 k hk]; exact hR.2.2.2.2.2.2.2.2.2.2.1 k hk) (h23.trans hR.2.2.2.2.2.2.2.2.2.2.2)
    (fun k hk => by
      rw [h36, (hR.2.1.1 k hk).1]
      exact ⟨(I_of _).symm, (hR.2.1.1 k hk).2⟩)
    (fun k hk => by rw [h36, (hR.2.1.2.1 k hk).1]; exact szf_I)
theorem bI_ex {x : Int32} (h : zb x) : ∃ b, x = bI b := by
  rcases h with h | h
  · exact ⟨false, h⟩
  · exact ⟨true, h⟩
theorem mkf_b {M : Mem} (hR : RelI M) : ∀ k, k < 7 → 0 ≤ mkf M k ∧ mkf M k ≤ 9 := fun k hk => (hR.2.1.1 k hk).2
theorem op_rings (N : Nat) (hN : 2000 < N) (a b : Int32) (hb : zb b) : Op (fun M => f_X6_rings N M a b) (fun M => f_X7_rings_ N M a b) := by
  intro M hR
  obtain ⟨z, hz1, hz2, rfl⟩ := I_ex a
  obtain ⟨lie, rfl⟩ := bI_ex hb
  show ∃ r M1 M2, f_X6_rings N M (I z) (bI lie) = some (r, M1) ∧ f_X7_rings_ N M1 (I z) (bI lie) = some (r, M2) ∧ RelI M2
  by_cases c2 : z < 1
  · obtain ⟨M1, M2, q1, q2, hR2⟩ := op_r4 (N := N) hR
    refine ⟨-4, M1, M2, ?_, ?_, hR2⟩
    · simp only [f_X6_rings]
      rw [if_neg (by rw [I_1, I_le] <;> omega), q1]; rfl
    · simp only [f_X7_rings_]
      rw [show f_X7_within N M1 (I z) 1 6 = some (-4, M1) from within_4 (a := 1) (b := 6) hz1 c2 (by decide)]
      simp only [bd2]
      rw [if_neg (by decide), q2]
  by_cases c3 : 6 < z
  · obtain ⟨M1, M2, q1, q2, hR2⟩ := op_r6 (N := N) hR
    refine ⟨-6, M1, M2, ?_, ?_, hR2⟩
    · simp only [f_X6_rings]
      rw [if_pos (by rw [I_1, I_le] <;> omega), if_neg (by rw [I_6, I_le] <;> omega), q1]; rfl
    · simp only [f_X7_rings_]
      rw [show f_X7_within N M1 (I z) 1 6 = some (-6, M1) from within_6 (a := 1) (b := 6) hz2 c3 (by decide) (by decide)]
      simp only [bd2]
      rw [if_neg (by decide), q2]
  obtain ⟨n, rfl⟩ : ∃ m : Nat, z = m := ⟨z.toNat, by omega⟩
  obtain ⟨M1, g1, g2, g3, g4⟩ := through_s (N := N) (n := n) (stop := 1000000000) lie false hN hR hR KpR.rf (by omega) (by omega) (by decide) (by decide)
  obtain ⟨M2, h1, h2, -⟩ := model_s (N := N) (n := n) (M0 := M) (M1 := M1) lie (-1) hN hR (by omega) (by omega) (fun j => g3.1 36 j rfl) (fun k _ => g3.1 39 k rfl) (g3.1 34 23 rfl)
  obtain ⟨x, x1, x2, x3, -⟩ := rel_rings (N := N) (M0 := M) (sz := szf M) (bx := mkf M) (n := n) (lie := lie) (stop := 1000000000) (wanted := -1) (by omega) (fun k hk => (mkf_b hR k hk).1) (by decide) (by decide) (fun x hx _ => by
    constructor
    · intro h
      rw [I_m1, I_eq] at h <;> omega
    · intro h
      rw [I_lt] at h <;> omega)
  refine ⟨I x, M1, M2, ?_, ?_, g2.kp (kpR_kp h2 relv_ms)⟩
  · simp only [f_X6_rings]
    rw [if_pos (by rw [I_1, I_le] <;> omega), if_pos (by rw [I_6, I_le] <;> omega), show f_X3_through N M (I n) (bI lie) 0 1000000000 = _ from g1]
    simp only [bd]
    rw [g4.1, x2]
  · simp only [f_X7_rings_]
    rw [show f_X7_within N M1 (I n) 1 6 = some (0, M1) from within_y (a := 1) (b := 6) (by omega) (by omega) (by decide) (by decide)]
    simp only [bd2]
    rw [if_pos trivial, h1, if_neg (by decide), x3]
