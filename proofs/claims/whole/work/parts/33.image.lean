/-! Part 33: image -/
theorem Lay.tr {M M' : Mem} {o q o' q' : Nat} (h : Lay M o q) (hq : ∀ k, k < 56 → M'.1 q' k = M.1 q k) (h1 : ∀ k, k < 7 → M'.1 (o' + 1) k = M.1 (o + 1) k) (h2 : ∀ k, k < 7 → M'.1 (o' + 2) k = M.1 (o + 2) k) (h4 : ∀ k, k < 4 → M'.1 (o' + 4) k = M.1 (o + 4) k) (h5 : ∀ k, k < 6 → M'.1 (o' + 5) k = M.1 (o + 5) k) (h6 : ∀ k, k < 6 → M'.1 (o' + 6) k = M.1 (o + 6) k) (h7 : M'.1 o' 7 = M.1 o 7) (h3 : M'.1 o' 3 = M.1 o 3) (hl : ∀ k : Nat, k < 24 → (k : Int) < (M.1 o 3).toInt → M'.1 (o' + 3) k = M.1 (o + 3) k) : Lay M' o' q' := by
  obtain ⟨a, b, c, d, e, f, g⟩ := h
  refine ⟨fun j hj => ?_, fun j hj => ?_, fun j hj => ?_, fun j hj => ?_, ?_, ?_, fun j hj hj2 => ?_⟩
  · rw [hq j (by omega), h1 j hj]; exact a j hj
  · rw [hq (7 + j) (by omega), h2 j hj]; exact b j hj
  · rw [hq (14 + j) (by omega), h4 j hj]; exact c j hj
  · rw [hq (18 + 2 * j) (by omega), hq (19 + 2 * j) (by omega), h5 j hj, h6 j hj]; exact d j hj
  · rw [hq 30 (by omega), h7]; exact e
  · rw [hq 55 (by omega), h3]; exact f
  · rw [h3] at hj2
    rw [hq (31 + j) (by omega), hl j hj hj2]; exact g j hj hj2
/-- copy: the class's layout 'now' into 'then' -/
theorem copy_s {N : Nat} {M : Mem} {n : Nat} (hn : M.1 1 3 = I n) (h24 : n ≤ 24) (hN : 2000 < N) : ∃ M', f_X0_copy N M = some M' ∧ KpR (fun k j => !(k == 9 || k == 10 || k == 11 || k == 12 || k == 13 || k == 14 || (k == 8 && (j == 3 || j == 7)))) M M' ∧
    (∀ k, k < 7 → M'.1 9 k = M.1 2 k) ∧ (∀ k, k < 7 → M'.1 10 k = M.1 3 k) ∧ (∀ k, k < n → M'.1 11 k = M.1 4 k) ∧ (∀ k, k < 4 → M'.1 12 k = M.1 5 k) ∧ (∀ k, k < 6 → M'.1 13 k = M.1 6 k) ∧ (∀ k, k < 6 → M'.1 14 k = M.1 7 k) ∧ M'.1 8 3 = M.1 1 3 ∧ M'.1 8 7 = M.1 1 7 := by
  unfold f_X0_copy
  rw [copyAll_s (n0 := 7) (n1 := 7) rfl rfl (by decide) (by decide) (by decide) (by decide) hN]
  simp only [bd]
  rw [copyAll_s (n0 := 7) (n1 := 7) rfl rfl (by decide) (by decide) (by decide) (by decide) hN]
  simp only [bd]
  rw [wrI_ne (show 1 ≠ 10 by decide), wrI_ne (show 1 ≠ 9 by decide), hn, becomes8_s (n0 := 24) rfl (by decide) h24 h24 (by decide) hN]
  simp only [bd]
  rw [copyAll_s (n0 := 4) (n1 := 4) rfl rfl (by decide) (by decide) (by decide) (by decide) hN]
  simp only [bd]
  rw [copyAll_s (n0 := 6) (n1 := 6) rfl rfl (by decide) (by decide) (by decide) (by decide) hN]
  simp only [bd]
  rw [copyAll_s (n0 := 6) (n1 := 6) rfl rfl (by decide) (by decide) (by decide) (by decide) hN]
  simp only [bd, nm]
  refine ⟨_, rfl, ((((((((KpR.rf.W fun i => rfl).W fun i => rfl).W fun i => rfl).I rfl).W fun i => rfl).W fun i => rfl).W fun i => rfl).I rfl), ?_, ?_, ?_, ?_, ?_, ?_, ?_, ?_⟩
  · intro k hk; simp [seI_1, wrI_1, hk]
  · intro k hk; simp [seI_1, wrI_1, hk]
  · intro k hk; simp [seI_1, wrI_1, hk]
  · intro k hk; simp [seI_1, wrI_1, hk]
  · intro k hk; simp [seI_1, wrI_1, hk]
  · intro k hk; simp [seI_1, wrI_1, hk]
  · simp [seI_1, wrI_1, hn]
  · simp [seI_1, wrI_1]
theorem mimage_s {N : Nat} {M : Mem} (hN : 2000 < N) : f_X7_image N M = some (M.1 36 55, seI (wrI M 37 (fun i => if i < 56 then M.1 36 i else M.1 37 i)) 34 3 1) := by
  unfold f_X7_image
  rw [fillL 37 56 (fun i => M.1 36 i) M (fun n' M v => l_X7_image_2 N n' M v) (fun M' => some (M'.1 36 55, seI M' 34 3 1))]
  · rw [wrI_ne (by decide)]
  · intro n' M'
    rw [l_X7_image_2, if_pos (by rw [I_56, I_le] <;> omega)]
    simp only [nm]
    rw [seI_ne (by decide)]
    rfl
  · intro n' M' j hj hM _
    rw [l_X7_image_2, if_neg (by rw [I_56, I_le] <;> omega)]
    have hi : inb (I j) 56 := by rw [I_inb] <;> omega
    simp only [ck, nm]
    rw [if_pos hi, if_pos hi, I_ix (by omega) (by omega), I_1, I_add]
    simp only [Int.toNat_natCast]
    rw [hM 36 j (Or.inl (by decide))]
    rfl
  · omega
theorem op_image (N : Nat) (hN : 2000 < N) : Op (fun M => f_X6_image N M) (fun M => f_X7_image N M) := by
  intro M hR
  obtain ⟨n, hn0, hn6, hn⟩ := I_exB hR.2.1.2.2.2.2.2.1.2.1 hR.2.1.2.2.2.2.2.1.2.2
  obtain ⟨m, rfl⟩ : ∃ m : Nat, n = m := ⟨n.toNat, by omega⟩
  have hm := hR.2.1.2.2.2.2.2.1.1
  obtain ⟨M1, q1, hk, c1, c2, c3, c4, c5, c6, c7, c8⟩ := copy_s (N := N) hn (by omega) hN
  have k13 : M1.1 1 3 = M.1 1 3 := hk.1 1 3 rfl
  have e36 : ∀ j, M1.1 36 j = M.1 36 j := fun j => hk.1 36 j rfl
  refine ⟨M.1 1 3, seI M1 0 2 1, seI (wrI (seI M1 0 2 1) 37 (fun i => if i < 56 then (seI M1 0 2 1).1 36 i else (seI M1 0 2 1).1 37 i)) 34 3 1, ?_, ?_, ?_⟩
  · simp only [f_X6_image]
    rw [q1]
    simp only [bd, nm]
    rw [seI_ne (by decide), k13]
  · show f_X7_image N (seI M1 0 2 1) = _
    rw [mimage_s hN, seI_ne (by decide), e36, hm]
  · obtain ⟨h1, h2, h3, h4, h5, h6, h7, h8, h9⟩ := hR
    refine ⟨h1.kp ((((hk.sub fun k j hj => ?_).I rfl).W fun i => rfl).I rfl), h2.kpr ((((hk.sub fun k j hj => ?_).I rfl).W fun i => rfl).I rfl), ⟨?_, ?_, fun _ => ?_⟩, h4.kp ((((hk.sub fun k j hj => ?_).I rfl).W fun i => rfl).I rfl), h5.kp ((((hk.sub fun k j hj => ?_).I rfl).W fun i => rfl).I rfl), h6.kp ((((hk.sub fun k j hj => ?_).I rfl).W fun i => rfl).I rfl), h7.kp ((((hk.sub fun k j hj => ?_).I rfl).W fun i => rfl).I rfl), h8.kp ((((hk.sub fun k j hj => ?_).I rfl).W fun i => rfl).I rfl), h9.kp ((((hk.sub fun k j hj => ?_).I rfl).W fun i => rfl).I rfl)⟩
    · simp [rSta] at hj; simp; omega
    · simp [rLay] at hj; simp; omega
    · simp [seI_1, wrI_1]
    · simp [seI_1, wrI_1]
    · refine h2.tr (fun k hk => ?_) (fun k hk => ?_) (fun k hk => ?_) (fun k hk => ?_) (fun k hk => ?_) (fun k hk => ?_) ?_ ?_ (fun k hk hk2 => ?_)
      · simp [seI_1, wrI_1, hk, e36]
      · simp [seI_1, wrI_1, c1 k hk]
      · simp [seI_1, wrI_1, c2 k hk]
      · simp [seI_1, wrI_1, c4 k hk]
      · simp [seI_1, wrI_1, c5 k hk]
      · simp [seI_1, wrI_1, c6 k hk]
      · simp [seI_1, wrI_1, c8]
      · simp [seI_1, wrI_1, c7]
      · rw [hn, I_to (by omega) (by omega)] at hk2
        simp [seI_1, wrI_1, c3 k (by omega)]
    · simp [rTap] at hj; simp; omega
    · simp [rTur] at hj; simp; omega
    · simp [rRef] at hj; simp; omega
    · simp [rSps] at hj; simp; omega
    · simp [rGat] at hj; simp; omega
    · simp [rZer] at hj; simp; omega
