/-! Part 58: nearest, the class's recursion -/
def AccX (n : Nat) (M : Mem) : Acn → Prop
  | none => M.1 27 5 = 0
  | some b => M.1 27 5 = 1 ∧ M.2 27 6 = J (gW b.2) ∧ M.2 27 7 = J (gR b.2) ∧ PB b.2 960 ∧ ∀ k, k < n → M.1 30 k = I (b.1 k)
theorem AccX.kp {n : Nat} {M M' : Mem} {a : Acn} (h : AccX n M a) (h1 : M'.1 27 5 = M.1 27 5) (h2 : M'.2 27 = M.2 27) (h3 : M'.1 30 = M.1 30) : AccX n M' a := by
  cases a with
  | none => exact h1.trans h
  | some b =>
    unfold AccX at h ⊢
    rw [h1, h2, h3]
    exact h
def lkp (p : Pl) (w : Nat → Nat) : Acn → Acn
  | none => some (w, p)
  | some b => if gval p < gval b.2 then some (w, p) else some b
theorem not_le0 (r : Int32) : 0 ≤ r ↔ ¬ r < 0 := by
  rw [Int32.le_iff_toInt_le, Int32.lt_iff_toInt_lt]
  omega
def KpN (i : Nat) (M M' : Mem) : Prop := (∀ a b, a ≠ 29 → a ≠ 30 → ¬ (a = 27 ∧ b = 5) → M'.1 a b = M.1 a b) ∧ (∀ a b, a ≠ 27 → M'.2 a b = M.2 a b) ∧ ∀ b, b < i → M'.1 29 b = M.1 29 b
theorem KpN.rf {i : Nat} {M : Mem} : KpN i M M := ⟨fun _ _ _ _ _ => rfl, fun _ _ _ => rfl, fun _ _ => rfl⟩
theorem KpN.tr {i : Nat} {M M' M'' : Mem} (h : KpN i M M') (h' : KpN i M' M'') : KpN i M M'' := ⟨fun a b h1 h2 h3 => (h'.1 a b h1 h2 h3).trans (h.1 a b h1 h2 h3), fun a b h1 => (h'.2.1 a b h1).trans (h.2.1 a b h1), fun b hb => (h'.2.2 b hb).trans (h.2.2 b hb)⟩
theorem gv_lt {N : Nat} {p q : Pl} (hp : PB p 960) (hq : PB q 960) (M : Mem) : ∃ r, f_X7_signOf N M (J (gW p - gW q)) (J (gR p - gR q)) = some (r, M) ∧ (r < 0 ↔ gval p < gval q) := by
  have b1 := g_b hp
  have b2 := g_b hq
  obtain ⟨r, r1, r2⟩ := sg_lin N M (x := gW p - gW q) (y := gR p - gR q) (by omega) (by omega)
  refine ⟨r, r1, r2.trans ?_⟩
  unfold gval
  omega
theorem keep_wr {N n : Nat} {M : Mem} {w : Nat → Nat} {p : Pl} (hn : n ≤ 6) (hp : PB p 960) (hw : ∀ k, k < n → M.1 29 k = I (w k)) (hN : 2000 < N) : ∃ M', f_X6_copyAll shp N (seL (seL (seI M 27 5 1) 27 6 (J (gW p))) 27 7 (J (gR p))) 29 30 = some M' ∧ AccX n M' (some (w, p)) ∧ (∀ i, KpN i M M') := by
  refine ⟨_, copyAll_s (n0 := 6) (n1 := 6) rfl rfl (by decide) (by decide) (by decide) (by decide) hN, ⟨?_, ?_, ?_, hp, fun k hk => ?_⟩, fun i => ⟨fun a b h1 h2 h3 => ?_, fun a b h1 => ?_, fun b hb => ?_⟩⟩
  · rw [wrI_ne (by decide), seL_1, seL_1, seI_1, if_pos ⟨rfl, rfl⟩]
  · rw [wrI_2, seL_2, if_neg (by decide), seL_2, if_pos ⟨rfl, rfl⟩]
  · rw [wrI_2, seL_2, if_pos ⟨rfl, rfl⟩]
  · rw [wrI_s, if_pos (show k < 6 by omega), seL_1, seL_1, seI_ne (by decide)]
    exact hw k hk
  · rw [wrI_ne h2, seL_1, seL_1, seI_1, if_neg h3]
  · rw [wrI_2, seL_ne h1, seL_ne h1, seI_2]
  · rw [wrI_ne (by decide), seL_1, seL_1, seI_ne (by decide)]
theorem xkeep {N n : Nat} {M : Mem} {w : Nat → Nat} {p : Pl} {a : Acn} (hA : AccX n M a) (hn : n ≤ 6) (hp : PB p 960) (hw : ∀ k, k < n → M.1 29 k = I (w k)) (hN : 2000 < N) : ∃ M', f_X4_keepIfNearer N M (J (pkp p)) = some M' ∧ AccX n M' (lkp p w a) ∧ (∀ i, KpN i M M') := by
  obtain ⟨M', k1, k2, k3⟩ := keep_wr (N := N) hn hp hw hN
  unfold f_X4_keepIfNearer
  rw [sqW hp hN]
  simp only [bd2]
  rw [sqR hp hN]
  simp only [nm]
  cases a with
  | none =>
    rw [if_pos (show M.1 27 5 = 0 from hA), k1]
    exact ⟨M', rfl, k2, k3⟩
  | some b =>
    obtain ⟨a1, a2, a3, a4, a5⟩ := hA
    obtain ⟨r, r1, r2⟩ := gv_lt (N := N) hp a4 M
    rw [if_neg (show ¬ M.1 27 5 = 0 by rw [a1]; decide), a2, a3, J_sub, J_sub, sg_same, r1]
    simp only []
    show ∃ M', _ = some M' ∧ AccX n M' (if gval p < gval b.2 then some (w, p) else some b) ∧ ∀ i, KpN i M M'
    by_cases c : gval p < gval b.2
    · rw [if_neg (show ¬ 0 ≤ r from fun h => (not_le0 r).mp h (r2.mpr c)), k1, if_pos c]
      exact ⟨M', rfl, k2, k3⟩
    · rw [if_pos (show 0 ≤ r from (not_le0 r).mpr (fun h => c (r2.mp h))), if_neg c]
      exact ⟨M, rfl, ⟨a1, a2, a3, a4, a5⟩, fun i => KpN.rf⟩
theorem lfn_lkp {s : Pl × Nat} {w : Nat → Nat} {a : Acn} : lfn s w a = if s.2 = 0 ∧ s.1 ≠ (0, 0, 0, 0) then lkp s.1 w a else a := by
  cases a <;> rfl
theorem bkd_I : ∀ d : Nat, d < 8 → imin (I d) (8 - I d) = I (bkd d) := by decide +kernel
theorem bkd_b : ∀ d, d < 8 → bkd d ≤ 4 := by decide +kernel
/-- one turn of the loop over letters -/
theorem near_step {N n' i d l : Nat} {q : Int} {REC : Mem → Int32 → Int32 → Int64 → Int32 → Int32 → Option Mem} {M : Mem} {v2 v6 : Int32} {v3 : Int64} (hS : Sta M) (hP : Sps M) (hi : i < 6) (hl : l < 10) (hd : d < 8) (hq : M.1 28 (kd l) = I q) (hq0 : 0 ≤ q) (hq9 : q ≤ 9) :
    l_X4_layNear_31 N REC (n' + 1) M (I i) v2 v3 (I d) v6 (I l) = if q ≤ 0 ∨ (v6 = 0 ∧ tn l < 0) then l_X4_layNear_31 N REC n' M (I i) v2 v3 (I d) v6 (I (l + 1 : Nat)) else
      if v2 ≤ I (i + 1 : Nat) then (if dn d l = 0 ∧ v3 + J (pkp (stp (szf M) l d)) ≠ 0 then bd (f_X4_keepIfNearer N (seI M 29 i (I l)) (v3 + J (pkp (stp (szf M) l d)))) fun M2 => l_X4_layNear_31 N REC n' M2 (I i) v2 v3 (I d) v6 (I (l + 1 : Nat)) else l_X4_layNear_31 N REC n' (seI M 29 i (I l)) (I i) v2 v3 (I d) v6 (I (l + 1 : Nat)))
      else bd (REC (seI (seI M 29 i (I l)) 28 (kd l) (I (q - 1))) (I (i + 1 : Nat)) v2 (v3 + J (pkp (stp (szf M) l d))) (I (dn d l)) (if v6 = 0 ∧ tn l = 0 then 0 else 1)) fun M2 => l_X4_layNear_31 N REC n' (seI M2 28 (kd l) (M2.1 28 (kd l) + 1)) (I i) v2 v3 (I d) v6 (I (l + 1 : Nat)) := by
  have hk := kd_lt l hl
  have bt := tn_b l hl
  have el : I l + 1 = I (l + 1 : Nat) := by rw [I_1, I_add]; rfl
  have ei : I i + 1 = I (i + 1 : Nat) := by rw [I_1, I_add]; rfl
  have a46 : f_X6_at shp N M 46 (I l) = some (I (kd l), M) := by rw [at_in (n := 10) rfl (by decide) (by omega) (by omega), Int.toNat_natCast, sta_kd hS hl]
  have a47 : f_X6_at shp N M 47 (I l) = some (I (tn l), M) := by rw [at_in (n := 10) rfl (by decide) (by omega) (by omega), Int.toNat_natCast, sta_tn hS hl]
  have a28 : ∀ M : Mem, f_X6_at shp N M 28 (I (kd l)) = some (M.1 28 (kd l), M) := fun M => by rw [at_in (n := 7) rfl (by decide) (by omega) (by omega), Int.toNat_natCast]
  have p28 : ∀ (M : Mem) v, f_X6_put shp N M 28 (I (kd l)) v = some (seI M 28 (kd l) v) := fun M v => by rw [put_in (n := 7) rfl (by decide) (by decide) (by omega) (by omega), Int.toNat_natCast]
  have p29 : f_X6_put shp N M 29 (I i) (I l) = some (seI M 29 i (I l)) := by rw [put_in (n := 6) rfl (by decide) (by decide) (by omega) (by omega), Int.toNat_natCast]
  have st : f_X1_step N M (I d) (I l) = some (J (pkp (stp (szf M) l d)), M) := by
    unfold f_X1_step
    rw [I_10, I_mul, I_add, pat_in (n := 80) rfl (by decide) (by omega) (by omega), show ((d : Int) * 10 + (l : Nat)).toNat = 10 * d + l by omega, hP _ _ hd hl]
    rfl
  have tu : f_X1_turned N M (I d) (I l) = some (I (dn d l), M) := by
    unfold f_X1_turned
    rw [a47]
    simp only [bd2]
    rw [turn_and _ hd _ hl]
  have e29 : (seI M 29 i (I l)).1 28 (kd l) = I q := by rw [seI_ne (by decide)]; exact hq
  rw [l_X4_layNear_31, if_neg (show ¬ (10 : Int32) ≤ I l by rw [I_10, I_le] <;> omega)]
  simp only [bd2, bd, a46, a47, a28, p28, p29, st, tu, hq, e29, el, ei, lcmp0]
  have h9 := dn_lt d l
  have e1 : (I q ≤ 0) = (q ≤ 0) := by rw [I_0, I_le] <;> omega
  have e2 : (I (tn l) < 0) = (tn l < 0) := by rw [I_0, I_lt] <;> omega
  have e3 : (I (tn l) = 0) = (tn l = 0) := by rw [I_0, I_eq] <;> omega
  have e4 : (I (dn d l) = 0) = (dn d l = 0) := by rw [I_0, I_eq (by omega) (by omega) (by omega) (by omega)]; apply propext; omega
  have e5 : I q - 1 = I (q - 1) := by rw [I_1, I_sub]
  simp only [e1, e2, e3, e4, e5]
  by_cases c1 : q ≤ 0
  · rw [if_pos c1, if_pos (Or.inl c1)]
  · rw [if_neg c1]
    by_cases c6 : v6 = 0
    · rw [if_pos c6]
      by_cases c2 : tn l < 0
      · rw [if_pos c2, if_pos (show q ≤ 0 ∨ (v6 = 0 ∧ tn l < 0) from Or.inr ⟨c6, c2⟩)]
      · rw [if_neg c2, if_neg (show ¬ (q ≤ 0 ∨ (v6 = 0 ∧ tn l < 0)) from fun h => h.elim c1 (fun h => c2 h.2))]
        by_cases c3 : v2 ≤ I (i + 1 : Nat)
        · simp only [if_pos c3]
          by_cases c4 : dn d l = 0
          · rw [if_pos c4]
            by_cases c5 : v3 + J (pkp (stp (szf M) l d)) = 0
            · rw [if_pos c5, if_neg (show ¬ (dn d l = 0 ∧ v3 + J (pkp (stp (szf M) l d)) ≠ 0) from fun h => h.2 c5)]
            · rw [if_neg c5, if_pos (show dn d l = 0 ∧ v3 + J (pkp (stp (szf M) l d)) ≠ 0 from ⟨c4, c5⟩)]
          · rw [if_neg c4, if_neg (show ¬ (dn d l = 0 ∧ v3 + J (pkp (stp (szf M) l d)) ≠ 0) from fun h => c4 h.1)]
        · simp only [if_neg c3]
          by_cases c4 : tn l = 0
          · simp only [if_pos c4, if_pos c6, if_pos (show v6 = 0 ∧ tn l = 0 from ⟨c6, c4⟩)]
          · simp only [if_neg c4, if_pos c6, if_neg (show ¬ (v6 = 0 ∧ tn l = 0) from fun h => c4 h.2)]
    · rw [if_neg c6, if_neg (show ¬ (q ≤ 0 ∨ (v6 = 0 ∧ tn l < 0)) from fun h => h.elim c1 (fun h => c6 h.1))]
      by_cases c3 : v2 ≤ I (i + 1 : Nat)
      · simp only [if_pos c3]
        by_cases c4 : dn d l = 0
        · rw [if_pos c4]
          by_cases c5 : v3 + J (pkp (stp (szf M) l d)) = 0
          · rw [if_pos c5, if_neg (show ¬ (dn d l = 0 ∧ v3 + J (pkp (stp (szf M) l d)) ≠ 0) from fun h => h.2 c5)]
          · rw [if_neg c5, if_pos (show dn d l = 0 ∧ v3 + J (pkp (stp (szf M) l d)) ≠ 0 from ⟨c4, c5⟩)]
        · rw [if_neg c4, if_neg (show ¬ (dn d l = 0 ∧ v3 + J (pkp (stp (szf M) l d)) ≠ 0) from fun h => c4 h.1)]
      · simp only [if_neg c3]
        simp only [if_neg c6, if_neg (show ¬ (v6 = 0 ∧ tn l = 0) from fun h => c6 h.1)]
