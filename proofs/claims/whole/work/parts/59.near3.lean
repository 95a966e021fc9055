/-! Part 59: nearest, the class's whole search -/
theorem KpN.kpr {r : Nat → Nat → Bool} {i : Nat} {M M' : Mem} (h : KpN i M M') (hr : ∀ k j, r k j = true → k ≠ 29 ∧ k ≠ 30 ∧ k ≠ 27) : KpR r M M' :=
  ⟨fun k j hj => h.1 k j (hr k j hj).1 (hr k j hj).2.1 (fun h' => (hr k j hj).2.2 h'.1), fun k j hj => h.2.1 k j (hr k j hj).2.2⟩
theorem xnear {N n : Nat} {sz : Nat → Int} (hn : n ≤ 5) (hz : ∀ k, k < 7 → 0 ≤ sz k ∧ sz k ≤ 20) (hN : 2000 < N) : ∀ (r dd i : Nat) (M : Mem) (s : Pl × Nat) (w : Nat → Nat) (lf : Nat → Int) (bt : Bool) (a : Acn), i + (r + 1) = n → r < dd → Sta M → Sps M → szf M = sz → Lft M 28 lf → (∀ k, k < i → M.1 29 k = I (w k)) → PB s.1 (40 * i) → s.2 < 8 → AccX n M a →
    ∃ M', f_X4_layNear N dd M (I i) (I n) (J (pkp s.1)) (I s.2) (if bt = true then 1 else 0) = some M' ∧ KpN i M M' ∧ AccX n M' (xnr sz (r + 1) i s w lf bt a) := by
  intro r
  induction r using Nat.strongRecOn with
  | _ r ih =>
  intro dd i M s w lf bt a h1 h2 hS hP hsz hL hw hB hd hA
  obtain ⟨dd, rfl⟩ : ∃ q, dd = q + 1 := ⟨dd - 1, by omega⟩
  generalize hv : (if bt = true then (1 : Int32) else 0) = v6
  have e : f_X4_layNear N (dd + 1) M (I i) (I n) (J (pkp s.1)) (I s.2) v6 = if I n ≤ I i then some M else if imin (I s.2) (8 - I s.2) ≤ 2 * (I n - I i) then l_X4_layNear_31 N (f_X4_layNear N dd) N M (I i) (I n) (J (pkp s.1)) (I s.2) v6 (I (0 : Nat)) else some M := rfl
  have hbk := bkd_b s.2 hd
  rw [e, if_neg (by rw [I_le] <;> omega), bkd_I _ hd, I_2, I_sub, I_mul]
  unfold xnr
  by_cases c : bkd s.2 ≤ 2 * (r + 1)
  · rw [if_pos (by rw [I_le] <;> omega), if_pos c]
    generalize hf : (fun l a => if 0 < lf (kd l) ∧ (bt = true ∨ 0 ≤ tn l) then xnr sz r (i + 1) (padd s.1 (stp sz l s.2), dn s.2 l) (updw w i l) (updl lf (kd l) (lf (kd l) - 1)) (bt || !(decide (tn l = 0))) a else a) = f
    have key : ∀ (q l n' : Nat) (M1 : Mem), l + q = 10 → q < n' → KpN i M M1 → M1.1 28 = M.1 28 → AccX n M1 (fol f l a) → ∃ M', l_X4_layNear_31 N (f_X4_layNear N dd) n' M1 (I i) (I n) (J (pkp s.1)) (I s.2) v6 (I l) = some M' ∧ KpN i M M' ∧ M'.1 28 = M.1 28 ∧ AccX n M' (fol f 10 a) := by
      intro q
      induction q with
      | zero =>
        intro l n' M1 g1 g2 g3 g4 g5
        obtain ⟨n', rfl⟩ : ∃ q, n' = q + 1 := ⟨n' - 1, by omega⟩
        obtain rfl : l = 10 := by omega
        exact ⟨M1, by rw [l_X4_layNear_31, if_pos (by decide)], g3, g4, g5⟩
      | succ q ihq =>
        intro l n' M1 g1 g2 g3 g4 g5
        obtain ⟨n', rfl⟩ : ∃ q, n' = q + 1 := ⟨n' - 1, by omega⟩
        have hl : l < 10 := by omega
        have hk := kd_lt l hl
        have bt' := tn_b l hl
        obtain ⟨k1, k2, k3⟩ := hL (kd l) hk
        have hS1 : Sta M1 := hS.kp (g3.kpr fun k j hj => by have := Nat.ble_eq.mp hj; omega)
        have hP1 : Sps M1 := hP.kp (g3.kpr fun k j hj => by simp [rSps] at hj; omega)
        have hsz1 : szf M1 = sz := (szf.kp (fun j => g3.1 3 j (by decide) (by decide) (by omega))).trans hsz
        rw [near_step (q := lf (kd l)) hS1 hP1 (by omega) hl hd (by rw [g4]; exact k1) k2 k3, hsz1, J_pl]
        by_cases c2 : 0 < lf (kd l) ∧ (bt = true ∨ 0 ≤ tn l)
        · have fl : f l (fol f l a) = xnr sz r (i + 1) (padd s.1 (stp sz l s.2), dn s.2 l) (updw w i l) (updl lf (kd l) (lf (kd l) - 1)) (bt || !(decide (tn l = 0))) (fol f l a) := by
            rw [← hf]
            exact if_pos c2
          rw [if_neg (show ¬ (lf (kd l) ≤ 0 ∨ (v6 = 0 ∧ tn l < 0)) by
            rintro (h | ⟨h, h'⟩)
            · omega
            · rcases c2.2 with h3 | h3
              · rw [← hv, if_pos h3] at h
                exact absurd h (by decide)
              · omega)]
          have hw2 : ∀ k, k < i + 1 → (seI M1 29 i (I l)).1 29 k = I (updw w i l k) := fun k hk => by
            rw [seI_1]
            unfold updw
            by_cases e : k = i
            · rw [if_pos ⟨rfl, e⟩, if_pos e]
            · rw [if_neg (by omega), if_neg e, g3.2.2 k (by omega)]
              exact hw k (by omega)
          have hB2 := hB.step hz hl hd
          have hB9 := hB2.le (b := 960) (by omega)
          have kM : KpN i M (seI M1 29 i (I l)) := ⟨fun a b q1 q2 q3 => by rw [seI_ne q1]; exact g3.1 a b q1 q2 q3, fun a b q1 => g3.2.1 a b q1, fun b hb => by rw [seI_1, if_neg (by omega)]; exact g3.2.2 b hb⟩
          have aM : AccX n (seI M1 29 i (I l)) (fol f l a) := g5.kp (by rw [seI_ne (by decide)]) rfl (by rw [seI_ne (by decide)])
          have e28 : (seI M1 29 i (I l)).1 28 = M.1 28 := by rw [seI_ne (by decide), g4]
          rcases r with _ | r
          · rw [if_pos (show I n ≤ I (i + 1 : Nat) by rw [I_le] <;> omega)]
            have fl' : fol f (l + 1) a = if dn s.2 l = 0 ∧ padd s.1 (stp sz l s.2) ≠ (0, 0, 0, 0) then lkp (padd s.1 (stp sz l s.2)) (updw w i l) (fol f l a) else fol f l a := fl.trans lfn_lkp
            by_cases cc : dn s.2 l = 0 ∧ padd s.1 (stp sz l s.2) ≠ (0, 0, 0, 0)
            · rw [if_pos (show dn s.2 l = 0 ∧ J (pkp (padd s.1 (stp sz l s.2))) ≠ 0 from ⟨cc.1, fun h => cc.2 (by rw [pl0 hB9] at h; exact h)⟩)]
              rw [if_pos cc] at fl'
              obtain ⟨M2, p1, p2, p3⟩ := xkeep (N := N) aM (by omega) hB9 (fun k hk => hw2 k (by omega)) hN
              rw [p1]
              simp only [bd]
              exact ihq (l + 1) n' M2 (by omega) (by omega) (kM.tr (p3 i)) (by funext b; rw [(p3 i).1 28 b (by decide) (by decide) (by omega), e28]) (by rw [fl']; exact p2)
            · rw [if_neg (show ¬ (dn s.2 l = 0 ∧ J (pkp (padd s.1 (stp sz l s.2))) ≠ 0) from fun h => cc ⟨h.1, fun h' => h.2 (by rw [pl0 hB9]; exact h')⟩)]
              rw [if_neg cc] at fl'
              exact ihq (l + 1) n' _ (by omega) (by omega) kM e28 (by rw [fl']; exact aM)
          · rw [if_neg (show ¬ I n ≤ I (i + 1 : Nat) by rw [I_le] <;> omega)]
            have ev : (if v6 = 0 ∧ tn l = 0 then (0 : Int32) else 1) = if (bt || !(decide (tn l = 0))) = true then 1 else 0 := by
              rw [← hv]
              cases bt <;> by_cases h0 : tn l = 0 <;> simp [h0]
            rw [ev]
            obtain ⟨M3, r1, r2, r3⟩ := ih r (by omega) dd (i + 1) (seI (seI M1 29 i (I l)) 28 (kd l) (I (lf (kd l) - 1))) (padd s.1 (stp sz l s.2), dn s.2 l) (updw w i l) (updl lf (kd l) (lf (kd l) - 1)) (bt || !(decide (tn l = 0))) (fol f l a) (by omega) (by omega) (hS1.kp ((KpR.rf.I rfl).I rfl)) (hP1.kp ((KpR.rf.I rfl).I rfl)) ((szf.kp (fun j => by rw [seI_ne (by decide), seI_ne (by decide)])).trans hsz1)
              (Lft.dec (fun k hk => by rw [e28]; exact hL k hk) c2.1) (fun k hk => by rw [seI_ne (by decide)]; exact hw2 k hk) hB2 (dn_lt _ _) (aM.kp (by rw [seI_ne (by decide)]) rfl (by rw [seI_ne (by decide)]))
            rw [← fl] at r3
            rw [r1]
            simp only [bd]
            have m28 : ∀ b, M3.1 28 b = if b = kd l then I (lf (kd l) - 1) else M.1 28 b := fun b => by
              rw [r2.1 28 b (by decide) (by decide) (by omega), seI_1, e28]
              by_cases e : b = kd l
              · rw [if_pos ⟨rfl, e⟩, if_pos e]
              · rw [if_neg (by omega), if_neg e]
            rw [m28, if_pos rfl, I_1, I_add, show lf (kd l) - 1 + 1 = lf (kd l) by omega]
            refine ihq (l + 1) n' _ (by omega) (by omega) ⟨fun a b q1 q2 q3 => ?_, fun a b q1 => ?_, fun b hb => ?_⟩ ?_ (r3.kp (by rw [seI_ne (by decide)]) rfl (by rw [seI_ne (by decide)]))
            · rw [seI_1]
              by_cases ea : a = 28
              · subst ea
                by_cases eb : b = kd l
                · rw [if_pos ⟨rfl, eb⟩, eb, k1]
                · rw [if_neg (by omega), m28, if_neg eb]
              · rw [if_neg (by omega), r2.1 a b q1 q2 q3, seI_ne ea]
                exact kM.1 a b q1 q2 q3
            · rw [seI_2, r2.2.1 a b q1, seI_2]
              exact kM.2.1 a b q1
            · rw [seI_ne (by decide), r2.2.2 b (by omega), seI_ne (by decide)]
              exact kM.2.2 b hb
            · funext b
              rw [seI_1]
              by_cases eb : b = kd l
              · rw [if_pos ⟨rfl, eb⟩, eb, k1]
              · rw [if_neg (by omega), m28, if_neg eb]
        · have fl : f l (fol f l a) = fol f l a := by
            rw [← hf]
            exact if_neg c2
          rw [if_pos (show lf (kd l) ≤ 0 ∨ (v6 = 0 ∧ tn l < 0) by
            by_cases h0 : 0 < lf (kd l)
            · refine Or.inr ⟨?_, ?_⟩
              · rw [← hv, if_neg]
                exact fun h => c2 ⟨h0, Or.inl h⟩
              · by_cases h3 : 0 ≤ tn l
                · exact absurd ⟨h0, Or.inr h3⟩ c2
                · omega
            · exact Or.inl (by omega))]
          exact ihq (l + 1) n' M1 (by omega) (by omega) g3 g4 (by rw [show fol f (l + 1) a = f l (fol f l a) from rfl, fl]; exact g5)
    obtain ⟨M', t1, t2, t3, t4⟩ := key 10 0 N M rfl (by omega) KpN.rf rfl hA
    exact ⟨M', t1, t2, t4⟩
  · rw [if_neg (by rw [I_le] <;> omega), if_neg c]
    exact ⟨M, rfl, KpN.rf, hA⟩
