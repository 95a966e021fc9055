/-! Part 56: the reference's search, for any leaf -/
def fol {A : Type} (f : Nat → A → A) : Nat → A → A
  | 0, a => a
  | j + 1, a => f j (fol f j a)
theorem fol_stop {A : Type} {f : Nat → A → A} {st : A → Bool} (hf : ∀ l a, st a = true → f l a = a) {l : Nat} {a : A} (h : st (fol f l a) = true) : ∀ q, fol f (l + q) a = fol f l a
  | 0 => rfl
  | q + 1 => by
    have e := fol_stop hf h q
    show f (l + q) (fol f (l + q) a) = _
    rw [e, hf _ _ h]
def updw (w : Nat → Nat) (i l : Nat) (j : Nat) : Nat := if j = i then l else w j
def gf {A : Type} (sz : Nat → Int) (st : A → Bool) (leaf : Pl × Nat → (Nat → Nat) → A → A) : Nat → Nat → Pl × Nat → (Nat → Nat) → (Nat → Int) → A → A
  | 0, _, s, w, _, a => leaf s w a
  | r + 1, i, s, w, lf, a => fol (fun l a => if st a = true then a else if 0 < lf (kd l) then gf sz st leaf r (i + 1) (padd s.1 (stp sz l s.2), dn s.2 l) (updw w i l) (updl lf (kd l) (lf (kd l) - 1)) a else a) 10 a
theorem wf_congr {sz : Nat → Int} {w w' : Nat → Nat} : ∀ n, (∀ j, j < n → w j = w' j) → wf sz w n = wf sz w' n
  | 0, _ => rfl
  | n + 1, h => by
    show (padd (wf sz w n).1 (stp sz (w n) (wf sz w n).2), dn (wf sz w n).2 (w n)) = (padd (wf sz w' n).1 (stp sz (w' n) (wf sz w' n).2), dn (wf sz w' n).2 (w' n))
    rw [wf_congr n (fun j hj => h j (by omega)), h n (by omega)]
theorem wf_upd {sz : Nat → Int} {w : Nat → Nat} {i l : Nat} : wf sz (updw w i l) (i + 1) = (padd (wf sz w i).1 (stp sz l (wf sz w i).2), dn (wf sz w i).2 l) := by
  have e : wf sz (updw w i l) i = wf sz w i := wf_congr i (fun j hj => if_neg (by omega))
  have e2 : updw w i l i = l := if_pos rfl
  show (padd (wf sz (updw w i l) i).1 (stp sz (updw w i l i) (wf sz (updw w i l) i).2), dn (wf sz (updw w i l) i).2 (updw w i l i)) = _
  rw [e, e2]
/-- the joints of the first i pieces of w, and these -/
def Jn (M : Mem) (sz : Nat → Int) (i : Nat) (w : Nat → Nat) : Prop := (∀ j, j ≤ i → At M (5 * j) (wf sz w j).1 ∧ M.1 39 (5 * j + 4) = I (wf sz w j).2) ∧ ∀ j, j < i → M.1 40 j = I (w j) ∧ w j < 10
def KpS (X : Nat → Nat → Bool) (i : Nat) (M M' : Mem) : Prop := (∀ a b, a ≠ 39 → a ≠ 40 → ¬ (a = 34 ∧ (b = 9 ∨ b = 10)) → X a b = false → M'.1 a b = M.1 a b) ∧ M'.2 = M.2 ∧ (∀ b, b < 5 * (i + 1) → M'.1 39 b = M.1 39 b) ∧ ∀ b, b < i → M'.1 40 b = M.1 40 b
theorem KpS.rf {X : Nat → Nat → Bool} {i : Nat} {M : Mem} : KpS X i M M := ⟨fun _ _ _ _ _ _ => rfl, rfl, fun _ _ => rfl, fun _ _ => rfl⟩
theorem At.cg {M M' : Mem} {p : Nat} {P : Pl} (h : At M p P) (h1 : ∀ b, b < p + 4 → M'.1 39 b = M.1 39 b) : At M' p P := by
  unfold At at h ⊢
  rw [h1 _ (by omega), h1 _ (by omega), h1 _ (by omega), h1 _ (by omega)]
  exact h
theorem Jn.cg {M M' : Mem} {sz : Nat → Int} {i : Nat} {w : Nat → Nat} (h : Jn M sz i w) (h1 : ∀ b, b < 5 * (i + 1) → M'.1 39 b = M.1 39 b) (h2 : ∀ b, b < i → M'.1 40 b = M.1 40 b) : Jn M' sz i w :=
  ⟨fun j hj => ⟨(h.1 j hj).1.cg (fun b hb => h1 b (by omega)), by rw [h1 _ (by omega)]; exact (h.1 j hj).2⟩, fun j hj => by rw [h2 j hj]; exact h.2 j hj⟩
theorem msearch {A : Type} {N n : Nat} {t : Int32} {sz : Nat → Int} {st : A → Bool} {leaf : Pl × Nat → (Nat → Nat) → A → A} {X : Nat → Nat → Bool} {E : Mem → Prop} {RA : Mem → A → Prop} (ht : t ≠ 2) (hn : n ≤ 6) (hz : ∀ k, k < 7 → 0 ≤ sz k ∧ sz k ≤ 20) (hN : 2000 < N)
    (hX36 : ∀ b, X 36 b = false) (hX41 : ∀ b, X 41 b = false) (hX39 : ∀ b, X 39 b = false) (hX40 : ∀ b, X 40 b = false) (hX9 : X 34 9 = false) (hX10 : X 34 10 = false)
    (hE1 : ∀ M, E M → M.1 34 8 = I n ∧ Szm M sz)
    (hE : ∀ M M' : Mem, E M → (∀ a b, a ≠ 39 → a ≠ 40 → a ≠ 41 → ¬ (a = 34 ∧ (b = 9 ∨ b = 10)) → X a b = false → M'.1 a b = M.1 a b) → E M')
    (hRA : ∀ (M M' : Mem) a, RA M a → (∀ x b, X x b = true → M'.1 x b = M.1 x b) → RA M' a)
    (hst : ∀ (M : Mem) a, RA M a → M.1 34 23 = if st a = true then 1 else 0)
    (hleaf : ∀ dd M w a, E M → Jn M sz n w → RA M a → st a = false → ∃ M', f_X7_goesOn N (dd + 1) M (I n) t = some M' ∧ KpS X n M M' ∧ RA M' (leaf (wf sz w n) w a)) :
    ∀ (r dd i : Nat) (M : Mem) (w : Nat → Nat) (lf : Nat → Int) (a : A), i + r = n → r < dd → E M → Jn M sz i w → Lft M 41 lf → RA M a → st a = false →
    ∃ M', f_X7_goesOn N dd M (I i) t = some M' ∧ KpS X i M M' ∧ RA M' (gf sz st leaf r i (wf sz w i) w lf a) := by
  intro r
  induction r with
  | zero =>
    intro dd i M w lf a h1 h2 hEM hJ hL hA hs
    obtain ⟨dd, rfl⟩ : ∃ q, dd = q + 1 := ⟨dd - 1, by omega⟩
    obtain rfl : i = n := by omega
    exact hleaf dd M w a hEM hJ hA hs
  | succ r ih =>
    intro dd i M w lf a h1 h2 hEM hJ hL hA hs
    obtain ⟨dd, rfl⟩ : ∃ q, dd = q + 1 := ⟨dd - 1, by omega⟩
    obtain ⟨h8, hsz⟩ := hE1 M hEM
    have e : f_X7_goesOn N (dd + 1) M (I i) t = l_X7_goesOn_55 N (f_X7_goesOn N dd) N M (I i) t (I (0 : Nat)) := by
      show (if I i = M.1 34 8 then _ else _) = _
      rw [if_neg (show ¬ I i = M.1 34 8 by rw [h8, I_eq] <;> omega)]
      rfl
    rw [e]
    unfold gf
    generalize hf : (fun l a => if st a = true then a else if 0 < lf (kd l) then gf sz st leaf r (i + 1) (padd (wf sz w i).1 (stp sz l (wf sz w i).2), dn (wf sz w i).2 l) (updw w i l) (updl lf (kd l) (lf (kd l) - 1)) a else a) = f
    have fst : ∀ l a, st a = true → f l a = a := fun l a h => by rw [← hf]; exact if_pos h
    have hd : (wf sz w i).2 < 8 := wf_d sz w i
    have key : ∀ (q l n' : Nat) (M1 : Mem), l + q = 10 → q < n' → KpS X i M M1 → RA M1 (fol f l a) → ∃ M', l_X7_goesOn_55 N (f_X7_goesOn N dd) n' M1 (I i) t (I l) = some M' ∧ KpS X i M M' ∧ RA M' (fol f 10 a) := by
      intro q
      induction q with
      | zero =>
        intro l n' M1 g1 g2 g3 g4
        obtain ⟨n', rfl⟩ : ∃ q, n' = q + 1 := ⟨n' - 1, by omega⟩
        obtain rfl : l = 10 := by omega
        exact ⟨M1, by rw [l_X7_goesOn_55, if_pos (by decide)], g3, g4⟩
      | succ q ihq =>
        intro l n' M1 g1 g2 g3 g4
        obtain ⟨n', rfl⟩ : ∃ q, n' = q + 1 := ⟨n' - 1, by omega⟩
        have hl : l < 10 := by omega
        have hk := kd_lt l hl
        obtain ⟨k1, k2, k3⟩ := hL (kd l) hk
        have e23 := hst M1 _ g4
        by_cases cs : st (fol f l a) = true
        · refine ⟨M1, ?_, g3, ?_⟩
          · rw [l_X7_goesOn_55, if_neg (show ¬ (10 : Int32) ≤ I l by rw [I_10, I_le] <;> omega), if_neg (show ¬ M1.1 34 23 = 0 by rw [e23, if_pos cs]; decide)]
          · have e := fol_stop fst cs (q + 1)
            rw [show 10 = l + (q + 1) by omega, e]
            exact g4
        have cs' : st (fol f l a) = false := by simpa using cs
        rw [if_neg cs] at e23
        have el : I l + 1 = I (l + 1 : Nat) := by rw [I_1, I_add]; rfl
        have m41 : M1.1 41 (kd l) = I (lf (kd l)) := (g3.1 41 _ (by decide) (by decide) (by omega) (hX41 _)).trans k1
        have ik : inb (I (kd l)) 7 := by rw [I_inb] <;> omega
        have xk : ix (I (kd l)) = kd l := by rw [I_ix (by omega) (by omega)]; omega
        have i24 : inb (I i) 24 := by rw [I_inb] <;> omega
        have xi : ix (I i) = i := by rw [I_ix (by omega) (by omega)]; omega
        have stepE : l_X7_goesOn_55 N (f_X7_goesOn N dd) (n' + 1) M1 (I i) t (I l) = if M1.1 41 (kd l) = 0 then l_X7_goesOn_55 N (f_X7_goesOn N dd) n' M1 (I i) t (I (l + 1 : Nat)) else
            bd (f_X7_lays N (seI (seI M1 41 (kd l) (M1.1 41 (kd l) - 1)) 40 i (I l)) (I i)) fun M32 => bd (f_X7_goesOn N dd M32 (I i + 1) t) fun M34 => l_X7_goesOn_55 N (f_X7_goesOn N dd) n' (seI M34 41 (kd l) (M34.1 41 (kd l) + 1)) (I i) t (I (l + 1 : Nat)) := by
          rw [l_X7_goesOn_55, if_neg (show ¬ (10 : Int32) ≤ I l by rw [I_10, I_le] <;> omega), if_pos e23, kindOf_s hl]
          simp only [bd2, ck, nm, if_pos ik, if_pos i24, xk, xi, el, if_neg ht]
        rw [stepE]
        by_cases c : 0 < lf (kd l)
        · have fl : f l (fol f l a) = gf sz st leaf r (i + 1) (padd (wf sz w i).1 (stp sz l (wf sz w i).2), dn (wf sz w i).2 l) (updw w i l) (updl lf (kd l) (lf (kd l) - 1)) (fol f l a) := by
            rw [← hf]
            exact (if_neg (by rw [hf]; exact cs)).trans (if_pos c)
          rw [if_neg (show ¬ M1.1 41 (kd l) = 0 by rw [m41, I_0, I_eq] <;> omega), m41, I_1, I_sub]
          have hJ1 : Jn M1 sz i w := hJ.cg g3.2.2.1 g3.2.2.2
          have hA1 : At (seI (seI M1 41 (kd l) (I (lf (kd l) - 1))) 40 i (I l)) (5 * i) (wf sz w i).1 := (hJ1.1 i (Nat.le_refl i)).1.cg (fun b hb => by rw [seI_ne (by decide), seI_ne (by decide)])
          obtain ⟨M2, p1, p2, p3, p4⟩ := lays_s (N := N) (p := i) (l := l) (d := (wf sz w i).2) (M := seI (seI M1 41 (kd l) (I (lf (kd l) - 1))) 40 i (I l)) (z := sz (kd l)) (by omega) hl hd (hz _ hk).1 (hz _ hk).2 (by simp [seI_1]) (by rw [seI_ne (by decide), seI_ne (by decide), g3.1 36 _ (by decide) (by decide) (by omega) (hX36 _)]; exact hsz _ hk) hA1 (by rw [seI_ne (by decide), seI_ne (by decide)]; exact (hJ1.1 i (Nat.le_refl i)).2) hN
          have k12 : ∀ a b, a ≠ 39 → a ≠ 40 → a ≠ 41 → ¬ (a = 34 ∧ (b = 9 ∨ b = 10)) → M2.1 a b = M1.1 a b := fun a b q1 q2 q3 q4 => by rw [p4.1 a b q1 q4, seI_ne q2, seI_ne q3]
          have k39 : ∀ b, b < 5 * (i + 1) → M2.1 39 b = M1.1 39 b := fun b hb => by rw [p4.2.2 b (by omega), seI_ne (by decide), seI_ne (by decide)]
          have k40 : ∀ b, M2.1 40 b = (seI M1 40 i (I l)).1 40 b := fun b => by
            rw [p4.1 40 b (by decide) (by omega)]
            simp [seI_1]
          have k41 : ∀ b, M2.1 41 b = (seI M1 41 (kd l) (I (lf (kd l) - 1))).1 41 b := fun b => by rw [p4.1 41 b (by decide) (by omega), seI_ne (by decide)]
          have hL1 : Lft M1 41 lf := fun k hk => ⟨(g3.1 41 k (by decide) (by decide) (by omega) (hX41 _)).trans (hL k hk).1, (hL k hk).2⟩
          have hL2 : Lft M2 41 (updl lf (kd l) (lf (kd l) - 1)) := fun k hk => ⟨(k41 k).trans (hL1.dec c k hk).1, (hL1.dec c k hk).2⟩
          have hE2 : E M2 := hE M M2 hEM (fun a b q1 q2 q3 q4 q5 => by rw [k12 a b q1 q2 q3 q4]; exact g3.1 a b q1 q2 q4 q5)
          have hJ2 : Jn M2 sz (i + 1) (updw w i l) := by
            refine ⟨fun j hj => ?_, fun j hj => ?_⟩
            · by_cases e : j = i + 1
              · subst e
                rw [wf_upd]
                exact ⟨p2, p3⟩
              · rw [wf_congr (w := updw w i l) (w' := w) j (fun k hk => if_neg (by omega))]
                refine ⟨(hJ1.1 j (by omega)).1.cg (fun b hb => k39 b (by omega)), ?_⟩
                rw [k39 _ (by omega)]
                exact (hJ1.1 j (by omega)).2
            · rw [k40, seI_1]
              unfold updw
              by_cases e : j = i
              · rw [if_pos ⟨rfl, e⟩, if_pos e]
                exact ⟨rfl, hl⟩
              · rw [if_neg (by omega), if_neg e]
                exact hJ1.2 j (by omega)
          have hA2 : RA M2 (fol f l a) := hRA M1 M2 _ g4 (fun x b hx => by
            by_cases e39 : x = 39
            · subst e39; rw [hX39] at hx; cases hx
            by_cases e40 : x = 40
            · subst e40; rw [hX40] at hx; cases hx
            by_cases e41 : x = 41
            · subst e41; rw [hX41] at hx; cases hx
            refine k12 x b e39 e40 e41 ?_
            rintro ⟨rfl, rfl | rfl⟩
            · rw [hX9] at hx; cases hx
            · rw [hX10] at hx; cases hx)
          obtain ⟨M3, r1, r2, r3⟩ := ih dd (i + 1) M2 (updw w i l) (updl lf (kd l) (lf (kd l) - 1)) (fol f l a) (by omega) (by omega) hE2 hJ2 hL2 hA2 cs'
          rw [wf_upd, ← fl] at r3
          have m3 : M3.1 41 (kd l) = I (lf (kd l) - 1) := by rw [r2.1 41 _ (by decide) (by decide) (by omega) (hX41 _), k41, seI_1, if_pos ⟨rfl, rfl⟩]
          obtain ⟨M', t1, t2, t3⟩ := ihq (l + 1) n' (seI M3 41 (kd l) (I (lf (kd l)))) (by omega) (by omega) ⟨fun x b q1 q2 q3 q4 => by
              by_cases e41 : x = 41
              · subst e41
                rw [seI_1]
                by_cases eb : b = kd l
                · rw [if_pos ⟨rfl, eb⟩, eb, k1]
                · rw [if_neg (by omega), r2.1 41 _ (by decide) (by decide) (by omega) (hX41 _), k41, seI_1, if_neg (by omega), g3.1 41 _ (by decide) (by decide) (by omega) (hX41 _)]
              · rw [seI_ne e41, r2.1 x b q1 q2 q3 q4, k12 x b q1 q2 e41 q3]; exact g3.1 x b q1 q2 q3 q4,
            by rw [seI_2, r2.2.1, p4.2.1, seI_2, seI_2]; exact g3.2.1,
            fun b hb => by rw [seI_ne (by decide), r2.2.2.1 b (by omega), k39 b hb]; exact g3.2.2.1 b hb,
            fun b hb => by rw [seI_ne (by decide), r2.2.2.2 b (by omega), k40, seI_1, if_neg (by omega)]; exact g3.2.2.2 b hb⟩ (hRA M3 _ _ r3 (fun x b hx => by
              have : x ≠ 41 := by rintro rfl; rw [hX41] at hx; cases hx
              rw [seI_ne this]))
          refine ⟨M', ?_, t2, t3⟩
          rw [p1]
          simp only [bd]
          rw [I_add, show (i : Int) + 1 = ((i + 1 : Nat) : Int) by omega, r1]
          simp only []
          rw [m3, I_add, show lf (kd l) - 1 + 1 = lf (kd l) by omega]
          exact t1
        · have fl : f l (fol f l a) = fol f l a := by
            rw [← hf]
            exact (if_neg (by rw [hf]; exact cs)).trans (if_neg c)
          obtain ⟨M', t1, t2, t3⟩ := ihq (l + 1) n' M1 (by omega) (by omega) g3 (by rw [show fol f (l + 1) a = f l (fol f l a) from rfl, fl]; exact g4)
          refine ⟨M', ?_, t2, t3⟩
          rw [if_pos (show M1.1 41 (kd l) = 0 by rw [m41, show lf (kd l) = 0 by omega]; rfl)]; exact t1
    exact key 10 0 N M rfl (by omega) KpS.rf hA
