/-! Part 57: nearest: the sign of a number, linear; the pruned search finds the same -/
theorem sqlt {a b : Nat} (h : a * a < b * b) : a < b := Nat.lt_of_not_le fun h2 => by
  have := Nat.mul_le_mul h2 h2
  omega
theorem pell {X Y : Nat} (hY : Y ≤ 30000000) (h0 : 0 < Y) : (X * X ≤ 2 * (Y * Y) → X * 93222358 < Y * 131836323) ∧ (2 * (Y * Y) < X * X → Y * 131836323 < X * 93222358) := by
  have hYY : Y * Y ≤ 30000000 * 30000000 := Nat.mul_le_mul hY hY
  have hY1 : 0 < Y * Y := Nat.mul_pos h0 h0
  refine ⟨fun h => sqlt ?_, fun h => sqlt ?_⟩
  · rw [Nat.mul_mul_mul_comm, Nat.mul_mul_mul_comm Y]
    generalize X * X = u at *
    generalize Y * Y = v at *
    omega
  · rw [Nat.mul_mul_mul_comm, Nat.mul_mul_mul_comm X]
    generalize X * X = u at *
    generalize Y * Y = v at *
    omega
theorem lcl (x y : Int64) : (lg_cmp x y < 0) = (x < y) := propext (lg_cmp_lt x y)
theorem lcg (x y : Int64) : (0 < lg_cmp x y) = (y < x) := propext (lg_cmp_gt x y)
theorem lcle (x y : Int64) : (lg_cmp x y ≤ 0) = (x ≤ y) := propext (lg_cmp_le x y)
theorem sg_lin (N : Nat) (M : Mem) {x y : Int} (hx : -30000000 ≤ x ∧ x ≤ 30000000) (hy : -30000000 ≤ y ∧ y ≤ 30000000) : ∃ r, f_X7_signOf N M (J x) (J y) = some (r, M) ∧ (r < 0 ↔ x * 93222358 + y * 131836323 < 0) := by
  have hX : x.natAbs ≤ 30000000 := by omega
  have hY : y.natAbs ≤ 30000000 := by omega
  have bX := Nat.mul_le_mul hX hX
  have bY := Nat.mul_le_mul hY hY
  have eX : x * x = ((x.natAbs * x.natAbs : Nat) : Int) := Int.natAbs_mul_self.symm
  have eY : 2 * y * y = ((2 * (y.natAbs * y.natAbs) : Nat) : Int) := by
    rw [Int.mul_assoc, Int.natCast_mul, Int.natAbs_mul_self]
    rfl
  have e1 : (lg_cmp (J x) (J 0) = 0) = (x = 0) := by rw [lcmp0, J_eq] <;> omega
  have e2 : (lg_cmp (J y) (J 0) = 0) = (y = 0) := by rw [lcmp0, J_eq] <;> omega
  have e3 : (lg_cmp (J x) (J 0) < 0) = (x < 0) := by rw [lcl, J_lt] <;> omega
  have e4 : (lg_cmp (J y) (J 0) < 0) = (y < 0) := by rw [lcl, J_lt] <;> omega
  have e5 : (0 < lg_cmp (J x) (J 0)) = (0 < x) := by rw [lcg, J_lt] <;> omega
  have e6 : (0 < lg_cmp (J y) (J 0)) = (0 < y) := by rw [lcg, J_lt] <;> omega
  have e7 : (lg_cmp (J x) (J 0) ≤ 0) = (x ≤ 0) := by rw [lcle, J_le] <;> omega
  have e8 : (lg_cmp (J x * J x) (J 2 * J y * J y) ≤ 0) = (x.natAbs * x.natAbs ≤ 2 * (y.natAbs * y.natAbs)) := by
    rw [J_mul, J_mul, J_mul, lcle, eX, eY, J_le (by omega) (by omega) (by omega) (by omega), Int.ofNat_le]
  have hp : 0 < y.natAbs → _ := fun h => pell (X := x.natAbs) hY h
  unfold f_X7_signOf
  rw [J_0, J_2]
  simp only [e1, e2, e3, e4, e5, e6, e7, e8]
  generalize x.natAbs * x.natAbs = u at *
  generalize y.natAbs * y.natAbs = v at *
  rcases (show x < 0 ∨ x = 0 ∨ 0 < x by omega) with h | h | h <;> rcases (show y < 0 ∨ y = 0 ∨ 0 < y by omega) with h' | h' | h'
  · refine ⟨-1, by simp only [h, h', if_true, if_false, show ¬ x = 0 by omega, show ¬ y = 0 by omega, show ¬ 0 < x by omega, show ¬ 0 < y by omega], ⟨fun _ => by omega, fun _ => by decide⟩⟩
  · exact ⟨-1, by subst h'; simp only [h, if_true, if_false, show ¬ x = 0 by omega, show ¬ 0 < x by omega, show ¬ (0 : Int) < 0 by omega], ⟨fun _ => by omega, fun _ => by decide⟩⟩
  · have hp := hp (by omega)
    by_cases c : u ≤ 2 * v
    · have := hp.1 c
      exact ⟨1, by simp only [h, h', c, if_true, if_false, show ¬ x = 0 by omega, show ¬ y = 0 by omega, show ¬ 0 < x by omega, show x ≤ 0 by omega, show ¬ y < 0 by omega], ⟨fun h => absurd h (by decide), fun _ => by omega⟩⟩
    · have := hp.2 (by omega)
      exact ⟨-1, by simp only [h, h', c, if_true, if_false, show ¬ x = 0 by omega, show ¬ y = 0 by omega, show ¬ 0 < x by omega, show x ≤ 0 by omega, show ¬ y < 0 by omega], ⟨fun _ => by omega, fun _ => by decide⟩⟩
  · exact ⟨-1, by subst h; simp only [h', if_true, if_false, show ¬ y = 0 by omega, show ¬ 0 < y by omega, show ¬ (0 : Int) < 0 by omega], ⟨fun _ => by omega, fun _ => by decide⟩⟩
  · exact ⟨0, by subst h; subst h'; rfl, ⟨fun h => absurd h (by decide), fun _ => by omega⟩⟩
  · exact ⟨1, by subst h; simp only [h', if_true, if_false, show ¬ y = 0 by omega, show ¬ y < 0 by omega, show ¬ (0 : Int) < 0 by omega], ⟨fun h => absurd h (by decide), fun _ => by omega⟩⟩
  · have hp := hp (by omega)
    by_cases c : u ≤ 2 * v
    · have := hp.1 c
      exact ⟨-1, by simp only [h, h', c, if_true, if_false, show ¬ x = 0 by omega, show ¬ y = 0 by omega, show ¬ x < 0 by omega, show ¬ x ≤ 0 by omega, show ¬ 0 < y by omega], ⟨fun _ => by omega, fun _ => by decide⟩⟩
    · have := hp.2 (by omega)
      exact ⟨1, by simp only [h, h', c, if_true, if_false, show ¬ x = 0 by omega, show ¬ y = 0 by omega, show ¬ x < 0 by omega, show ¬ x ≤ 0 by omega, show ¬ 0 < y by omega], ⟨fun h => absurd h (by decide), fun _ => by omega⟩⟩
  · exact ⟨1, by subst h'; simp only [h, if_true, if_false, show ¬ x = 0 by omega, show ¬ x < 0 by omega, show ¬ (0 : Int) < 0 by omega], ⟨fun h => absurd h (by decide), fun _ => by omega⟩⟩
  · exact ⟨1, by simp only [h, h', if_true, if_false, show ¬ x = 0 by omega, show ¬ y = 0 by omega, show ¬ x < 0 by omega, show ¬ y < 0 by omega], ⟨fun h => absurd h (by decide), fun _ => by omega⟩⟩
def gval (p : Pl) : Int := gW p * 93222358 + gR p * 131836323
abbrev Acn : Type := Option ((Nat → Nat) × Pl)
def lfn (s : Pl × Nat) (w : Nat → Nat) (a : Acn) : Acn := if s.2 = 0 ∧ s.1 ≠ (0, 0, 0, 0) then (match a with
  | none => some (w, s.1)
  | some b => if gval s.1 < gval b.2 then some (w, s.1) else some b) else a
def Low (v : Int) (a : Acn) : Prop := ∃ b, a = some b ∧ gval b.2 ≤ v
def AllL (sz : Nat → Int) : Nat → Pl × Nat → (Nat → Int) → (Int → Prop) → Prop
  | 0, s, _, P => s.2 = 0 → s.1 ≠ (0, 0, 0, 0) → P (gval s.1)
  | r + 1, s, lf, P => ∀ l, l < 10 → 0 < lf (kd l) → AllL sz r (padd s.1 (stp sz l s.2), dn s.2 l) (updl lf (kd l) (lf (kd l) - 1)) P
theorem AllL.mono {sz : Nat → Int} {P Q : Int → Prop} (hPQ : ∀ v, P v → Q v) : ∀ (r : Nat) (s : Pl × Nat) (lf : Nat → Int), AllL sz r s lf P → AllL sz r s lf Q
  | 0, _, _, h => fun h1 h2 => hPQ _ (h h1 h2)
  | r + 1, _, _, h => fun l hl h0 => AllL.mono hPQ r _ _ (h l hl h0)
theorem low_lfn {s : Pl × Nat} {w : Nat → Nat} {a : Acn} {v : Int} (h : Low v a) : Low v (lfn s w a) := by
  obtain ⟨b, rfl, hb⟩ := h
  unfold lfn
  by_cases c : s.2 = 0 ∧ s.1 ≠ (0, 0, 0, 0)
  · rw [if_pos c]
    simp only []
    by_cases c2 : gval s.1 < gval b.2
    · rw [if_pos c2]; exact ⟨_, rfl, by show gval s.1 ≤ v; omega⟩
    · rw [if_neg c2]; exact ⟨_, rfl, hb⟩
  · rw [if_neg c]; exact ⟨_, rfl, hb⟩
theorem fol_pr {A : Type} {f : Nat → A → A} {P : A → Prop} (hf : ∀ l a, P a → P (f l a)) : ∀ (j : Nat) (a : A), P a → P (fol f j a)
  | 0, _, h => h
  | j + 1, a, h => hf j _ (fol_pr hf j a h)
theorem fol_fr {A : Type} {f : Nat → A → A} {P : A → Prop} (hf : ∀ l a, P a → P (f l a)) {j : Nat} {a : A} (h : P (fol f j a)) : ∀ q, P (fol f (j + q) a)
  | 0 => h
  | q + 1 => hf (j + q) _ (fol_fr hf h q)
theorem fol_id {A : Type} {f : Nat → A → A} {a : A} : ∀ (j : Nat), (∀ l, l < j → f l a = a) → fol f j a = a
  | 0, _ => rfl
  | j + 1, h => by
    show f j (fol f j a) = a
    rw [fol_id j (fun l hl => h l (by omega)), h j (by omega)]
def mnr (sz : Nat → Int) : Nat → Nat → Pl × Nat → (Nat → Nat) → (Nat → Int) → Acn → Acn := gf sz (fun _ => false) lfn
theorem mnr_s {sz : Nat → Int} {r i : Nat} {s : Pl × Nat} {w : Nat → Nat} {lf : Nat → Int} {a : Acn} : mnr sz (r + 1) i s w lf a = fol (fun l a => if 0 < lf (kd l) then mnr sz r (i + 1) (padd s.1 (stp sz l s.2), dn s.2 l) (updw w i l) (updl lf (kd l) (lf (kd l) - 1)) a else a) 10 a := by
  unfold mnr
  rw [gf]
  congr 1
theorem mnr_0 {sz : Nat → Int} {i : Nat} {s : Pl × Nat} {w : Nat → Nat} {lf : Nat → Int} {a : Acn} : mnr sz 0 i s w lf a = lfn s w a := rfl
theorem low_mnr {sz : Nat → Int} {v : Int} : ∀ (r i : Nat) (s : Pl × Nat) (w : Nat → Nat) (lf : Nat → Int) (a : Acn), Low v a → Low v (mnr sz r i s w lf a)
  | 0, _, _, _, _, _, h => low_lfn h
  | r + 1, i, s, w, lf, a, h => by
    rw [mnr_s]
    refine fol_pr (P := Low v) (fun l a h => ?_) 10 a h
    by_cases c : 0 < lf (kd l)
    · simp only [if_pos c]; exact low_mnr r _ _ _ _ _ h
    · simp only [if_neg c]; exact h
theorem same_mnr {sz : Nat → Int} {a : Acn} : ∀ (r i : Nat) (s : Pl × Nat) (w : Nat → Nat) (lf : Nat → Int), AllL sz r s lf (fun v => Low v a) → mnr sz r i s w lf a = a
  | 0, _, s, w, _, h => by
    show lfn s w a = a
    unfold lfn
    by_cases c : s.2 = 0 ∧ s.1 ≠ (0, 0, 0, 0)
    · rw [if_pos c]
      obtain ⟨b, rfl, hb⟩ := h c.1 c.2
      simp only []
      rw [if_neg (by omega)]
    · rw [if_neg c]
  | r + 1, i, s, w, lf, h => by
    rw [mnr_s]
    refine fol_id 10 (fun l hl => ?_)
    by_cases c : 0 < lf (kd l)
    · simp only [if_pos c]; exact same_mnr r _ _ _ _ (h l hl c)
    · simp only [if_neg c]
theorem all_mnr {sz : Nat → Int} : ∀ (r i : Nat) (s : Pl × Nat) (w : Nat → Nat) (lf : Nat → Int) (a : Acn), AllL sz r s lf (fun v => Low v (mnr sz r i s w lf a))
  | 0, i, s, w, lf, a => fun h1 h2 => by
    show Low (gval s.1) (lfn s w a)
    unfold lfn
    rw [if_pos ⟨h1, h2⟩]
    rcases a with _ | b
    · exact ⟨_, rfl, Int.le_refl _⟩
    · simp only []
      by_cases c : gval s.1 < gval b.2
      · rw [if_pos c]; exact ⟨_, rfl, Int.le_refl _⟩
      · rw [if_neg c]; exact ⟨_, rfl, by omega⟩
  | r + 1, i, s, w, lf, a => fun l hl h0 => by
    rw [mnr_s]
    generalize hf : (fun l a => if 0 < lf (kd l) then mnr sz r (i + 1) (padd s.1 (stp sz l s.2), dn s.2 l) (updw w i l) (updl lf (kd l) (lf (kd l) - 1)) a else a) = f
    refine AllL.mono (fun v hv => ?_) r _ _ (all_mnr r (i + 1) _ (updw w i l) _ (fol f l a))
    have e : fol f (l + 1) a = mnr sz r (i + 1) (padd s.1 (stp sz l s.2), dn s.2 l) (updw w i l) (updl lf (kd l) (lf (kd l) - 1)) (fol f l a) := by
      show f l (fol f l a) = _
      rw [← hf]
      exact if_pos h0
    rw [← e] at hv
    have := fol_fr (f := f) (P := Low v) (fun l a h => by
      rw [← hf]
      by_cases c : 0 < lf (kd l)
      · simp only [if_pos c]; exact low_mnr r _ _ _ _ _ h
      · simp only [if_neg c]; exact h) hv (9 - l)
    rw [show l + 1 + (9 - l) = 10 by omega] at this
    exact this
/-- left and right changed -/
def mirp (p : Pl) : Pl := (p.1, p.2.1, -p.2.2.1, -p.2.2.2)
def mirs (s : Pl × Nat) : Pl × Nat := (mirp s.1, (8 - s.2) % 8)
theorem cof_mir : ∀ l, l < 10 → ∀ d, d < 8 → cof (mr l) ((8 - d) % 8) = mirp (cof l d) ∧ dn ((8 - d) % 8) (mr l) = (8 - dn d l) % 8 ∧ kd (mr l) = kd l ∧ mr (mr l) = l := by decide +kernel
theorem step_mir {sz : Nat → Int} {s : Pl × Nat} {l : Nat} (hl : l < 10) (hd : s.2 < 8) : (padd (mirs s).1 (stp sz (mr l) (mirs s).2), dn (mirs s).2 (mr l)) = mirs (padd s.1 (stp sz l s.2), dn s.2 l) := by
  obtain ⟨e1, e2, e3, -⟩ := cof_mir l hl s.2 hd
  unfold mirs stp
  dsimp only
  rw [e1, e2, e3]
  refine Prod.ext ?_ rfl
  unfold mirp padd psc
  dsimp only
  rw [Int.mul_neg, Int.mul_neg, Int.neg_add, Int.neg_add]
theorem gval_mir (p : Pl) : gval (mirp p) = gval p := by
  unfold gval gW gR mirp
  dsimp only
  rw [Int.neg_mul_neg, Int.neg_mul_neg, Int.neg_mul_neg]
theorem mirp_0 {p : Pl} (h : mirp p ≠ (0, 0, 0, 0)) : p ≠ (0, 0, 0, 0) := by
  rintro rfl
  exact h rfl
theorem AllL.mir {sz : Nat → Int} {P : Int → Prop} : ∀ (r : Nat) (s : Pl × Nat) (lf : Nat → Int), s.2 < 8 → AllL sz r s lf P → AllL sz r (mirs s) lf P
  | 0, s, _, hd, h => fun h1 h2 => by
    have h1 : (8 - s.2) % 8 = 0 := h1
    have := h (by omega) (mirp_0 h2)
    show P (gval (mirp s.1))
    rw [gval_mir]
    exact this
  | r + 1, s, lf, hd, h => fun l hl h0 => by
    obtain ⟨-, -, e3, e4⟩ := cof_mir l hl s.2 hd
    have hm := mr_lt l hl
    have e := step_mir (sz := sz) (s := s) hm hd
    rw [e4] at e
    rw [e]
    have h5 := h (mr l) hm (by rw [e3]; exact h0)
    rw [e3] at h5
    exact AllL.mir r _ _ (dn_lt _ _) h5
def bkd (d : Nat) : Nat := if d < 8 - d then d else 8 - d
theorem bkd_st : ∀ d, d < 8 → ∀ l, l < 10 → bkd d ≤ bkd (dn d l) + 2 := by decide +kernel
theorem AllL.far {sz : Nat → Int} {P : Int → Prop} : ∀ (r : Nat) (s : Pl × Nat) (lf : Nat → Int), s.2 < 8 → 2 * r < bkd s.2 → AllL sz r s lf P
  | 0, s, _, hd, h => fun h1 h2 => by
    rw [h1] at h
    exact absurd h (by decide)
  | r + 1, s, lf, hd, h => fun l hl h0 => by
    have := bkd_st s.2 hd l hl
    exact AllL.far r _ _ (dn_lt _ _) (by dsimp only; omega)
def xnr (sz : Nat → Int) : Nat → Nat → Pl × Nat → (Nat → Nat) → (Nat → Int) → Bool → Acn → Acn
  | 0, _, s, w, _, _, a => lfn s w a
  | r + 1, i, s, w, lf, bt, a => if bkd s.2 ≤ 2 * (r + 1) then fol (fun l a => if 0 < lf (kd l) ∧ (bt = true ∨ 0 ≤ tn l) then xnr sz r (i + 1) (padd s.1 (stp sz l s.2), dn s.2 l) (updw w i l) (updl lf (kd l) (lf (kd l) - 1)) (bt || !(decide (tn l = 0))) a else a) 10 a else a
theorem fol_cg {A : Type} {f g : Nat → A → A} {a : A} : ∀ (j : Nat), (∀ l, l < j → f l (fol g l a) = g l (fol g l a)) → fol f j a = fol g j a
  | 0, _ => rfl
  | j + 1, h => by
    show f j (fol f j a) = g j (fol g j a)
    rw [fol_cg j (fun l hl => h l (by omega)), h j (by omega)]
theorem xnr_t {sz : Nat → Int} : ∀ (r i : Nat) (s : Pl × Nat) (w : Nat → Nat) (lf : Nat → Int) (a : Acn), s.2 < 8 → xnr sz r i s w lf true a = mnr sz r i s w lf a
  | 0, _, _, _, _, _, _ => rfl
  | r + 1, i, s, w, lf, a, hd => by
    unfold xnr
    by_cases c : bkd s.2 ≤ 2 * (r + 1)
    · rw [if_pos c, mnr_s]
      refine fol_cg 10 (fun l hl => ?_)
      by_cases c2 : 0 < lf (kd l)
      · rw [if_pos ⟨c2, Or.inl rfl⟩, if_pos c2]
        exact xnr_t r _ _ _ _ _ (dn_lt _ _)
      · rw [if_neg (fun h => c2 h.1), if_neg c2]
    · rw [if_neg c]
      exact (same_mnr (r + 1) i s w lf (AllL.far (r + 1) s lf hd (by omega))).symm
theorem ax_st : ∀ l, l < 10 → tn l = 0 → (cof l 0).2.2.1 = 0 ∧ (cof l 0).2.2.2 = 0 ∧ dn 0 l = 0 := by decide +kernel
theorem mr_bf : ∀ l, l < 10 → tn l < 0 → mr l < l := by decide +kernel
theorem xnr_f {sz : Nat → Int} : ∀ (r i : Nat) (s : Pl × Nat) (w : Nat → Nat) (lf : Nat → Int) (a : Acn), s.2 = 0 → s.1.2.2.1 = 0 → s.1.2.2.2 = 0 → xnr sz r i s w lf false a = mnr sz r i s w lf a
  | 0, _, _, _, _, _, _, _, _ => rfl
  | r + 1, i, s, w, lf, a, hd, h1, h2 => by
    unfold xnr
    rw [if_pos (by rw [hd]; exact Nat.zero_le _), mnr_s]
    refine fol_cg 10 (fun l hl => ?_)
    generalize hg : (fun l a => if 0 < lf (kd l) then mnr sz r (i + 1) (padd s.1 (stp sz l s.2), dn s.2 l) (updw w i l) (updl lf (kd l) (lf (kd l) - 1)) a else a) = g
    have hgl : ∀ l b, 0 < lf (kd l) → g l b = mnr sz r (i + 1) (padd s.1 (stp sz l s.2), dn s.2 l) (updw w i l) (updl lf (kd l) (lf (kd l) - 1)) b := fun l b h => by rw [← hg]; exact if_pos h
    have hgn : ∀ l b, ¬ 0 < lf (kd l) → g l b = b := fun l b h => by rw [← hg]; exact if_neg h
    by_cases c2 : 0 < lf (kd l)
    · rw [if_pos c2]
      by_cases c3 : 0 ≤ tn l
      · rw [if_pos ⟨c2, Or.inr c3⟩]
        by_cases c4 : tn l = 0
        · rw [show (false || !(decide (tn l = 0))) = false by simp [c4]]
          obtain ⟨a1, a2, a3⟩ := ax_st l hl c4
          refine xnr_f r _ _ _ _ _ ?_ ?_ ?_
          · show dn s.2 l = 0
            rw [hd, a3]
          · show s.1.2.2.1 + sz (kd l) * (cof l s.2).2.2.1 = 0
            rw [hd, a1, h1, Int.mul_zero]; rfl
          · show s.1.2.2.2 + sz (kd l) * (cof l s.2).2.2.2 = 0
            rw [hd, a2, h2, Int.mul_zero]; rfl
        · rw [show (false || !(decide (tn l = 0))) = true by simp [c4]]
          exact xnr_t r _ _ _ _ _ (dn_lt _ _)
      · rw [if_neg (fun h => h.2.elim (fun h => by cases h) c3)]
        refine (same_mnr r _ _ _ _ ?_).symm
        have hb := mr_bf l hl (by omega)
        have hm := mr_lt l hl
        obtain ⟨-, -, e3, e4⟩ := cof_mir l hl 0 (by decide)
        have c2' : 0 < lf (kd (mr l)) := by rw [e3]; exact c2
        have k1 := all_mnr (sz := sz) r (i + 1) (padd s.1 (stp sz (mr l) s.2), dn s.2 (mr l)) (updw w i (mr l)) (updl lf (kd (mr l)) (lf (kd (mr l)) - 1)) (fol g (mr l) a)
        rw [← hgl (mr l) _ c2'] at k1
        have k2 := AllL.mono (Q := fun v => Low v (fol g l a)) (fun v hv => by
          have hv : Low v (fol g (mr l + 1) a) := hv
          have := fol_fr (f := g) (P := Low v) (fun l b h => by
            by_cases c : 0 < lf (kd l)
            · rw [hgl l b c]; exact low_mnr r _ _ _ _ _ h
            · rw [hgn l b c]; exact h) hv (l - (mr l + 1))
          rw [show mr l + 1 + (l - (mr l + 1)) = l by omega] at this
          exact this) r _ _ k1
        have k3 := AllL.mir r _ _ (dn_lt _ _) k2
        rw [← step_mir (sz := sz) (s := s) hm (by rw [hd]; decide), e4, e3] at k3
        have em : mirs s = s := by
          refine Prod.ext ?_ ?_
          · show mirp s.1 = s.1
            refine Prod.ext rfl (Prod.ext rfl (Prod.ext ?_ ?_))
            · show -s.1.2.2.1 = s.1.2.2.1
              omega
            · show -s.1.2.2.2 = s.1.2.2.2
              omega
          · show (8 - s.2) % 8 = s.2
            rw [hd]
        rw [em] at k3
        exact k3
    · rw [if_neg (fun h => c2 h.1), if_neg c2]
