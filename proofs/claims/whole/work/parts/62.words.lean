/-! Part 62: words in order, nested and flat -/
def nest {A : Type} : Nat → Nat → (Nat → Nat) → ((Nat → Nat) → A → A) → A → A
  | 0, _, w, F, a => F w a
  | r + 1, i, w, F, a => fol (fun l a => nest r (i + 1) (updw w i l) F a) 10 a
theorem updw_lt {w : Nat → Nat} {i l j : Nat} (h : j < i) : updw w i l j = w j := if_neg (by omega)
theorem updw_gt {w : Nat → Nat} {i l j : Nat} (h : i < j) : updw w i l j = w j := if_neg (by omega)
theorem updw_eq {w : Nat → Nat} {i l : Nat} : updw w i l i = l := if_pos rfl
theorem nest_id {A : Type} {F : (Nat → Nat) → A → A} {a : A} : ∀ (r i : Nat) (w : Nat → Nat), (∀ w', (∀ j, j < i → w' j = w j) → F w' a = a) → nest r i w F a = a
  | 0, _, w, h => h w (fun _ _ => rfl)
  | r + 1, i, w, h => fol_id 10 (fun l _ => nest_id r (i + 1) _ (fun w' hw => h w' (fun j hj => by rw [hw j (by omega)]; exact updw_lt hj)))
theorem nest_cg {A : Type} {F G : (Nat → Nat) → A → A} : ∀ (r i : Nat) (w : Nat → Nat) (a : A), (∀ w' a, (∀ j, j < i → w' j = w j) → (∀ j, i ≤ j → j < i + r → w' j < 10) → F w' a = G w' a) → nest r i w F a = nest r i w G a
  | 0, _, w, a, h => h w a (fun _ _ => rfl) (fun j h1 h2 => by omega)
  | r + 1, i, w, a, h => fol_cg 10 (fun l hl => nest_cg r (i + 1) _ _ (fun w' a hw hw2 => h w' a (fun j hj => by rw [hw j (by omega)]; exact updw_lt hj) (fun j h1 h2 => by
      by_cases e : j = i
      · subst e
        rw [hw j (by omega), updw_eq]
        exact hl
      · exact hw2 j (by omega) (by omega))))
theorem cntK_cg {w w' : Nat → Nat} {k : Nat} : ∀ n, (∀ j, j < n → w j = w' j) → cntK w k n = cntK w' k n
  | 0, _ => rfl
  | n + 1, h => by
    unfold cntK
    rw [cntK_cg n (fun j hj => h j (by omega)), h n (by omega)]
theorem cntK_mono {w : Nat → Nat} {k i : Nat} : ∀ q, cntK w k i ≤ cntK w k (i + q)
  | 0 => Nat.le_refl _
  | q + 1 => by
    have := cntK_mono (w := w) (k := k) (i := i) q
    show _ ≤ cntK w k (i + q) + _
    omega
theorem cntK_upd {w : Nat → Nat} {k i l : Nat} : cntK (updw w i l) k (i + 1) = cntK w k i + (if kd l = k then 1 else 0) := by
  show cntK (updw w i l) k i + (if kd (updw w i l i) = k then 1 else 0) = _
  rw [updw_eq, cntK_cg i (fun j hj => updw_lt hj)]
theorem gf_nest {A : Type} {sz : Nat → Int} {st : A → Bool} {leaf : Pl × Nat → (Nat → Nat) → A → A} {n : Nat} {bx : Nat → Int} (hb : ∀ k, k < 7 → 0 ≤ bx k) : ∀ (r i : Nat) (w : Nat → Nat) (lf : Nat → Int) (a : A), i + r = n → (∀ k, k < 7 → lf k = bx k - cntK w k i) → (∀ k, k < 7 → 0 ≤ lf k) → st a = false →
    gf sz st leaf r i (wf sz w i) w lf a = nest r i w (fun w a => if st a = true then a else if lackS w n bx 7 = 0 then leaf (wf sz w n) w a else a) a
  | 0, i, w, lf, a, h1, h2, h3, h4 => by
    obtain rfl : i = n := by omega
    show leaf (wf sz w i) w a = if st a = true then a else if lackS w i bx 7 = 0 then leaf (wf sz w i) w a else a
    rw [if_neg (by rw [h4]; decide), if_pos]
    refine (lackS_0 w i bx hb 7 (Nat.le_refl 7)).mpr (fun k hk => ?_)
    have := h2 k hk
    have := h3 k hk
    omega
  | r + 1, i, w, lf, a, h1, h2, h3, h4 => by
    unfold gf nest
    refine fol_cg 10 (fun l hl => ?_)
    generalize fol (fun l a => nest r (i + 1) (updw w i l) (fun w a => if st a = true then a else if lackS w n bx 7 = 0 then leaf (wf sz w n) w a else a) a) l a = b
    have hk := kd_lt l hl
    by_cases c : st b = true
    · rw [if_pos c]
      exact (nest_id r (i + 1) _ (fun w' _ => by simp [c])).symm
    · rw [if_neg c]
      by_cases c2 : 0 < lf (kd l)
      · rw [if_pos c2, ← wf_upd]
        refine gf_nest hb r (i + 1) _ _ b (by omega) (fun k hk' => ?_) (fun k hk' => ?_) (by simpa using c)
        · rw [cntK_upd]
          unfold updl
          have := h2 k hk'
          by_cases e : k = kd l
          · subst e
            rw [if_pos rfl, if_pos rfl]
            omega
          · rw [if_neg e, if_neg (Ne.symm e)]
            omega
        · unfold updl
          have := h3 k hk'
          by_cases e : k = kd l
          · rw [if_pos e]; omega
          · rw [if_neg e]; exact this
      · rw [if_neg c2]
        refine (nest_id r (i + 1) _ (fun w' hw => ?_)).symm
        rw [if_neg c, if_neg]
        intro h
        have h5 := (lackS_0 w' n bx hb 7 (Nat.le_refl 7)).mp h (kd l) hk
        have h6 := cntK_mono (w := w') (k := kd l) (i := i + 1) r
        rw [cntK_cg (w := w') (w' := updw w i l) (i + 1) hw, cntK_upd, if_pos rfl, show i + 1 + r = n by omega] at h6
        have := h2 _ hk
        have := h3 _ hk
        omega
theorem fol_add {A : Type} {G : Nat → A → A} {x : Nat} {a : A} : ∀ m, fol G (x + m) a = fol (fun c a => G (x + c) a) m (fol G x a)
  | 0 => rfl
  | m + 1 => by
    show G (x + m) (fol G (x + m) a) = G (x + m) (fol (fun c a => G (x + c) a) m (fol G x a))
    rw [fol_add m]
theorem fol_mul {A : Type} {G : Nat → A → A} {m : Nat} {a : A} : ∀ j, fol (fun l a => fol (fun c a => G (l * m + c) a) m a) j a = fol G (j * m) a
  | 0 => by rw [Nat.zero_mul]; rfl
  | j + 1 => by
    show fol (fun c a => G (j * m + c) a) m (fol (fun l a => fol (fun c a => G (l * m + c) a) m a) j a) = _
    rw [fol_mul j, Nat.succ_mul, fol_add (G := G) (x := j * m)]
theorem nest_app {A : Type} {F : (Nat → Nat) → A → A} {p : Nat} : ∀ (q i : Nat) (w : Nat → Nat) (a : A), nest (q + p) i w F a = nest q i w (fun w a => nest p (i + q) w F a) a
  | 0, i, w, a => by rw [Nat.zero_add]; rfl
  | q + 1, i, w, a => by
    rw [show q + 1 + p = q + p + 1 by omega]
    show fol (fun l a => nest (q + p) (i + 1) (updw w i l) F a) 10 a = fol (fun l a => nest q (i + 1) (updw w i l) (fun w a => nest p (i + (q + 1)) w F a) a) 10 a
    refine fol_cg 10 (fun l _ => ?_)
    rw [nest_app q (i + 1), show i + 1 + q = i + (q + 1) by omega]
/-- the digits of a number, from place i on -/
def dg (w : Nat → Nat) (i : Nat) : Nat → Nat → Nat → Nat
  | 0, _ => w
  | q + 1, c => updw (dg w i q (c / 10)) (i + q) (c % 10)
theorem nest_flat {A : Type} {F : (Nat → Nat) → A → A} {i : Nat} {w : Nat → Nat} : ∀ (q : Nat) (F : (Nat → Nat) → A → A) (a : A), nest q i w F a = fol (fun c a => F (dg w i q c) a) (10 ^ q) a
  | 0, F, a => rfl
  | q + 1, F, a => by
    rw [nest_app (p := 1) q i w a, nest_flat (F := F) q, Nat.pow_succ, ← fol_mul]
    refine fol_cg _ (fun c _ => ?_)
    show fol (fun l a => F (updw (dg w i q c) (i + q) l) a) 10 _ = fol (fun l a => F (updw (dg w i q ((c * 10 + l) / 10)) (i + q) ((c * 10 + l) % 10)) a) 10 _
    refine fol_cg 10 (fun l hl => ?_)
    rw [show (c * 10 + l) / 10 = c by omega, show (c * 10 + l) % 10 = l by omega]
theorem fol_rel {A B : Type} {R : Nat → A → B → Prop} {f : Nat → A → A} {g : Nat → B → B} {a : A} {b : B} (h0 : R 0 a b) : ∀ m, (∀ c, c < m → ∀ a b, R c a b → R (c + 1) (f c a) (g c b)) → R m (fol f m a) (fol g m b)
  | 0, _ => h0
  | m + 1, h => h m (by omega) _ _ (fol_rel h0 m (fun c hc => h c (by omega)))
theorem dg_out {w : Nat → Nat} {i : Nat} : ∀ (q c j : Nat), (j < i ∨ i + q ≤ j) → dg w i q c j = w j
  | 0, _, _, _ => rfl
  | q + 1, c, j, h => by
    show updw (dg w i q (c / 10)) (i + q) (c % 10) j = w j
    rw [show updw (dg w i q (c / 10)) (i + q) (c % 10) j = dg w i q (c / 10) j from if_neg (by omega)]
    exact dg_out q _ j (by omega)
theorem dg_lt {w : Nat → Nat} {i : Nat} : ∀ (q c j : Nat), i ≤ j → j < i + q → dg w i q c j < 10
  | 0, _, _, h1, h2 => by omega
  | q + 1, c, j, h1, h2 => by
    show updw (dg w i q (c / 10)) (i + q) (c % 10) j < 10
    by_cases e : j = i + q
    · subst e
      rw [updw_eq]
      omega
    · rw [show updw (dg w i q (c / 10)) (i + q) (c % 10) j = dg w i q (c / 10) j from if_neg e]
      exact dg_lt q _ j h1 (by omega)
