/-! Part 73: opens -/
theorem fol_ix {A : Type} {P : Nat → A → Prop} {f : Nat → A → A} {a : A} (h0 : P 0 a) : ∀ m, (∀ c, c < m → ∀ a, P c a → P (c + 1) (f c a)) → P m (fol f m a)
  | 0, _ => h0
  | m + 1, h => h m (by omega) _ (fol_ix h0 m (fun c hc => h c (by omega)))
theorem suml_le {f : Nat → Nat} (h : ∀ c, f c ≤ 1) : ∀ m, suml f m ≤ m
  | 0 => Nat.le_refl 0
  | m + 1 => by
    have := suml_le h m
    have := h m
    unfold suml
    omega
theorem suml_add {f g e : Nat → Nat} (h : ∀ c, f c = g c + e c) : ∀ m, suml f m = suml g m + suml e m
  | 0 => rfl
  | m + 1 => by
    unfold suml
    rw [suml_add h m, h m]
    omega
def b2n (b : Bool) : Nat := if b = true then 1 else 0
theorem b2n_le (b : Bool) : b2n b ≤ 1 := by cases b <;> decide
def cntP (n : Nat) (P : (Nat → Nat) → Bool) (T : Nat) : Nat := suml (fun c => b2n (P (dg zw 0 n c))) T
theorem cntP_le {n : Nat} {P : (Nat → Nat) → Bool} {T : Nat} : cntP n P T ≤ T := suml_le (fun _ => b2n_le _) T
theorem lack1 {w : Nat → Nat} {n : Nat} {b : Nat → Int} (hb : ∀ k, k < 7 → 0 ≤ b k) : ∀ j, j ≤ 7 → lackS w n b j = 1 → ∃ i, i < j ∧ (cntK w i n : Int) = b i + 1 ∧ ∀ i', i' < j → i' ≠ i → (cntK w i' n : Int) ≤ b i'
  | 0, _, h => by
    unfold lackS at h
    omega
  | j + 1, hj, h => by
    have h0 := (lackS_b w n b hb j (by omega)).1
    unfold lackS at h
    by_cases c : (cntK w j n : Int) - b j < 0
    · rw [if_pos c] at h
      obtain ⟨i, i1, i2, i3⟩ := lack1 (w := w) (n := n) hb j (by omega) (by omega)
      refine ⟨i, by omega, i2, fun i' h1 h2 => ?_⟩
      by_cases e : i' = j
      · subst e; omega
      · exact i3 i' (by omega) h2
    · rw [if_neg c] at h
      rcases (show lackS w n b j = 1 ∧ (cntK w j n : Int) - b j = 0 ∨ lackS w n b j = 0 ∧ (cntK w j n : Int) - b j = 1 by omega) with ⟨a1, a2⟩ | ⟨a1, a2⟩
      · obtain ⟨i, i1, i2, i3⟩ := lack1 (w := w) (n := n) hb j (by omega) a1
        refine ⟨i, by omega, i2, fun i' h1 h2 => ?_⟩
        by_cases e : i' = j
        · subst e; omega
        · exact i3 i' (by omega) h2
      · refine ⟨j, by omega, by omega, fun i' h1 h2 => ?_⟩
        exact (lackS_0 w n b hb j (by omega)).mp a1 i' (by omega)
theorem lack1c {w : Nat → Nat} {n : Nat} {b : Nat → Int} {i : Nat} (hb : ∀ k, k < 7 → 0 ≤ b k) (hi : (cntK w i n : Int) = b i + 1) : ∀ j, j ≤ 7 → i < j → (∀ i', i' < j → i' ≠ i → (cntK w i' n : Int) ≤ b i') → lackS w n b j = 1
  | 0, _, h, _ => by omega
  | j + 1, hj, h, ho => by
    unfold lackS
    by_cases e : i = j
    · subst e
      rw [(lackS_0 w n b hb i (by omega)).mpr (fun k hk => ho k (by omega) (by omega)), if_neg (by omega)]
      omega
    · rw [lack1c hb hi j (by omega) (by omega) (fun i' h1 h2 => ho i' (by omega) h2)]
      have := ho j (by omega) (Ne.symm e)
      split <;> omega
theorem lkd_eq {w : Nat → Nat} {n : Nat} {b : Nat → Int} {i : Nat} (hi7 : i < 7) (hi : (cntK w i n : Int) = b i + 1) (ho : ∀ i', i' < 7 → i' ≠ i → (cntK w i' n : Int) ≤ b i') : lkd w n b = i := by
  obtain ⟨h1, h2, h3, h4⟩ := lkT_b (w := w) (n := n) (bx := b) 7 0
  unfold lkd
  by_cases c : lkT w n b 7 0 < 7
  · by_cases e : lkT w n b 7 0 = i
    · exact e
    · exact absurd (ho _ c e) (h4 (by omega))
  · have := h3 i (by omega) (by omega)
    omega
/-- one piece more of a kind -/
def ek (b : Nat → Int) (k : Nat) : Nat → Int := updl b k (b k + 1)
theorem lack_e {w : Nat → Nat} {n : Nat} {b : Nat → Int} {k : Nat} (hb : ∀ k, k < 7 → 0 ≤ b k) (hk : k < 7) : lackS w n (ek b k) 7 = 0 ↔ (lackS w n b 7 = 0 ∨ (lackS w n b 7 = 1 ∧ lkd w n b = k)) := by
  have he : ∀ j, j < 7 → 0 ≤ ek b k j := fun j hj => by
    have := hb j hj
    have := hb k hk
    unfold ek updl
    split <;> omega
  rw [lackS_0 w n (ek b k) he 7 (Nat.le_refl 7), lackS_0 w n b hb 7 (Nat.le_refl 7)]
  constructor
  · intro h
    have hk1 := h k hk
    unfold ek updl at hk1
    rw [if_pos rfl] at hk1
    have ho : ∀ i', i' < 7 → i' ≠ k → (cntK w i' n : Int) ≤ b i' := fun i' h1 h2 => by
      have := h i' h1
      unfold ek updl at this
      rw [if_neg h2] at this
      exact this
    by_cases c : (cntK w k n : Int) ≤ b k
    · refine Or.inl (fun j hj => ?_)
      by_cases e : j = k
      · rw [e]; exact c
      · exact ho j hj e
    · exact Or.inr ⟨lack1c hb (by omega) 7 (Nat.le_refl 7) hk ho, lkd_eq hk (by omega) ho⟩
  · rintro (h | ⟨h1, h2⟩) j hj
    · have := h j hj
      unfold ek updl
      split
      · rename_i e; subst e; omega
      · exact this
    · obtain ⟨i, i1, i2, i3⟩ := lack1 hb 7 (Nat.le_refl 7) h1
      have := lkd_eq i1 i2 i3
      rw [h2] at this
      subst this
      unfold ek updl
      by_cases e : j = k
      · rw [if_pos e, e]; omega
      · rw [if_neg e]; exact i3 j hj e
def rgc (N : Nat) (M0 : Mem) (sz : Nat → Int) (n : Nat) (lie : Bool) (b : Nat → Int) (w : Nat → Nat) : Bool := rgb N M0 sz n lie w && decide (lackS w n b 7 = 0)
def rgk (N : Nat) (M0 : Mem) (sz : Nat → Int) (n : Nat) (lie : Bool) (b : Nat → Int) (k : Nat) (w : Nat → Nat) : Bool := rgb N M0 sz n lie w && decide (lackS w n b 7 = 1 ∧ lkd w n b = k)
theorem rgc_e {N : Nat} {M0 : Mem} {sz : Nat → Int} {n : Nat} {lie : Bool} {b : Nat → Int} {k : Nat} {w : Nat → Nat} (hb : ∀ k, k < 7 → 0 ≤ b k) (hk : k < 7) : b2n (rgc N M0 sz n lie (ek b k) w) = b2n (rgc N M0 sz n lie b w) + b2n (rgk N M0 sz n lie b k w) := by
  have h := lack_e (w := w) (n := n) hb hk
  unfold rgc rgk
  cases rgb N M0 sz n lie w with
  | false => rfl
  | true =>
    by_cases c0 : lackS w n b 7 = 0
    · rw [decide_eq_true (h.mpr (Or.inl c0)), decide_eq_true c0, decide_eq_false (fun h' => by omega)]
      rfl
    · rw [decide_eq_false c0]
      by_cases c1 : lackS w n b 7 = 1 ∧ lkd w n b = k
      · rw [decide_eq_true (h.mpr (Or.inr c1)), decide_eq_true c1]
        rfl
      · rw [decide_eq_false (fun h' => (h.mp h').elim c0 c1), decide_eq_false c1]
        rfl
/-- the reference's number of rings -/
theorem mres_cnt {N : Nat} {M0 : Mem} {sz b : Nat → Int} {n T : Nat} {lie : Bool} (hT : T ≤ 1000000) (hf : ∀ (A : Type) (F : (Nat → Nat) → A → A) (a : A), nest n 0 zw F a = fol (fun c a => F (dg zw 0 n c) a) T a) : (mres N M0 sz n lie (-1) b).1 = I (cntP n (rgc N M0 sz n lie b) T) := by
  have e2 : mres N M0 sz n lie (-1) b = _ := hf Amr (fun w a => if a.2.1 = true then a else if lackS w n b 7 = 0 then rleaf N M0 sz n lie (-1) (wf sz w n) w a else a) (0, false, zw)
  rw [e2]
  have h := fol_ix (P := fun c (a : Amr) => a.2.1 = false ∧ a.1 = I (cntP n (rgc N M0 sz n lie b) c)) (f := fun c a => if a.2.1 = true then a else if lackS (dg zw 0 n c) n b 7 = 0 then rleaf N M0 sz n lie (-1) (wf sz (dg zw 0 n c) n) (dg zw 0 n c) a else a) (a := (0, false, zw)) ⟨rfl, rfl⟩ T (by
    intro c hc a ⟨h1, h2⟩
    have hle := cntP_le (n := n) (P := rgc N M0 sz n lie b) (T := c)
    have es : cntP n (rgc N M0 sz n lie b) (c + 1) = cntP n (rgc N M0 sz n lie b) c + b2n (rgc N M0 sz n lie b (dg zw 0 n c)) := rfl
    rw [es]
    generalize dg zw 0 n c = w
    rw [if_neg (by rw [h1]; decide)]
    by_cases cl : lackS w n b 7 = 0
    · rw [if_pos cl]
      unfold rleaf
      cases hr : rgb N M0 sz n lie w with
      | true =>
        have hc : b2n (rgc N M0 sz n lie b w) = 1 := by
          unfold rgc
          rw [hr, decide_eq_true cl]
          rfl
        rw [if_pos rfl, hc]
        refine ⟨?_, ?_⟩
        · show decide (a.1 = -1) = false
          rw [h2]
          refine decide_eq_false ?_
          rw [I_m1, I_eq] <;> omega
        · show a.1 + 1 = _
          rw [h2, I_1, I_add]
          rfl
      | false =>
        have hc : b2n (rgc N M0 sz n lie b w) = 0 := by
          unfold rgc
          rw [hr]
          rfl
        rw [hc]
        exact ⟨h1, h2⟩
    · have hc : b2n (rgc N M0 sz n lie b w) = 0 := by
        unfold rgc
        rw [decide_eq_false cl, Bool.and_false]
        rfl
      rw [if_neg cl, hc]
      exact ⟨h1, h2⟩)
  exact h.2
/-- the class's gains -/
theorem xres_gain {N : Nat} {M0 : Mem} {sz b : Nat → Int} {n T : Nat} {lie : Bool} (hb : ∀ k, k < 7 → 0 ≤ b k) (hT : T ≤ 1000000) (hf : ∀ (A : Type) (F : (Nat → Nat) → A → A) (a : A), nest n 0 zw F a = fol (fun c a => F (dg zw 0 n c) a) T a) (k : Nat) : (xres N M0 sz b n lie true 1000000000).2.1 k = I (cntP n (rgk N M0 sz n lie b k) T) := by
  have e1 : xres N M0 sz b n lie true 1000000000 = _ := hf Axr (CF N M0 sz b n lie true 1000000000) (0, fun _ => 0, zw)
  rw [e1]
  have h := fol_ix (P := fun c (a : Axr) => (∃ x : Nat, x ≤ c ∧ a.1 = I x) ∧ a.2.1 k = I (cntP n (rgk N M0 sz n lie b k) c)) (f := fun c a => CF N M0 sz b n lie true 1000000000 (dg zw 0 n c) a) (a := (0, fun _ => 0, zw)) ⟨⟨0, Nat.le_refl 0, rfl⟩, rfl⟩ T (by
    intro c hc a ⟨⟨x, x1, x2⟩, h2⟩
    have es : cntP n (rgk N M0 sz n lie b k) (c + 1) = cntP n (rgk N M0 sz n lie b k) c + b2n (rgk N M0 sz n lie b k (dg zw 0 n c)) := rfl
    rw [es]
    generalize dg zw 0 n c = w
    have hlb := (lackS_b w n b hb 7 (Nat.le_refl 7)).1
    unfold CF
    rw [if_neg (by rw [x2, I_lt] <;> omega)]
    have keep : b2n (rgk N M0 sz n lie b k w) = 0 → (∃ x : Nat, x ≤ c + 1 ∧ a.1 = I x) ∧ a.2.1 k = I ((cntP n (rgk N M0 sz n lie b k) c + b2n (rgk N M0 sz n lie b k w) : Nat)) := fun h => by
      rw [h]
      exact ⟨⟨x, by omega, x2⟩, h2⟩
    by_cases cc : 0 < n ∧ (wf sz w n).1 = (0, 0, 0, 0) ∧ (wf sz w n).2 = 0
    · rw [if_pos cc]
      unfold crg
      by_cases cg : (frs n w && (!lie || LIv N M0 sz n w)) = true
      · have hr : rgb N M0 sz n lie w = true := by
          unfold rgb
          rw [Bool.and_assoc, cg, decide_eq_true cc]
          rfl
        by_cases c1 : lackS w n b 7 ≤ 1
        · rw [if_pos (show lackS w n b 7 ≤ mayN true ∧ (frs n w && (!lie || LIv N M0 sz n w)) = true from ⟨c1, cg⟩)]
          by_cases c0 : lackS w n b 7 = 0
          · have hz : b2n (rgk N M0 sz n lie b k w) = 0 := by
              unfold rgk
              rw [decide_eq_false (fun h => by omega), Bool.and_false]
              rfl
            rw [if_pos c0, hz]
            exact ⟨⟨x + 1, by omega, by show a.1 + 1 = _; rw [x2, I_1, I_add]; rfl⟩, h2⟩
          · rw [if_neg c0]
            refine ⟨⟨x, by omega, x2⟩, ?_⟩
            show updg a.2.1 (lkd w n b) (a.2.1 (lkd w n b) + 1) k = _
            unfold updg
            by_cases ek : k = lkd w n b
            · have hz : b2n (rgk N M0 sz n lie b k w) = 1 := by
                unfold rgk
                rw [hr, decide_eq_true ⟨by omega, ek.symm⟩]
                rfl
              rw [if_pos ek, hz, ← ek, h2, I_1, I_add]
              rfl
            · have hz : b2n (rgk N M0 sz n lie b k w) = 0 := by
                unfold rgk
                rw [decide_eq_false (fun h => ek h.2.symm), Bool.and_false]
                rfl
              rw [if_neg ek, hz]
              exact h2
        · rw [if_neg (show ¬ (lackS w n b 7 ≤ mayN true ∧ (frs n w && (!lie || LIv N M0 sz n w)) = true) from fun h => c1 h.1)]
          refine keep ?_
          unfold rgk
          rw [decide_eq_false (fun h => by omega), Bool.and_false]
          rfl
      · rw [if_neg (show ¬ (lackS w n b 7 ≤ mayN true ∧ (frs n w && (!lie || LIv N M0 sz n w)) = true) from fun h => cg h.2)]
        refine keep ?_
        have cg' : (frs n w && (!lie || LIv N M0 sz n w)) = false := by simpa using cg
        unfold rgk rgb
        rw [Bool.and_assoc (decide _), cg', Bool.and_false, Bool.false_and]
        rfl
    · rw [if_neg cc]
      refine keep ?_
      unfold rgk rgb
      rw [decide_eq_false cc]
      rfl)
  exact h.2
def selT (G : Nat → Nat) : Nat → Nat → Int → Nat → Int
  | 0, _, b, _ => b
  | r + 1, k, b, g => if G k ≤ g then selT G r (k + 1) b g else selT G r (k + 1) k (G k)
theorem TbM.box {M : Mem} {sd lx ly : Nat → Int} {m k : Nat} {v : Int32} (h : TbM M sd m lx ly) (hk : k < 7) : TbM (seI M 36 k v) sd m lx ly :=
  ⟨fun j hj => by rw [seI_1, if_neg (by omega)]; exact h.1 j hj, ⟨by rw [seI_1, if_neg (by omega)]; exact h.2.1.1, h.2.1.2⟩, fun j hj => by rw [seI_1, if_neg (by omega), seI_1, if_neg (by omega)]; exact h.2.2 j hj⟩
theorem op_opens (N : Nat) (hN : 2000 < N) (a b : Int32) (hb : zb b) : Op (fun M => f_X6_opens N M a b) (fun M => f_X7_opens N M a b) := by
  intro M hR
  obtain ⟨z, hz1, hz2, rfl⟩ := I_ex a
  obtain ⟨lie, rfl⟩ := bI_ex hb
  show ∃ r M1 M2, f_X6_opens N M (I z) (bI lie) = some (r, M1) ∧ f_X7_opens N M1 (I z) (bI lie) = some (r, M2) ∧ RelI M2
  by_cases c2 : z < 1
  · obtain ⟨M1, M2, q1, q2, hR2⟩ := op_r4 (N := N) hR
    refine ⟨-4, M1, M2, ?_, ?_, hR2⟩
    · simp only [f_X6_opens]
      rw [if_neg (by rw [I_1, I_le] <;> omega), q1]; rfl
    · simp only [f_X7_opens]
      rw [show f_X7_within N M1 (I z) 1 6 = some (-4, M1) from within_4 (a := 1) (b := 6) hz1 c2 (by decide)]
      simp only [bd2]
      rw [if_neg (by decide), q2]
  by_cases c3 : 6 < z
  · obtain ⟨M1, M2, q1, q2, hR2⟩ := op_r6 (N := N) hR
    refine ⟨-6, M1, M2, ?_, ?_, hR2⟩
    · simp only [f_X6_opens]
      rw [if_pos (by rw [I_1, I_le] <;> omega), if_neg (by rw [I_6, I_le] <;> omega), q1]; rfl
    · simp only [f_X7_opens]
      rw [show f_X7_within N M1 (I z) 1 6 = some (-6, M1) from within_6 (a := 1) (b := 6) hz2 c3 (by decide) (by decide)]
      simp only [bd2]
      rw [if_neg (by decide), q2]
  obtain ⟨n, rfl⟩ : ∃ m : Nat, z = m := ⟨z.toNat, by omega⟩
  have hmb := mkf_b hR
  have hb0 : ∀ k, k < 7 → 0 ≤ mkf M k := fun k hk => (hmb k hk).1
  obtain ⟨T, hT, hf⟩ := nestN (n := n) (by omega)
  obtain ⟨Mx, g1, g2, g3, g4⟩ := through_s (N := N) (n := n) (stop := 1000000000) lie true hN hR hR KpR.rf (by omega) (by omega) (by decide) (by decide)
  generalize hG : (fun k => cntP n (rgk N M (szf M) n lie (mkf M) k) T) = G
  have hGk : ∀ k, cntP n (rgk N M (szf M) n lie (mkf M) k) T = G k := fun k => by rw [← hG]
  have hGb : ∀ k, G k ≤ 1000000 := fun k => by rw [← hGk]; exact Nat.le_trans cntP_le hT
  have h26 : ∀ k, k < 7 → Mx.1 26 k = I (G k) := fun k hk => by rw [g4.2.1 k hk, xres_gain hb0 hT hf k, hGk]
  -- the class chooses
  have kx : ∀ (r k n' g : Nat) (bst : Int), k + r = 7 → r < n' → g ≤ 1000000 → l_X6_opens_46 N n' Mx (I bst) (I g) (I k) = some (I (selT G r k bst g), Mx) := by
    intro r
    induction r with
    | zero =>
      intro k n' g bst h1 h2 h3
      obtain ⟨n', rfl⟩ : ∃ q, n' = q + 1 := ⟨n' - 1, by omega⟩
      obtain rfl : k = 7 := by omega
      rw [l_X6_opens_46, if_pos (by decide)]
      rfl
    | succ r ih =>
      intro k n' g bst h1 h2 h3
      obtain ⟨n', rfl⟩ : ∃ q, n' = q + 1 := ⟨n' - 1, by omega⟩
      have hgk := hGb k
      have a26 : f_X6_at shp N Mx 26 (I k) = some (I (G k), Mx) := by rw [at_in (n := 7) rfl (by decide) (by omega) (by omega), Int.toNat_natCast, h26 k (by omega)]
      rw [l_X6_opens_46, if_neg (by rw [I_7, I_le] <;> omega), a26]
      simp only [bd2]
      unfold selT
      rw [I_1, I_add]
      by_cases c : G k ≤ g
      · rw [if_pos (by rw [I_le] <;> omega), if_pos c]
        exact ih (k + 1) n' g bst (by omega) (by omega) h3
      · rw [if_neg (by rw [I_le] <;> omega), if_neg c]
        exact ih (k + 1) n' (G k) k (by omega) (by omega) hgk
  -- the reference
  obtain ⟨sd, m, lx, ly, tx, tm⟩ := tb_ex hR
  generalize hC : cntP n (rgc N M (szf M) n lie (mkf M)) T = C
  have hCb : C ≤ 1000000 := by rw [← hC]; exact Nat.le_trans cntP_le hT
  have x36 : ∀ j, Mx.1 36 j = M.1 36 j := fun j => g3.1 36 j rfl
  have box : ∀ M1 : Mem, KpR rMS Mx M1 → ∀ k, k < 7 → M1.1 36 k = I (mkf M k) := fun M1 h k hk => by
    rw [h.1 36 k rfl, x36, (hR.2.1.1 k hk).1]
    exact (I_of _).symm
  have km : ∀ (r k n' g : Nat) (bst : Int) (M1 : Mem), k + r = 7 → r < n' → g ≤ 1000000 → KpR rMS Mx M1 → ∃ M', l_X7_opens_34 N n' M1 (I n) (bI lie) (I bst) (I (C + g : Nat)) (I k) = some (I (selT G r k bst g), M') ∧ KpR rMS Mx M' := by
    intro r
    induction r with
    | zero =>
      intro k n' g bst M1 h1 h2 h3 h4
      obtain ⟨n', rfl⟩ : ∃ q, n' = q + 1 := ⟨n' - 1, by omega⟩
      obtain rfl : k = 7 := by omega
      exact ⟨M1, by rw [l_X7_opens_34, if_pos (by decide)]; rfl, h4⟩
    | succ r ih =>
      intro k n' g bst M1 h1 h2 h3 h4
      obtain ⟨n', rfl⟩ : ∃ q, n' = q + 1 := ⟨n' - 1, by omega⟩
      have hgk := hGb k
      have hk : k < 7 := by omega
      have hbk := box M1 h4 k hk
      obtain ⟨m0, m9⟩ := hmb k hk
      have ik : inb (I k) 56 := by rw [I_inb] <;> omega
      have xk : ix (I k) = k := by rw [I_ix (by omega) (by omega)]; omega
      have el : I k + 1 = I (k + 1 : Nat) := by rw [I_1, I_add]; rfl
      rw [l_X7_opens_34, if_neg (by rw [I_7, I_le] <;> omega)]
      simp only [ck, nm, if_pos ik, xk, el]
      rw [hbk]
      unfold selT
      by_cases c9 : mkf M k = 9
      · have hG0 : G k = 0 := by
          rw [← hGk]
          unfold cntP
          refine suml_0 _ T (fun c _ => ?_)
          generalize dg zw 0 n c = w
          have hc := cntK_le w k n
          unfold rgk
          rw [decide_eq_false, Bool.and_false]
          · rfl
          · rintro ⟨q1, q2⟩
            obtain ⟨i, i1, i2, i3⟩ := lack1 (w := w) (n := n) hb0 7 (Nat.le_refl 7) q1
            have := lkd_eq i1 i2 i3
            rw [q2] at this
            subst this
            omega
        rw [if_pos (by rw [c9]; rfl), if_pos (by omega)]
        exact ih (k + 1) n' g bst M1 (by omega) (by omega) h3 h4
      · rw [if_neg (by rw [I_9, I_eq] <;> omega), show I (mkf M k) + 1 = I (mkf M k + 1) from I_add _ 1]
        obtain ⟨M2, r1, r2, -⟩ := mrings (N := N) (M0 := M) (M := seI M1 36 k (I (mkf M k + 1))) (n := n) (bx := ek (mkf M) k) lie (-1) (by omega) (by omega) (szf_b hR) hN tx tm ((tm.kp (fun j => (h4.1 36 j rfl).trans (x36 j))).box hk)
          (fun j hj => by
            rw [seI_ne (by decide)]
            rcases (show j = 0 ∨ j = 1 ∨ j = 2 ∨ j = 3 ∨ j = 4 by omega) with rfl | rfl | rfl | rfl | rfl <;> exact ((h4.1 39 _ rfl).trans (g3.1 39 _ rfl)).trans (hR.2.2.2.2.2.2.2.2.2.2.1 _ (by decide)))
          (by rw [seI_ne (by decide), h4.1 34 23 rfl, g3.1 34 23 rfl]; exact hR.2.2.2.2.2.2.2.2.2.2.2)
          (fun j hj => by
            obtain ⟨j0, j9⟩ := hmb j hj
            rw [seI_1]
            unfold ek updl
            by_cases e : j = k
            · rw [if_pos ⟨rfl, e⟩, if_pos e]
              exact ⟨rfl, by omega, by omega⟩
            · rw [if_neg (by omega), if_neg e, box M1 h4 j hj]
              exact ⟨rfl, j0, j9⟩)
          (fun j hj => by rw [seI_1, if_neg (by omega), h4.1 36 _ rfl, x36, (hR.2.1.2.1 j hj).1]; exact szf_I)
        have hval : (mres N M (szf M) n lie (-1) (ek (mkf M) k)).1 = I (C + G k : Nat) := by
          rw [mres_cnt hT hf, ← hC, ← hGk]
          unfold cntP
          rw [suml_add (fun c => rgc_e hb0 hk)]
        rw [if_neg (show ¬ (0 : Int32) ≤ -1 by decide), hval] at r1
        rw [show f_X7_ringsOf N (seI M1 36 k (I (mkf M k + 1))) (I n) (bI lie) (-1) = _ from r1]
        simp only [bd2]
        have e36 : M2.1 36 k = I (mkf M k + 1) := by rw [r2.1 36 k rfl, seI_1, if_pos ⟨rfl, rfl⟩]
        rw [e36, show I (mkf M k + 1) - 1 = I (mkf M k) by rw [I_1, I_sub, show mkf M k + 1 - 1 = mkf M k by omega]]
        have k3 : KpR rMS Mx (seI M2 36 k (I (mkf M k))) := by
          refine ⟨fun x j hx => ?_, fun x j hx => ?_⟩
          · rw [seI_1]
            by_cases e : x = 36 ∧ j = k
            · rw [if_pos e, e.1, e.2, ← box Mx KpR.rf k hk]
            · rw [if_neg e, r2.1 x j hx, seI_1, if_neg e]
              exact h4.1 x j hx
          · rw [seI_2, r2.2 x j hx, seI_2]
            exact h4.2 x j hx
        by_cases c : G k ≤ g
        · rw [if_neg (by rw [I_lt] <;> omega), if_pos c]
          exact ih (k + 1) n' g bst _ (by omega) (by omega) h3 k3
        · rw [if_pos (by rw [I_lt] <;> omega), if_neg c]
          exact ih (k + 1) n' (G k) k _ (by omega) (by omega) hgk k3
  obtain ⟨M2, h1, h2, -⟩ := model_s (N := N) (n := n) (M0 := M) (M1 := Mx) lie (-1) hN hR (by omega) (by omega) x36 (fun k _ => g3.1 39 k rfl) (g3.1 34 23 rfl)
  rw [if_neg (show ¬ (0 : Int32) ≤ -1 by decide), mres_cnt hT hf, hC] at h1
  obtain ⟨M3, s1, s2⟩ := km 7 0 N 0 (-9) M2 rfl (by omega) (by omega) h2
  refine ⟨I (selT G 7 0 (-9) 0), Mx, M3, ?_, ?_, g2.kp (kpR_kp s2 relv_ms)⟩
  · simp only [f_X6_opens]
    rw [if_pos (by rw [I_1, I_le] <;> omega), if_pos (by rw [I_6, I_le] <;> omega), show f_X3_through N M (I n) (bI lie) 1 1000000000 = _ from g1]
    simp only [bd]
    exact kx 7 0 N 0 (-9) rfl (by omega) (by omega)
  · simp only [f_X7_opens]
    rw [show f_X7_within N Mx (I n) 1 6 = some (0, Mx) from within_y (a := 1) (b := 6) (by omega) (by omega) (by decide) (by decide)]
    simp only [bd2]
    rw [if_pos trivial, h1]
    exact s1
