/-! Part 68: the class's count of one ring -/
def mayN (may : Bool) : Int := if may = true then 1 else 0
def bI (b : Bool) : Int32 := if b = true then 1 else 0
def rTh (k j : Nat) : Bool := !((k == 17 && j == 4) || k == 20 || (k == 18 && !(j == 0)) || (k == 19 && !(j == 0)) || k == 25 || k == 26 || (k == 21 && j == 9))
theorem rTh_fol {k j : Nat} (h : rTh k j = true) : rFol k j = true := by
  simp only [rTh, rFol, Bool.not_eq_true', Bool.or_eq_false_iff] at h ⊢
  obtain ⟨⟨⟨⟨⟨⟨a, b⟩, c⟩, d⟩, _⟩, _⟩, _⟩ := h
  exact ⟨⟨⟨a, b⟩, c⟩, d⟩
theorem Tls.kp {M M' : Mem} (h : Tls M) (h22 : M'.2 22 = M.2 22) (h23 : M'.1 23 = M.1 23) (h24 : M'.1 24 = M.1 24) (h3 : M'.1 3 = M.1 3) : Tls M' := by
  unfold Tls at h ⊢
  rw [szf.kp (M := M) (M' := M') (fun j => by rw [h3]), h22, h23, h24]
  exact h
/-- what the class's search stands on -/
def CE (sz bx sd lx ly : Nat → Int) (m : Nat) (M : Mem) : Prop := Sta M ∧ Sps M ∧ szf M = sz ∧ Tls M ∧ TbX M sd m lx ly ∧ (M.2 18 0 = 0 ∧ M.1 19 0 = 0) ∧ (∀ k, k < 7 → Bd (M.1 2 k) 0 9) ∧ mkf M = bx
theorem CE.kp {sz bx sd lx ly : Nat → Int} {m : Nat} {M M' : Mem} (h : CE sz bx sd lx ly m M) (hk : KpR rTh M M') : CE sz bx sd lx ly m M' := by
  obtain ⟨h1, h2, h3, h4, h5, h6, h7, h8⟩ := h
  have e : ∀ a, (∀ j, rTh a j = true) → M'.1 a = M.1 a := fun a ha => by funext j; exact hk.1 a j (ha j)
  refine ⟨h1.kp (hk.sub fun k j hj => ?_), h2.kp (hk.sub fun k j hj => ?_), (szf.kp (fun j => hk.1 3 j rfl)).trans h3, h4.kp (by funext j; exact hk.2 22 j rfl) (e 23 fun _ => rfl) (e 24 fun _ => rfl) (e 3 fun _ => rfl), h5.kp (fun j => hk.1 5 j rfl) (fun j => hk.1 6 j rfl) (fun j => hk.1 7 j rfl) (hk.1 1 7 rfl), ⟨(hk.2 18 0 rfl).trans h6.1, (hk.1 19 0 rfl).trans h6.2⟩, fun k hk' => by rw [e 2 fun _ => rfl]; exact h7 k hk', ?_⟩
  · simp [rSta] at hj; simp [rTh]; omega
  · simp [rSps] at hj; simp [rTh]; omega
  · rw [← h8]
    funext k
    unfold mkf
    rw [e 2 fun _ => rfl]
abbrev Axr : Type := Int32 × (Nat → Int32) × (Nat → Nat)
def updg (g : Nat → Int32) (k : Nat) (v : Int32) (j : Nat) : Int32 := if j = k then v else g j
/-- the least kind of which a row takes too many; or 7 -/
def lkT (w : Nat → Nat) (n : Nat) (bx : Nat → Int) : Nat → Nat → Nat
  | 0, k => k
  | r + 1, k => if (cntK w k n : Int) ≤ bx k then lkT w n bx r (k + 1) else k
def lkd (w : Nat → Nat) (n : Nat) (bx : Nat → Int) : Nat := lkT w n bx 7 0
theorem lkT_b {w : Nat → Nat} {n : Nat} {bx : Nat → Int} : ∀ (r k : Nat), k ≤ lkT w n bx r k ∧ lkT w n bx r k ≤ k + r ∧ (∀ j, k ≤ j → j < lkT w n bx r k → (cntK w j n : Int) ≤ bx j) ∧ (lkT w n bx r k < k + r → ¬ (cntK w (lkT w n bx r k) n : Int) ≤ bx (lkT w n bx r k))
  | 0, k => ⟨Nat.le_refl _, Nat.le_refl _, fun j h1 h2 => by unfold lkT at h2; omega, fun h => by unfold lkT at h; omega⟩
  | r + 1, k => by
    unfold lkT
    by_cases c : (cntK w k n : Int) ≤ bx k
    · rw [if_pos c]
      obtain ⟨h1, h2, h3, h4⟩ := lkT_b (w := w) (n := n) (bx := bx) r (k + 1)
      refine ⟨by omega, by omega, fun j h5 h6 => ?_, fun h => h4 (by omega)⟩
      by_cases e : j = k
      · rw [e]; exact c
      · exact h3 j (by omega) h6
    · rw [if_neg c]
      exact ⟨Nat.le_refl _, by omega, fun j h1 h2 => by omega, fun _ => c⟩
theorem lkd_lt {w : Nat → Nat} {n : Nat} {bx : Nat → Int} (hb : ∀ k, k < 7 → 0 ≤ bx k) (h : lackS w n bx 7 ≠ 0) : lkd w n bx < 7 := by
  obtain ⟨h1, h2, h3, h4⟩ := lkT_b (w := w) (n := n) (bx := bx) 7 0
  unfold lkd
  by_cases c : lkT w n bx 7 0 < 7
  · exact c
  · exact absurd ((lackS_0 w n bx hb 7 (Nat.le_refl 7)).mpr (fun k hk => h3 k (by omega) (by omega))) h
theorem lk_s {N n : Nat} {sz bx sd lx ly : Nat → Int} {m : Nat} {M : Mem} {w : Nat → Nat} (hE : CE sz bx sd lx ly m M) (hn : n ≤ 6) (hw : Rw M 25 n w) (h : lackS w n bx 7 ≠ 0) (hN : 2000 < N) : f_X0_lackedKind N M 25 (I n) = some (I (lkd w n bx), M) := by
  have hbd : ∀ k, k < 7 → Bd (M.1 2 k) 0 9 := hE.2.2.2.2.2.2.1
  have hbx : mkf M = bx := hE.2.2.2.2.2.2.2
  have hb : ∀ k, k < 7 → 0 ≤ bx k ∧ bx k ≤ 9 := fun k hk => by rw [← hbx]; exact hbd k hk
  have hl := lkd_lt (fun k hk => (hb k hk).1) h
  have key : ∀ (r j n' : Nat), j + r = 7 → r < n' → lkT w n bx r j < 7 → l_X0_lackedKind_2 N 25 n' M (I n) (I j) = some (I (lkT w n bx r j), M) := by
    intro r
    induction r with
    | zero =>
      intro j n' h1 h2 h3
      unfold lkT at h3
      omega
    | succ r ih =>
      intro j n' h1 h2 h3
      obtain ⟨n', rfl⟩ : ∃ q, n' = q + 1 := ⟨n' - 1, by omega⟩
      have hc := cntK_le w j n
      have hbj := hb j (by omega)
      have a2 : f_X6_at shp N M 2 (I j) = some (I (bx j), M) := by
        rw [at_in (n := 7) rfl (by decide) (by omega) (by omega), Int.toNat_natCast, show M.1 2 j = I (bx j) by rw [← hbx]; exact (I_of _).symm]
      rw [l_X0_lackedKind_2, if_neg (by rw [I_7, I_le] <;> omega), taken_s (n0 := 6) hE.1 rfl (by decide) hn (by omega) hw hN]
      simp only [bd2, a2]
      unfold lkT at h3 ⊢
      by_cases c : (cntK w j n : Int) ≤ bx j
      · rw [if_pos c] at h3 ⊢
        rw [if_pos (by rw [I_le] <;> omega), I_1, I_add]
        exact ih (j + 1) n' (by omega) (by omega) h3
      · rw [if_neg c]
        rw [if_neg (by rw [I_le] <;> omega)]
  exact key 7 0 N (by omega) (by omega) hl
theorem lacks_s {N n : Nat} {sz bx sd lx ly : Nat → Int} {m : Nat} {M : Mem} {w : Nat → Nat} (may : Bool) (hE : CE sz bx sd lx ly m M) (hn : n ≤ 6) (hw : Rw M 25 n w) (hN : 2000 < N) : f_X3_lacks N M (I n) (bI may) = some (I (if lackS w n bx 7 ≤ mayN may then lackS w n bx 7 else -1), M) := by
  have hbd : ∀ k, k < 7 → Bd (M.1 2 k) 0 9 := hE.2.2.2.2.2.2.1
  have hbx : mkf M = bx := hE.2.2.2.2.2.2.2
  have hlb := lackS_b w n bx (fun k hk => by rw [← hbx]; exact (hbd k hk).1) 7 (Nat.le_refl 7)
  unfold f_X3_lacks
  rw [lacking_s (n0 := 6) hE.1 rfl (by decide) hn (by omega) hw hbd hN, hbx]
  simp only [bd2]
  cases may with
  | false =>
    rw [if_pos (show bI false = 0 from rfl)]
    by_cases c : lackS w n bx 7 ≤ 0
    · rw [if_pos (by rw [I_0, I_le] <;> omega), if_pos (show lackS w n bx 7 ≤ mayN false from c)]
    · rw [if_neg (by rw [I_0, I_le] <;> omega), if_neg (show ¬ lackS w n bx 7 ≤ mayN false from c)]
      rfl
  | true =>
    rw [if_neg (show ¬ bI true = 0 by decide)]
    by_cases c : lackS w n bx 7 ≤ 1
    · rw [if_pos (by rw [I_1, I_le] <;> omega), if_pos (show lackS w n bx 7 ≤ mayN true from c)]
    · rw [if_neg (by rw [I_1, I_le] <;> omega), if_neg (show ¬ lackS w n bx 7 ≤ mayN true from c)]
      rfl
def crg (N : Nat) (M0 : Mem) (sz bx : Nat → Int) (n : Nat) (lie may : Bool) (w : Nat → Nat) (a : Axr) : Axr :=
  if lackS w n bx 7 ≤ mayN may ∧ (frs n w && (!lie || LIv N M0 sz n w)) = true then (if lackS w n bx 7 = 0 then (a.1 + 1, a.2.1, w) else (a.1, updg a.2.1 (lkd w n bx) (a.2.1 (lkd w n bx) + 1), a.2.2)) else a
def XA (n : Nat) (stop : Int) (M : Mem) (a : Axr) : Prop := M.1 21 9 = a.1 ∧ (∀ k, k < 7 → M.1 26 k = a.2.1 k) ∧ (I stop < a.1 → ∀ k, k < n → M.1 25 k = I (a.2.2 k))
theorem cring {N n m : Nat} {M0 M : Mem} {sz bx sd lx ly : Nat → Int} {lie may : Bool} {w : Nat → Nat} {a : Axr} {stop : Int} (hn : n ≤ 6) (hz : ∀ k, k < 7 → 0 ≤ sz k ∧ sz k ≤ 20) (hN : 2000 < N) (hT0 : TbM M0 sd m lx ly) (hE : CE sz bx sd lx ly m M) (hw : Rw M 25 n w) (hA : XA n stop M a) (hs : ¬ I stop < a.1) :
    ∃ M', f_X3_countRing N M (I n) (bI lie) (I (if lackS w n bx 7 ≤ mayN may then lackS w n bx 7 else -1)) = some M' ∧ KpR rTh M M' ∧ M'.1 25 = M.1 25 ∧ XA n stop M' (crg N M0 sz bx n lie may w a) := by
  have hbd : ∀ k, k < 7 → Bd (M.1 2 k) 0 9 := hE.2.2.2.2.2.2.1
  have hbx : mkf M = bx := hE.2.2.2.2.2.2.2
  have hb : ∀ k, k < 7 → 0 ≤ bx k := fun k hk => by rw [← hbx]; exact (hbd k hk).1
  have hlb := lackS_b w n bx hb 7 (Nat.le_refl 7)
  have hm1 : mayN may ≤ 1 := by cases may <;> decide
  have same : ∀ M' : Mem, ¬ (lackS w n bx 7 ≤ mayN may ∧ (frs n w && (!lie || LIv N M0 sz n w)) = true) → KpR rTh M M' → M'.1 25 = M.1 25 → M'.1 21 9 = M.1 21 9 → M'.1 26 = M.1 26 → ∃ M'', some M' = some M'' ∧ KpR rTh M M'' ∧ M''.1 25 = M.1 25 ∧ XA n stop M'' (crg N M0 sz bx n lie may w a) := by
    intro M' h h1 h2 h3 h4
    refine ⟨M', rfl, h1, h2, ?_⟩
    unfold crg XA
    rw [if_neg h, h2, h3, h4]
    exact hA
  unfold f_X3_countRing
  by_cases c : lackS w n bx 7 ≤ mayN may
  · rw [if_pos c, if_neg (by rw [I_0, I_lt] <;> omega), xfirst hE.1 hn hw hN]
    simp only [bd2]
    cases hf : frs n w with
    | false =>
      rw [if_pos (by rfl)]
      exact same M (by rw [hf]; simp) KpR.rf rfl rfl rfl
    | true =>
      rw [if_neg (show ¬ (if true = true then (1 : Int32) else 0) = 0 by decide)]
      -- the ring counts
      have cnt : ∀ M1 : Mem, (frs n w && (!lie || LIv N M0 sz n w)) = true → CE sz bx sd lx ly m M1 → KpR rTh M M1 → M1.1 25 = M.1 25 → M1.1 21 9 = M.1 21 9 → M1.1 26 = M.1 26 → ∃ M', (if I (lackS w n bx 7) = 0 then some (seI M1 21 9 (M1.1 21 9 + 1)) else bd2 (f_X0_lackedKind N M1 25 (I n)) fun r9 M8 => bd2 (f_X6_at shp N M8 26 r9) fun r12 M11 => bd (f_X6_put shp N M11 26 r9 (r12 + 1)) fun M14 => some M14) = some M' ∧ KpR rTh M M' ∧ M'.1 25 = M.1 25 ∧ XA n stop M' (crg N M0 sz bx n lie may w a) := by
        intro M1 h hE1 h1 h2 h3 h4
        unfold crg
        rw [if_pos (show lackS w n bx 7 ≤ mayN may ∧ (frs n w && (!lie || LIv N M0 sz n w)) = true from ⟨c, h⟩)]
        by_cases c0 : lackS w n bx 7 = 0
        · rw [if_pos (by rw [c0]; rfl), if_pos c0]
          refine ⟨_, rfl, h1.I rfl, by rw [seI_ne (by decide), h2], ?_, fun k hk => ?_, fun _ k hk => ?_⟩
          · rw [seI_1, if_pos ⟨rfl, rfl⟩, h3, hA.1]
          · rw [seI_ne (by decide), h4]; exact hA.2.1 k hk
          · rw [seI_ne (by decide), h2]; exact (hw k hk).1
        · have hw1 : Rw M1 25 n w := fun i hi => by rw [h2]; exact hw i hi
          have hk7 := lkd_lt hb c0
          rw [if_neg (by rw [I_0, I_eq] <;> omega), if_neg c0, lk_s hE1 hn hw1 c0 hN]
          simp only [bd2]
          rw [at_in (n := 7) rfl (by decide) (by omega) (by omega)]
          simp only [Int.toNat_natCast]
          rw [put_in (n := 7) rfl (by decide) (by decide) (by omega) (by omega)]
          simp only [bd, Int.toNat_natCast]
          refine ⟨_, rfl, h1.I rfl, by rw [seI_ne (by decide), h2], ?_, fun k hk => ?_, fun h' => absurd h' hs⟩
          · rw [seI_ne (by decide), h3]; exact hA.1
          · rw [seI_1]
            show _ = if k = lkd w n bx then a.2.1 (lkd w n bx) + 1 else a.2.1 k
            by_cases e : k = lkd w n bx
            · rw [if_pos ⟨rfl, e⟩, if_pos e, h4, hA.2.1 _ hk7]
            · rw [if_neg (by omega), if_neg e, h4]; exact hA.2.1 k hk
      cases lie with
      | false =>
        rw [if_pos (show bI false = 0 from rfl)]
        exact cnt M (by rw [hf]; rfl) hE KpR.rf rfl rfl rfl
      | true =>
        rw [if_neg (show ¬ bI true = 0 by decide)]
        obtain ⟨M1, f1, f2, f3⟩ := follow_s (N := N) (n0 := 6) hE.1 hE.2.1 (Or.inr rfl) rfl (by decide) hn (by omega) hw hN
        have k1 : KpR rTh M M1 := f2.kp.sub fun k j hj => rTh_fol hj
        have hE1 := hE.kp k1
        have hsz : szf M = sz := hE.2.2.1
        have e25 : M1.1 25 = M.1 25 := by funext j; exact f2.kp.1 25 j rfl
        have e26 : M1.1 26 = M.1 26 := by funext j; exact f2.kp.1 26 j rfl
        have e21 : M1.1 21 9 = M.1 21 9 := f2.kp.1 21 9 rfl
        have hXL : XL M1 sz n w := by
          refine ⟨f3, fun i hi => ?_, fun i hi => f2.ld i hi⟩
          rcases i with _ | i
          · rw [hE1.2.2.2.2.2.1.1, hE1.2.2.2.2.2.1.2]
            exact ⟨rfl, rfl⟩
          · rw [← hsz]
            exact ⟨f2.pl i (by omega), f2.dr i (by omega)⟩
        obtain ⟨x, y, g1, g2, g3⟩ := xlies (N := N) (M0 := M0) hn hz (fun i hi => (hw i hi).2) hT0 hE1.2.2.2.2.1 hXL hN
        rw [f1]
        simp only [bd]
        rw [g1]
        simp only []
        by_cases cx : x = -9
        · rw [if_pos cx, g2]
          simp only []
          by_cases cy : y = -9
          · rw [if_pos cy]
            exact cnt M1 (by rw [hf, g3.mpr ⟨cx, cy⟩]; rfl) hE1 k1 e25 e21 e26
          · rw [if_neg cy]
            refine same M1 (fun h => ?_) k1 e25 e21 e26
            have h2 := h.2
            rw [hf] at h2
            simp at h2
            exact cy (g3.mp h2).2
        · rw [if_neg cx]
          refine same M1 (fun h => ?_) k1 e25 e21 e26
          have h2 := h.2
          rw [hf] at h2
          simp at h2
          exact cx (g3.mp h2).1
  · rw [if_neg c, if_pos (by decide)]
    exact same M (fun h => c h.1) KpR.rf rfl rfl rfl
