/-! Part 70: the class's search, whole -/
def rXs (k j : Nat) : Bool := !((k == 17 && j == 4) || k == 20 || (k == 18 && !(j == 0)) || (k == 19 && !(j == 0)) || k == 25 || k == 26 || (k == 21 && j == 9) || k == 22 || k == 23 || k == 24 || (k == 21 && j == 6))
theorem rXs_th {k j : Nat} (h : rXs k j = true) : rTh k j = true := by
  simp only [rXs, rTh, Bool.not_eq_true', Bool.or_eq_false_iff] at h ⊢
  obtain ⟨⟨⟨⟨⟨⟨⟨⟨⟨⟨a, b⟩, c⟩, d⟩, e⟩, f⟩, g⟩, _⟩, _⟩, _⟩, _⟩ := h
  exact ⟨⟨⟨⟨⟨⟨a, b⟩, c⟩, d⟩, e⟩, f⟩, g⟩
theorem rXs_ga {k j : Nat} (h : rXs k j = true) : rGa k j = true := by
  simp only [rXs, rGa, Bool.not_eq_true', Bool.or_eq_false_iff] at h ⊢
  obtain ⟨⟨⟨⟨⟨⟨⟨⟨⟨⟨_, _⟩, _⟩, _⟩, e⟩, _⟩, _⟩, h1⟩, h2⟩, h3⟩, h4⟩ := h
  exact ⟨⟨⟨⟨h1, h2⟩, h3⟩, e⟩, h4⟩
theorem RelI.sch {M M' : Mem} (hR : RelI M) (kk : KpR rXs M M') (hg : Gat M') : RelI M' := by
  obtain ⟨h1, h2, h3, h4, h5, h6, h7, h8, h9⟩ := hR
  refine ⟨h1.kp (kk.sub fun k j hj => ?_), h2.kpr (kk.sub fun k j hj => ?_), h3.kp (kk.sub fun k j hj => ?_), h4.kp (kk.sub fun k j hj => ?_), h5.kp (kk.sub fun k j hj => ?_), h6.kp (kk.sub fun k j hj => ?_), h7.kp (kk.sub fun k j hj => ?_), hg, h9.kp (kk.sub fun k j hj => ?_)⟩
  · simp [rSta] at hj; simp [rXs]; omega
  · simp [rLay] at hj; simp [rXs]; omega
  · simp [rTak, rLay] at hj; simp [rXs]; omega
  · simp [rTap] at hj; simp [rXs]; omega
  · simp [rTur] at hj; simp [rXs]; omega
  · simp [rRef] at hj; simp [rXs]; omega
  · simp [rSps] at hj; simp [rXs]; omega
  · by_cases e : k = 39
    · subst e; rfl
    · simp [rZer, e] at hj; simp [rXs]; omega
theorem nest3 : ∃ K, K = 1000 ∧ ∀ (A : Type) (q : Nat) (w : Nat → Nat) (F : (Nat → Nat) → A → A) (a : A), nest 3 q w F a = fol (fun t a => F (dg w q 3 t) a) K a :=
  ⟨10 ^ 3, by decide, fun _ _ _ F a => nest_flat (F := F) 3 F a⟩
theorem through35 {N n q : Nat} {M : Mem} {v2 v3 v4 : Int32} (hq : q ≤ 3) (hn : n = q + 3) : ∀ (r j n' : Nat), j + r = q → r < n' → l_X3_through_35 N n' M (I n) v2 v3 v4 (I (10 ^ j : Nat)) (I (3 + j : Nat)) = l_X3_through_57 N N M (I n) v2 v3 v4 (I (10 ^ q : Nat)) 0 := by
  intro r
  induction r with
  | zero =>
    intro j n' h1 h2
    obtain ⟨n', rfl⟩ : ∃ q, n' = q + 1 := ⟨n' - 1, by omega⟩
    obtain rfl : j = q := by omega
    rw [l_X3_through_35, if_pos (by rw [I_le] <;> omega)]
  | succ r ih =>
    intro j n' h1 h2
    obtain ⟨n', rfl⟩ : ∃ q, n' = q + 1 := ⟨n' - 1, by omega⟩
    rw [l_X3_through_35, if_neg (by rw [I_le] <;> omega)]
    simp only [nm]
    have := ih (j + 1) n' (by omega) (by omega)
    rw [show (10 : Nat) ^ (j + 1) = 10 ^ j * 10 from Nat.pow_succ _ _, Int.natCast_mul] at this
    rw [I_10, I_mul, I_1, I_add]
    exact this
def xres (N : Nat) (M0 : Mem) (sz bx : Nat → Int) (n : Nat) (lie may : Bool) (stop : Int) : Axr := nest n 0 zw (CF N M0 sz bx n lie may stop) (0, fun _ => 0, zw)
theorem xres_h {N : Nat} {M0 : Mem} {sz bx : Nat → Int} {n q K : Nat} {lie may : Bool} {stop : Int} (hn : n = q + 3) (h3 : ∀ (A : Type) (q : Nat) (w : Nat → Nat) (F : (Nat → Nat) → A → A) (a : A), nest 3 q w F a = fol (fun t a => F (dg w q 3 t) a) K a) : xres N M0 sz bx n lie may stop = fol (fun c a => HF N M0 sz bx n lie may stop K q (0 + c) a) (10 ^ q) (0, fun _ => 0, zw) := by
  unfold xres
  rw [show nest n 0 zw (CF N M0 sz bx n lie may stop) (0, fun _ => 0, zw) = nest (q + 3) 0 zw (CF N M0 sz bx n lie may stop) (0, fun _ => 0, zw) by rw [hn], nest_app, nest_flat (F := fun _ a => a)]
  refine fol_cg _ (fun c _ => ?_)
  rw [h3, Nat.zero_add, Nat.zero_add]
  rfl
theorem through_s {N n : Nat} {M0 M : Mem} (lie may : Bool) {stop : Int} (hN : 2000 < N) (hR0 : RelI M0) (hR : RelI M) (hk : KpR rXs M0 M) (hn1 : 0 < n) (hn : n ≤ 6) (hs : 0 ≤ stop) (hs2 : stop < 2147483648) :
    ∃ M', f_X3_through N M (I n) (bI lie) (bI may) (I stop) = some M' ∧ RelI M' ∧ KpR rXs M0 M' ∧ XA n stop M' (xres N M0 (szf M0) (mkf M0) n lie may stop) := by
  obtain ⟨sd, m, lx, ly, tx, tm⟩ := tb_ex hR0
  obtain ⟨M1, g1, g2, g3, g4⟩ := gather_s (N := N) hR.1 hR.2.2.2.2.2.2.1 hR.2.2.2.2.2.2.2.1 hN
  generalize hM4 : wrI (seI M1 21 9 0) 26 (fun i => if i < 7 then 0 else (seI M1 21 9 0).1 26 i) = M4
  have k14 : KpR rTh M1 M4 := by rw [← hM4]; exact (KpR.rf.I rfl).W (fun _ => rfl)
  have k04 : KpR rXs M0 M4 := (hk.tr (g2.sub fun k j hj => rXs_ga hj)).tr (k14.sub fun k j hj => rXs_th hj)
  have e : ∀ a, (∀ j, rXs a j = true) → M4.1 a = M0.1 a := fun a ha => by funext j; exact k04.1 a j (ha j)
  have e6 : M4.1 21 6 = 1 := (k14.1 21 6 rfl).trans g3
  have t4 : Tls M4 := by
    refine g4.kp (by funext j; exact k14.2 22 j rfl) (by funext j; exact k14.1 23 j rfl) (by funext j; exact k14.1 24 j rfl) (by funext j; exact k14.1 3 j rfl)
  have hR4 : RelI M4 := hR0.sch k04 (Or.inr ⟨e6, t4⟩)
  have hE : CE (szf M0) (mkf M0) sd lx ly m M4 := by
    refine ⟨hR4.1, hR4.2.2.2.2.2.2.1, szf.kp (fun j => k04.1 3 j rfl), t4, tx.kp (fun j => k04.1 5 j rfl) (fun j => k04.1 6 j rfl) (fun j => k04.1 7 j rfl) (k04.1 1 7 rfl), ⟨hR4.2.2.2.2.2.2.2.2.1, hR4.2.2.2.2.2.2.2.2.2.1⟩, fun k hk => (hR4.2.1.1 k hk).2, ?_⟩
    funext k
    unfold mkf
    rw [e 2 fun _ => rfl]
  have hA : XA n stop M4 (0, fun _ => 0, zw) := by
    refine ⟨by rw [← hM4, wrI_ne (by decide), seI_1, if_pos ⟨rfl, rfl⟩], fun k hk => by rw [← hM4, wrI_s, if_pos hk], fun h => ?_⟩
    have h : I stop < 0 := h
    rw [I_0, I_lt (by omega) hs2 (by omega) (by omega)] at h
    omega
  have hun : f_X3_through N M (I n) (bI lie) (bI may) (I stop) = if I n < 3 then some M4 else if I n ≤ 6 then l_X3_through_35 N N M4 (I n) (bI lie) (bI may) (I stop) 1 3 else some M4 := by
    unfold f_X3_through
    rw [g1]
    simp only [bd, nm]
    rw [fill_s (n1 := 7) rfl (by decide) (by decide) hN]
    simp only []
    rw [hM4]
  have hsz := szf_b hR0
  rw [hun]
  by_cases c : n < 3
  · rw [if_pos (by rw [I_3, I_lt] <;> omega)]
    refine ⟨M4, rfl, hR4, k04, ?_⟩
    have h1 : ∀ k, k < 7 → 1 ≤ szf M0 k := fun k hk => (hR0.2.1.2.1 k hk).2.1
    have hx : xres N M0 (szf M0) (mkf M0) n lie may stop = (0, fun _ => 0, zw) := by
      unfold xres
      rw [nest_cg (G := fun _ a => a) n 0 zw]
      · exact nest_id n 0 zw (fun _ _ => rfl)
      · intro w' a _ hw'
        unfold CF
        by_cases cs : I stop < a.1
        · rw [if_pos cs]
        · rw [if_neg cs, if_neg]
          exact fun h => noclo h1 (n := n) (by omega) (fun j hj => hw' j (by omega) (by omega)) h
    rw [hx]
    exact hA
  · rw [if_neg (by rw [I_3, I_lt] <;> omega), if_pos (by rw [I_6, I_le] <;> omega)]
    obtain ⟨q, rfl⟩ : ∃ q, n = q + 3 := ⟨n - 3, by omega⟩
    have hq : q ≤ 3 := by omega
    obtain ⟨K, hK, h3⟩ := nest3
    have hp : 10 ^ q ≤ 1000 := by
      rcases (show q = 0 ∨ q = 1 ∨ q = 2 ∨ q = 3 by omega) with rfl | rfl | rfl | rfl <;> decide
    obtain ⟨M', r1, r2, r3⟩ := heads (N := N) (M0 := M0) (lie := lie) (may := may) (stop := stop) hK hq rfl hp hsz hN tm (10 ^ q) 0 N M4 (0, fun _ => 0, zw) (by omega) (by omega) hE hA
    have h35 := through35 (N := N) (M := M4) (v2 := bI lie) (v3 := bI may) (v4 := I stop) hq rfl q 0 N (by omega) (by omega)
    refine ⟨M', ?_, ?_, k04.tr (r2.sub fun k j hj => rXs_th hj), ?_⟩
    · rw [show l_X3_through_35 N N M4 (I (q + 3 : Nat)) (bI lie) (bI may) (I stop) 1 3 = _ from h35]
      exact r1
    · refine hR4.sch (r2.sub fun k j hj => rXs_th hj) (Or.inr ⟨(r2.1 21 6 rfl).trans e6, ?_⟩)
      exact t4.kp (by funext j; exact r2.2 22 j rfl) (by funext j; exact r2.1 23 j rfl) (by funext j; exact r2.1 24 j rfl) (by funext j; exact r2.1 3 j rfl)
    · rw [xres_h rfl h3]
      exact r3
