/-! Part 40: the class's walk of a row -/
def wf (sz : Nat → Int) (w : Nat → Nat) : Nat → Pl × Nat
  | 0 => w0
  | n + 1 => (padd (wf sz w n).1 (stp sz (w n) (wf sz w n).2), dn (wf sz w n).2 (w n))
theorem dn_lt (d l : Nat) : dn d l < 8 := Nat.mod_lt _ (by decide)
theorem wf_d (sz : Nat → Int) (w : Nat → Nat) : ∀ n, (wf sz w n).2 < 8
  | 0 => (show 0 < 8 by decide)
  | n + 1 => dn_lt _ _
theorem turn_and : ∀ d : Nat, d < 8 → ∀ l : Nat, l < 10 → (I d + I (tn l)) &&& 7 = I (dn d l) := by decide +kernel
theorem J_pl (p q : Pl) : J (pkp p) + J (pkp q) = J (pkp (padd p q)) := by
  rw [J_add]
  unfold pkp padd
  rw [pk_add]
def PB (p : Pl) (b : Int) : Prop := (-b ≤ p.1 ∧ p.1 ≤ b) ∧ (-b ≤ p.2.1 ∧ p.2.1 ≤ b) ∧ (-b ≤ p.2.2.1 ∧ p.2.2.1 ≤ b) ∧ (-b ≤ p.2.2.2 ∧ p.2.2.2 ≤ b)
theorem stp_b {sz : Nat → Int} (hz : ∀ k, k < 7 → 0 ≤ sz k ∧ sz k ≤ 20) {l d : Nat} (hl : l < 10) (hd : d < 8) : PB (stp sz l d) 40 := by
  obtain ⟨b1, b2, b3, b4⟩ := cofb l hl d hd
  obtain ⟨z1, z2⟩ := hz (kd l) (kd_lt l hl)
  exact ⟨mulb z1 z2 b1, mulb z1 z2 b2, mulb z1 z2 b3, mulb z1 z2 b4⟩
theorem wf_b {sz : Nat → Int} (hz : ∀ k, k < 7 → 0 ≤ sz k ∧ sz k ≤ 20) {w : Nat → Nat} : ∀ n, (∀ i, i < n → w i < 10) → PB (wf sz w n).1 (40 * n)
  | 0, _ => by
    show PB (0, 0, 0, 0) _
    unfold PB
    simp
  | n + 1, h => by
    have h1 := wf_b hz n (fun i hi => h i (by omega))
    have h2 := stp_b hz (h n (by omega)) (wf_d sz w n)
    show PB (padd (wf sz w n).1 (stp sz (w n) (wf sz w n).2)) _
    unfold PB at h1 h2 ⊢
    unfold padd
    dsimp only
    rw [show (40 * ((n + 1 : Nat) : Int)) = 40 * n + 40 by omega]
    omega
def rFol (k j : Nat) : Bool := !((k == 17 && j == 4) || k == 20 || (k == 18 && !(j == 0)) || (k == 19 && !(j == 0)))
def Fol (M M' : Mem) (n : Nat) (w : Nat → Nat) : Prop := KpR rFol M M' ∧ (∀ i, i < n → M'.2 18 (i + 1) = J (pkp (wf (szf M) w (i + 1)).1)) ∧ (∀ i, i < n → M'.1 19 (i + 1) = I (wf (szf M) w (i + 1)).2) ∧ ∀ i, i < n → M'.1 20 i = I (w i)
theorem Fol.kp {M M' : Mem} {n : Nat} {w : Nat → Nat} (h : Fol M M' n w) : KpR rFol M M' := h.1
theorem Fol.pl {M M' : Mem} {n : Nat} {w : Nat → Nat} (h : Fol M M' n w) : ∀ i, i < n → M'.2 18 (i + 1) = J (pkp (wf (szf M) w (i + 1)).1) := h.2.1
theorem Fol.dr {M M' : Mem} {n : Nat} {w : Nat → Nat} (h : Fol M M' n w) : ∀ i, i < n → M'.1 19 (i + 1) = I (wf (szf M) w (i + 1)).2 := h.2.2.1
theorem Fol.ld {M M' : Mem} {n : Nat} {w : Nat → Nat} (h : Fol M M' n w) : ∀ i, i < n → M'.1 20 i = I (w i) := h.2.2.2
theorem follow_s {N a0 n0 n : Nat} {M : Mem} {w : Nat → Nat} (hS : Sta M) (hP : Sps M) (ha : a0 = 4 ∨ a0 = 25) (h0 : iaL shp a0 = some n0) (hn0 : n0 ≤ 2000) (hn : n ≤ n0) (hn2 : n ≤ 24) (hw : Rw M a0 n w) (hN : 2000 < N) :
    ∃ M', f_X5_follow N M a0 (I n) = some M' ∧ Fol M M' n w ∧ M'.1 17 4 = I n := by
  have key : ∀ (r j n' : Nat) (M1 : Mem), j + r = n → r < n' → Fol M M1 j w → ∃ M', l_X5_follow_8 N a0 n' M1 (I n) (J (pkp (wf (szf M) w j).1)) (I (wf (szf M) w j).2) (I j) = some M' ∧ Fol M M' n w ∧ M'.1 17 4 = I n := by
    intro r
    induction r with
    | zero =>
      intro j n' M1 h1 h2 hf
      obtain ⟨n', rfl⟩ : ∃ q, n' = q + 1 := ⟨n' - 1, by omega⟩
      obtain rfl : j = n := by omega
      refine ⟨seI M1 17 4 (I j), ?_, ⟨hf.kp.I rfl, hf.pl, fun i hi => ?_, fun i hi => ?_⟩, by simp [seI_1]⟩
      · rw [l_X5_follow_8, if_pos (by rw [I_le] <;> omega)]
        rfl
      · rw [seI_ne (by decide)]; exact hf.dr i hi
      · rw [seI_ne (by decide)]; exact hf.ld i hi
    | succ r ih =>
      intro j n' M1 h1 h2 hf
      obtain ⟨n', rfl⟩ : ∃ q, n' = q + 1 := ⟨n' - 1, by omega⟩
      obtain ⟨e1, e2⟩ := hw j (by omega)
      have hd := wf_d (szf M) w j
      have hS1 : Sta M1 := hS.kp (hf.kp.sub fun k j hj => by simp [rSta] at hj; simp [rFol]; omega)
      rw [l_X5_follow_8, if_neg (by rw [I_le] <;> omega), at_in h0 hn0 (by omega) (by omega)]
      simp only [bd2, Int.toNat_natCast]
      rw [show M1.1 a0 j = I (w j) by rw [hf.kp.1 a0 j (by rcases ha with rfl | rfl <;> rfl), e1]]
      unfold f_X1_step f_X1_turned
      rw [I_10, I_mul, I_add, pat_in (n := 80) rfl (by decide) (by omega) (by omega)]
      simp only [bd2]
      rw [show ((((wf (szf M) w j).2 : Nat) : Int) * 10 + (w j : Nat)).toNat = 10 * (wf (szf M) w j).2 + w j by omega, hf.kp.2 16 _ rfl, hP _ _ hd e2]
      rw [at_in (n := 10) rfl (by decide) (by omega) (by omega)]
      simp only [bd2, Int.toNat_natCast]
      rw [sta_tn hS1 e2, turn_and _ hd _ e2, put_in (n := 24) rfl (by decide) (by decide) (by omega) (by omega)]
      simp only [bd, Int.toNat_natCast]
      rw [I_1, I_add, pput_in (n := 25) rfl (by decide) (by omega) (by omega)]
      simp only [bd]
      rw [put_in (n := 25) rfl (by decide) (by decide) (by omega) (by omega), J_pl, show ((j : Int) + 1).toNat = j + 1 by omega]
      simp only [bd]
      refine ih (j + 1) n' _ (by omega) (by omega) ⟨?_, fun i hi => ?_, fun i hi => ?_, fun i hi => ?_⟩
      · exact ((hf.kp.I rfl).L (by simp [rFol])).I (by simp [rFol])
      · rw [seI_2, seL_2]
        by_cases e : i = j
        · subst e; rw [if_pos ⟨rfl, rfl⟩]; rfl
        · rw [if_neg (by omega), seI_2]; exact hf.pl i (by omega)
      · rw [seI_1]
        by_cases e : i = j
        · subst e; rw [if_pos ⟨rfl, rfl⟩]; rfl
        · rw [if_neg (by omega), seL_1, seI_ne (by decide)]; exact hf.dr i (by omega)
      · rw [seI_ne (by decide), seL_1, seI_1]
        by_cases e : i = j
        · subst e; rw [if_pos ⟨rfl, rfl⟩]
        · rw [if_neg (by omega)]; exact hf.ld i (by omega)
  exact key n 0 N M (by omega) (by omega) ⟨KpR.rf, fun i hi => by omega, fun i hi => by omega, fun i hi => by omega⟩
