/-! Part 51: photo, the class's recursion -/
def suml (f : Nat → Nat) : Nat → Nat
  | 0 => 0
  | j + 1 => suml f j + f j
def updl (f : Nat → Int) (k : Nat) (v : Int) (j : Nat) : Int := if j = k then v else f j
def cntw (sz : Nat → Int) (tt : Nat → Int) : Nat → Nat → Pl × Nat → (Nat → Int) → Nat
  | 0, _, s, _ => if s.1 = (0, 0, 0, 0) ∧ s.2 = 0 then 1 else 0
  | r + 1, i, s, lf => suml (fun l => if tn l = tt i ∧ 0 < lf (kd l) then cntw sz tt r (i + 1) (padd s.1 (stp sz l s.2), dn s.2 l) (updl lf (kd l) (lf (kd l) - 1)) else 0) 10
theorem seI_back {M : Mem} {k i : Nat} {v w : Int32} (h : M.1 k i = w) : seI (seI M k i v) k i w = M := by
  apply Prod.ext
  · funext a b
    rw [seI_1, seI_1]
    by_cases e : a = k ∧ b = i
    · rw [if_pos e, e.1, e.2, h]
    · rw [if_neg e, if_neg e]
  · rfl
def Lft (M : Mem) (c : Nat) (lf : Nat → Int) : Prop := ∀ k, k < 7 → M.1 c k = I (lf k) ∧ 0 ≤ lf k ∧ lf k ≤ 9
theorem Lft.dec {M : Mem} {c : Nat} {lf : Nat → Int} (h : Lft M c lf) {k : Nat} (h0 : 0 < lf k) : Lft (seI M c k (I (lf k - 1))) c (updl lf k (lf k - 1)) := by
  intro j hj
  obtain ⟨a, b, d⟩ := h j hj
  unfold updl
  rw [seI_1]
  by_cases e : j = k
  · subst e
    rw [if_pos ⟨rfl, rfl⟩, if_pos rfl]
    exact ⟨rfl, by omega, by omega⟩
  · rw [if_neg (by omega), if_neg e]
    exact ⟨a, b, d⟩
theorem PB.step {sz : Nat → Int} (hz : ∀ k, k < 7 → 0 ≤ sz k ∧ sz k ≤ 20) {s : Pl × Nat} {i l : Nat} (h : PB s.1 (40 * i)) (hl : l < 10) (hd : s.2 < 8) : PB (padd s.1 (stp sz l s.2)) (40 * (i + 1 : Nat)) := by
  have h2 := stp_b hz hl hd
  unfold PB at h h2 ⊢
  unfold padd
  dsimp only
  rw [show (40 * ((i + 1 : Nat) : Int)) = 40 * i + 40 by omega]
  omega
theorem xturns {N n : Nat} {sz tt : Nat → Int} (hn : n ≤ 6) (hz : ∀ k, k < 7 → 0 ≤ sz k ∧ sz k ≤ 20) (ht : ∀ i, i < n → -2 ≤ tt i ∧ tt i ≤ 2) (hN : 2000 < N) : ∀ (r dd i : Nat) (M : Mem) (s : Pl × Nat) (lf : Nat → Int), i + r = n → r < dd → Sta M → Sps M → szf M = sz → (∀ i, i < n → M.1 32 i = I (tt i)) → Lft M 28 lf → PB s.1 (40 * i) → s.2 < 8 →
    f_X4_layTurns N dd M (I i) (I n) (J (pkp s.1)) (I s.2) 32 = some (I (cntw sz tt r i s lf), M) := by
  intro r
  induction r with
  | zero =>
    intro dd i M s lf h1 h2 hS hP hsz h32 hL hB hd
    obtain ⟨dd, rfl⟩ : ∃ q, dd = q + 1 := ⟨dd - 1, by omega⟩
    show (if I i < I n then l_X4_layTurns_28 N (f_X4_layTurns N dd) 32 N M (I i) (I n) (J (pkp s.1)) (I s.2) 0 0 else if lg_cmp (J (pkp s.1)) 0 = 0 then if I s.2 = 0 then some (1, M) else some (0, M) else some (0, M)) = _
    rw [if_neg (show ¬ I i < I n by rw [I_lt] <;> omega)]
    unfold cntw
    have hB' := hB.le (b := 960) (by omega)
    by_cases c : s.1 = (0, 0, 0, 0)
    · have e : lg_cmp (J (pkp s.1)) 0 = 0 := by rw [lcmp0, pl0 hB']; exact c
      rw [if_pos e]
      by_cases c2 : s.2 = 0
      · rw [if_pos (by rw [c2]; rfl), if_pos ⟨c, c2⟩]; rfl
      · rw [if_neg (by rw [I_0, I_eq] <;> omega), if_neg (fun h => c2 h.2)]; rfl
    · have e : ¬ lg_cmp (J (pkp s.1)) 0 = 0 := by rw [lcmp0, pl0 hB']; exact c
      rw [if_neg e, if_neg (fun h => c h.1)]; rfl
  | succ r ih =>
    intro dd i M s lf h1 h2 hS hP hsz h32 hL hB hd
    obtain ⟨dd, rfl⟩ : ∃ q, dd = q + 1 := ⟨dd - 1, by omega⟩
    show (if I i < I n then l_X4_layTurns_28 N (f_X4_layTurns N dd) 32 N M (I i) (I n) (J (pkp s.1)) (I s.2) 0 0 else if lg_cmp (J (pkp s.1)) 0 = 0 then if I s.2 = 0 then some (1, M) else some (0, M) else some (0, M)) = _
    rw [if_pos (show I i < I n by rw [I_lt] <;> omega)]
    unfold cntw
    generalize hf : (fun l => if tn l = tt i ∧ 0 < lf (kd l) then cntw sz tt r (i + 1) (padd s.1 (stp sz l s.2), dn s.2 l) (updl lf (kd l) (lf (kd l) - 1)) else 0) = f
    have key : ∀ (q l n' : Nat), l + q = 10 → q < n' → l_X4_layTurns_28 N (f_X4_layTurns N dd) 32 n' M (I i) (I n) (J (pkp s.1)) (I s.2) (I (suml f l)) (I l) = some (I (suml f 10), M) := by
      intro q
      induction q with
      | zero =>
        intro l n' g1 g2
        obtain ⟨n', rfl⟩ : ∃ q, n' = q + 1 := ⟨n' - 1, by omega⟩
        obtain rfl : l = 10 := by omega
        rw [l_X4_layTurns_28, if_pos (by decide)]
      | succ q ihq =>
        intro l n' g1 g2
        obtain ⟨n', rfl⟩ : ∃ q, n' = q + 1 := ⟨n' - 1, by omega⟩
        have hl : l < 10 := by omega
        have hk := kd_lt l hl
        have nx := ihq (l + 1) n' (by omega) (by omega)
        rw [show suml f (l + 1) = suml f l + f l from rfl] at nx
        obtain ⟨b1, b2⟩ := ht i (by omega)
        have bt := tn_b l hl
        obtain ⟨k1, k2, k3⟩ := hL (kd l) hk
        rw [l_X4_layTurns_28, if_neg (by rw [I_10, I_le] <;> omega), at_in (n := 10) rfl (by decide) (by omega) (by omega)]
        simp only [bd2, Int.toNat_natCast]
        rw [at_in (n := 10) rfl (by decide) (by omega) (by omega)]
        simp only [Int.toNat_natCast]
        rw [at_in (n := 6) rfl (by decide) (by omega) (by omega)]
        simp only [Int.toNat_natCast]
        rw [sta_kd hS hl, at_in (n := 7) rfl (by decide) (by omega) (by omega)]
        simp only [Int.toNat_natCast]
        have el : I l + 1 = I (l + 1 : Nat) := by rw [I_1, I_add]; rfl
        rw [el]
        by_cases c : tn l = tt i ∧ 0 < lf (kd l)
        · have fl : f l = cntw sz tt r (i + 1) (padd s.1 (stp sz l s.2), dn s.2 l) (updl lf (kd l) (lf (kd l) - 1)) := by rw [← hf]; exact if_pos c
          rw [if_pos (show M.1 47 l = M.1 32 i by rw [sta_tn hS hl, h32 i (by omega), c.1]), if_neg (show ¬ M.1 28 (kd l) ≤ 0 by rw [k1, I_0, I_le] <;> omega)]
          unfold f_X1_step f_X1_turned
          rw [I_10, I_mul, I_add, pat_in (n := 80) rfl (by decide) (by omega) (by omega)]
          simp only [bd2]
          rw [show ((s.2 : Int) * 10 + (l : Nat)).toNat = 10 * s.2 + l by omega, hP _ _ hd hl, at_in (n := 7) rfl (by decide) (by omega) (by omega)]
          simp only [Int.toNat_natCast]
          rw [k1, I_1, I_sub, put_in (n := 7) rfl (by decide) (by decide) (by omega) (by omega)]
          simp only [bd, Int.toNat_natCast]
          rw [at_in (n := 10) rfl (by decide) (by omega) (by omega)]
          simp only [Int.toNat_natCast]
          rw [seI_ne (by decide), sta_tn hS hl, turn_and _ hd _ hl, J_pl, hsz, I_add]
          have kk : KpR (fun k _ => !(k == 28)) M (seI M 28 (kd l) (I (lf (kd l) - 1))) := KpR.rf.I rfl
          have hrec := ih dd (i + 1) (seI M 28 (kd l) (I (lf (kd l) - 1))) (padd s.1 (stp sz l s.2), dn s.2 l) (updl lf (kd l) (lf (kd l) - 1)) (by omega) (by omega) (hS.kp (KpR.rf.I rfl)) (hP.kp (KpR.rf.I rfl)) ((szf.kp (fun j => by rw [seI_ne (by decide)])).trans hsz) (fun i hi => by rw [seI_ne (by decide)]; exact h32 i hi) (hL.dec c.2) (hB.step hz hl hd) (dn_lt _ _)
          rw [show (i : Int) + 1 = ((i + 1 : Nat) : Int) by omega, hrec]
          simp only []
          rw [at_in (n := 7) rfl (by decide) (by omega) (by omega)]
          simp only [Int.toNat_natCast]
          rw [seI_1, if_pos ⟨rfl, rfl⟩, I_add, put_in (n := 7) rfl (by decide) (by decide) (by omega) (by omega)]
          simp only [Int.toNat_natCast]
          rw [seI_back (by rw [k1]; congr 1; omega), I_add, ← fl]
          exact nx
        · have fl : f l = 0 := by rw [← hf]; exact if_neg c
          rw [fl, Nat.add_zero] at nx
          by_cases c1 : tn l = tt i
          · rw [if_pos (show M.1 47 l = M.1 32 i by rw [sta_tn hS hl, h32 i (by omega), c1]), if_pos (show M.1 28 (kd l) ≤ 0 by rw [k1, I_0, I_le] <;> omega)]
            exact nx
          · rw [if_neg (show ¬ M.1 47 l = M.1 32 i by rw [sta_tn hS hl, h32 i (by omega), I_eq] <;> omega)]
            exact nx
    exact key 10 0 N rfl (by omega)
