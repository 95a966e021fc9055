/-! Part 37: how many pieces of a kind a row takes; uses -/
/-- the first n places of an array are a row of letters -/
def Rw (M : Mem) (a n : Nat) (w : Nat → Nat) : Prop := ∀ i, i < n → M.1 a i = I (w i) ∧ w i < 10
def cntK (w : Nat → Nat) (k : Nat) : Nat → Nat
  | 0 => 0
  | n + 1 => cntK w k n + (if kd (w n) = k then 1 else 0)
theorem cntK_le (w : Nat → Nat) (k : Nat) : ∀ n, cntK w k n ≤ n
  | 0 => Nat.le_refl 0
  | n + 1 => by
    have := cntK_le w k n
    unfold cntK
    split <;> omega
theorem taken_l {N a0 n0 n k : Nat} {M : Mem} {w : Nat → Nat} (hS : Sta M) (h0 : iaL shp a0 = some n0) (hn0 : n0 ≤ 2000) (hn : n ≤ n0) (hk : k < 7) (hw : Rw M a0 n w) : ∀ (r j n' : Nat), j + r = n → r < n' → l_X0_taken_5 N a0 n' M (I n) (I k) (I (cntK w k j)) (I j) = some (I (cntK w k n), M) := by
  intro r
  induction r with
  | zero =>
    intro j n' h1 h2
    obtain ⟨n', rfl⟩ : ∃ q, n' = q + 1 := ⟨n' - 1, by omega⟩
    obtain rfl : j = n := by omega
    rw [l_X0_taken_5, if_pos (by rw [I_le] <;> omega)]
  | succ r ih =>
    intro j n' h1 h2
    obtain ⟨n', rfl⟩ : ∃ q, n' = q + 1 := ⟨n' - 1, by omega⟩
    obtain ⟨e1, e2⟩ := hw j (by omega)
    have hc := cntK_le w k j
    have hkd := kd_lt (w j) e2
    rw [l_X0_taken_5, if_neg (by rw [I_le] <;> omega), at_in h0 hn0 (by omega) (by omega)]
    simp only [bd2, Int.toNat_natCast]
    rw [e1, at_in (n := 10) rfl (by decide) (by omega) (by omega)]
    simp only [bd2, Int.toNat_natCast]
    have e46 := sta_kd hS e2
    have := ih (j + 1) n' (by omega) (by omega)
    by_cases hke : kd (w j) = k
    · rw [if_pos (by rw [e46, hke]), I_1, I_add, I_add]
      rw [show cntK w k (j + 1) = cntK w k j + 1 by simp [cntK, hke]] at this
      exact this
    · rw [if_neg (by rw [e46, I_eq] <;> omega), I_1, I_add]
      rw [show cntK w k (j + 1) = cntK w k j by simp [cntK, hke]] at this
      exact this
theorem taken_s {N a0 n0 n k : Nat} {M : Mem} {w : Nat → Nat} (hS : Sta M) (h0 : iaL shp a0 = some n0) (hn0 : n0 ≤ 2000) (hn : n ≤ n0) (hk : k < 7) (hw : Rw M a0 n w) (hN : 2000 < N) : f_X0_taken N M a0 (I n) (I k) = some (I (cntK w k n), M) :=
  taken_l hS h0 hn0 hn hk hw n 0 N (by omega) (by omega)
/-- how many pieces of the first kinds a row takes that the box doesn't have -/
def lackS (w : Nat → Nat) (n : Nat) (mk : Nat → Int) : Nat → Int
  | 0 => 0
  | k + 1 => lackS w n mk k + (if (cntK w k n : Int) - mk k < 0 then 0 else (cntK w k n : Int) - mk k)
theorem lackS_b (w : Nat → Nat) (n : Nat) (mk : Nat → Int) (hm : ∀ k, k < 7 → 0 ≤ mk k) : ∀ k, k ≤ 7 → 0 ≤ lackS w n mk k ∧ lackS w n mk k ≤ k * n
  | 0, _ => by simp [lackS]
  | k + 1, h => by
    have h1 := lackS_b w n mk hm k (by omega)
    have h2 := cntK_le w k n
    have h3 := hm k (by omega)
    have h4 : ((k + 1 : Nat) : Int) * n = k * n + n := by rw [Int.natCast_add, Int.add_mul]; omega
    rw [h4]
    unfold lackS
    split <;> omega
def mkf (M : Mem) (k : Nat) : Int := (M.1 2 k).toInt
theorem imax_s {x y : Int} (h : -1000 ≤ x) (h2 : x ≤ 1000) (h3 : -1000 ≤ y) (h4 : y ≤ 1000) : imax (I x) (I y) = I (if y < x then x else y) := by
  unfold imax
  by_cases c : x < y
  · rw [if_pos (by rw [I_lt] <;> omega), if_neg (by omega)]
  · rw [if_neg (by rw [I_lt] <;> omega)]
    by_cases c2 : y < x
    · rw [if_pos c2]
    · rw [if_neg c2]; congr 1; omega
theorem lacking_s {N a0 n0 n : Nat} {M : Mem} {w : Nat → Nat} (hS : Sta M) (h0 : iaL shp a0 = some n0) (hn0 : n0 ≤ 2000) (hn : n ≤ n0) (hn2 : n ≤ 24) (hw : Rw M a0 n w) (hm : ∀ k, k < 7 → Bd (M.1 2 k) 0 9) (hN : 2000 < N) : f_X0_lacking N M a0 (I n) = some (I (lackS w n (mkf M) 7), M) := by
  have key : ∀ (r j n' : Nat), j + r = 7 → r < n' → l_X0_lacking_5 N a0 n' M (I n) (I (lackS w n (mkf M) j)) (I j) = some (I (lackS w n (mkf M) 7), M) := by
    intro r
    induction r with
    | zero =>
      intro j n' h1 h2
      obtain ⟨n', rfl⟩ : ∃ q, n' = q + 1 := ⟨n' - 1, by omega⟩
      obtain rfl : j = 7 := by omega
      rw [l_X0_lacking_5, if_pos (by rw [I_7, I_le] <;> omega)]
    | succ r ih =>
      intro j n' h1 h2
      obtain ⟨n', rfl⟩ : ∃ q, n' = q + 1 := ⟨n' - 1, by omega⟩
      have hb := hm j (by omega)
      unfold Bd at hb
      have hc := cntK_le w j n
      rw [l_X0_lacking_5, if_neg (by rw [I_7, I_le] <;> omega), taken_s hS h0 hn0 hn (by omega) hw hN]
      simp only [bd2]
      rw [at_in (n := 7) rfl (by decide) (by omega) (by omega)]
      simp only [bd2, Int.toNat_natCast, nm]
      rw [show M.1 2 j = I (mkf M j) from (I_of _).symm, I_sub, I_0, imax_s (by omega) (by omega) (by unfold mkf; omega) (by unfold mkf; omega), I_add, I_1, I_add]
      exact ih (j + 1) n' (by omega) (by omega)
  exact key 7 0 N rfl (by omega)
theorem lackS_0 (w : Nat → Nat) (n : Nat) (mk : Nat → Int) (hm : ∀ k, k < 7 → 0 ≤ mk k) : ∀ j, j ≤ 7 → (lackS w n mk j = 0 ↔ ∀ k, k < j → (cntK w k n : Int) ≤ mk k)
  | 0, _ => by simp [lackS]
  | j + 1, h => by
    have h1 := lackS_0 w n mk hm j (by omega)
    have h2 := (lackS_b w n mk hm j (by omega)).1
    unfold lackS
    constructor
    · intro e k hk
      by_cases hkj : k = j
      · subst hkj
        split at e <;> omega
      · refine h1.mp ?_ k (by omega)
        split at e <;> omega
    · intro e
      rw [h1.mpr (fun k hk => e k (by omega))]
      have := e j (by omega)
      split <;> omega
theorem kindOf_s {N : Nat} {M : Mem} {l : Nat} (hl : l < 10) : f_X7_kindOf N M (I l) = some (I (kd l), M) := by
  rcases (show l = 0 ∨ l = 1 ∨ l = 2 ∨ l = 3 ∨ l = 4 ∨ l = 5 ∨ l = 6 ∨ l = 7 ∨ l = 8 ∨ l = 9 by omega) with rfl | rfl | rfl | rfl | rfl | rfl | rfl | rfl | rfl | rfl <;> rfl
theorem turnOf_s {N : Nat} {M : Mem} {l : Nat} (hl : l < 10) : f_X7_turnOf N M (I l) = some (I (tn l), M) := by
  rcases (show l = 0 ∨ l = 1 ∨ l = 2 ∨ l = 3 ∨ l = 4 ∨ l = 5 ∨ l = 6 ∨ l = 7 ∨ l = 8 ∨ l = 9 by omega) with rfl | rfl | rfl | rfl | rfl | rfl | rfl | rfl | rfl | rfl <;> rfl
theorem mirrored_s {N : Nat} {M : Mem} {l : Nat} (hl : l < 10) : f_X7_mirrored N M (I l) = some (I (mr l), M) := by
  rcases (show l = 0 ∨ l = 1 ∨ l = 2 ∨ l = 3 ∨ l = 4 ∨ l = 5 ∨ l = 6 ∨ l = 7 ∨ l = 8 ∨ l = 9 by omega) with rfl | rfl | rfl | rfl | rfl | rfl | rfl | rfl | rfl | rfl <;> rfl
/-- the reference's count of one kind -/
theorem muses_l {N n k : Nat} {M : Mem} {w : Nat → Nat} {K : Mem → Int32 → Option (Int32 × Mem)} (h55 : M.1 36 55 = I n) (hn : n ≤ 24) (hk : k < 7) (hw : ∀ i, i < n → M.1 36 (31 + i) = I (w i) ∧ w i < 10) (hb : Bd (M.1 36 k) 0 9) :
    ∀ (r j n' : Nat), j + r = n → r < n' → l_X7_uses_12 N K n' M (I k) (I (cntK w k j)) (I j) = if (cntK w k n : Int) ≤ (M.1 36 k).toInt then K M (I (k + 1 : Nat)) else some (0, M) := by
  intro r
  induction r with
  | zero =>
    intro j n' h1 h2
    obtain ⟨n', rfl⟩ : ∃ q, n' = q + 1 := ⟨n' - 1, by omega⟩
    obtain rfl : j = n := by omega
    unfold Bd at hb
    have hc := cntK_le w k j
    rw [l_X7_uses_12, show ix (55 : Int32) = 55 from rfl, h55, if_pos (by rw [I_le] <;> omega)]
    simp only [ck]
    rw [if_pos (show inb (I k) 56 by rw [I_inb] <;> omega), I_ix (by omega) (by omega), I_1, I_add]
    simp only [Int.toNat_natCast]
    by_cases c : (cntK w k j : Int) ≤ (M.1 36 k).toInt
    · rw [if_pos c, if_pos]
      · rfl
      · rw [← I_of (M.1 36 k), I_le] <;> omega
    · rw [if_neg c, if_neg]
      rw [← I_of (M.1 36 k), I_le] <;> omega
  | succ r ih =>
    intro j n' h1 h2
    obtain ⟨n', rfl⟩ : ∃ q, n' = q + 1 := ⟨n' - 1, by omega⟩
    obtain ⟨e1, e2⟩ := hw j (by omega)
    have hc := cntK_le w k j
    have hkd := kd_lt (w j) e2
    rw [l_X7_uses_12, show ix (55 : Int32) = 55 from rfl, h55, if_neg (by rw [I_le] <;> omega)]
    simp only [ck, nm]
    rw [I_31, I_add, if_pos (show inb (I (31 + j)) 56 by rw [I_inb] <;> omega), I_ix (by omega) (by omega), show ((31 : Int) + j).toNat = 31 + j by omega, e1, kindOf_s e2]
    simp only [bd2]
    rw [I_1, I_0, I_add, I_add, I_add]
    have := ih (j + 1) n' (by omega) (by omega)
    by_cases hke : kd (w j) = k
    · rw [if_pos (by rw [hke])]
      rw [show cntK w k (j + 1) = cntK w k j + 1 by simp [cntK, hke]] at this
      exact this
    · rw [if_neg (by rw [I_eq] <;> omega)]
      rw [show cntK w k (j + 1) = cntK w k j by simp [cntK, hke]] at this
      rw [Int.add_zero]
      exact this
theorem muses_s {N n : Nat} {M : Mem} {w : Nat → Nat} (h55 : M.1 36 55 = I n) (hn : n ≤ 24) (hw : ∀ i, i < n → M.1 36 (31 + i) = I (w i) ∧ w i < 10) (hb : ∀ k, k < 7 → Bd (M.1 36 k) 0 9) (hN : 2000 < N) :
    ∀ (r k n' : Nat), k + r = 7 → r < n' → ∃ x, l_X7_uses_2 N n' M (I k) = some (x, M) ∧ ((∀ q, q < 7 → k ≤ q → (cntK w q n : Int) ≤ (M.1 36 q).toInt) → x = 1) ∧ (¬ (∀ q, q < 7 → k ≤ q → (cntK w q n : Int) ≤ (M.1 36 q).toInt) → x = 0) := by
  intro r
  induction r with
  | zero =>
    intro k n' h1 h2
    obtain ⟨n', rfl⟩ : ∃ q, n' = q + 1 := ⟨n' - 1, by omega⟩
    obtain rfl : k = 7 := by omega
    exact ⟨1, by rw [l_X7_uses_2, if_pos (by rw [I_7, I_le] <;> omega)], fun _ => rfl, fun h => absurd (fun q h3 h4 => by omega) h⟩
  | succ r ih =>
    intro k n' h1 h2
    obtain ⟨n', rfl⟩ : ∃ q, n' = q + 1 := ⟨n' - 1, by omega⟩
    rw [l_X7_uses_2, if_neg (by rw [I_7, I_le] <;> omega)]
    rw [show l_X7_uses_12 N (l_X7_uses_2 N n') N M (I k) 0 0 = _ from muses_l (K := l_X7_uses_2 N n') h55 hn (by omega) hw (hb k (by omega)) n 0 N (by omega) (by omega)]
    obtain ⟨x, q1, q2, q3⟩ := ih (k + 1) n' (by omega) (by omega)
    rw [q1]
    by_cases c : (cntK w k n : Int) ≤ (M.1 36 k).toInt
    · rw [if_pos c]
      refine ⟨x, rfl, fun h => q2 (fun q h3 h4 => h q h3 (by omega)), fun h => q3 (fun h' => h (fun q h4 h3 => ?_))⟩
      by_cases e : q = k
      · subst e; exact c
      · exact h' q h4 (by omega)
    · rw [if_neg c]
      exact ⟨0, rfl, fun h => absurd (h k (by omega) (Nat.le_refl k)) c, fun _ => rfl⟩
/-- THE ROW as letters -/
theorem row_ex {M : Mem} (hR : RelI M) : ∃ (n : Nat) (w : Nat → Nat), n ≤ 24 ∧ M.1 1 3 = I n ∧ M.1 36 55 = I n ∧ Rw M 4 n w ∧ ∀ i, i < n → M.1 36 (31 + i) = I (w i) ∧ w i < 10 := by
  obtain ⟨n, hn0, hn6, hn⟩ := I_exB hR.2.1.2.2.2.2.2.1.2.1 hR.2.1.2.2.2.2.2.1.2.2
  have hm := hR.2.1.2.2.2.2.2.1.1
  have hl := hR.2.1.2.2.2.2.2.2
  rw [hn, I_to (by omega) (by omega)] at hl
  have e : ∀ i : Nat, i < n.toNat → M.1 4 i = I (((M.1 4 i).toInt.toNat : Nat)) ∧ (M.1 4 i).toInt.toNat < 10 := by
    intro i hi
    have : Bd (M.1 4 i) 0 9 := (hl i (by omega) (by omega)).2
    unfold Bd at this
    refine ⟨?_, by omega⟩
    rw [Int.toNat_of_nonneg this.1, I_of]
  refine ⟨n.toNat, fun i => (M.1 4 i).toInt.toNat, by omega, by rw [hn]; congr 1; omega, by rw [hm, hn]; congr 1; omega, fun i hi => e i hi, fun i hi => ?_⟩
  rw [(hl i (by omega) (by omega)).1]
  exact e i hi
theorem op_uses (N : Nat) (hN : 2000 < N) : Op (fun M => f_X6_uses N M) (fun M => f_X7_uses N M) := by
  intro M hR
  obtain ⟨n, w, hn, h3, h55, hw, hw2⟩ := row_ex hR
  have hm : ∀ k, k < 7 → Bd (M.1 2 k) 0 9 := fun k hk => (hR.2.1.1 k hk).2
  have hl := lacking_s (N := N) hR.1 (a0 := 4) (n0 := 24) rfl (by decide) hn hn hw hm hN
  have hb : ∀ k, k < 7 → Bd (M.1 36 k) 0 9 := fun k hk => by rw [(hR.2.1.1 k hk).1]; exact hm k hk
  obtain ⟨x, u1, u2, u3⟩ := muses_s (N := N) h55 hn hw2 hb hN 7 0 N rfl (by omega)
  have h0 := lackS_0 w n (mkf M) (fun k hk => (hm k hk).1) 7 (Nat.le_refl 7)
  have hlb := lackS_b w n (mkf M) (fun k hk => (hm k hk).1) 7 (Nat.le_refl 7)
  have e : (∀ q, q < 7 → 0 ≤ q → (cntK w q n : Int) ≤ (M.1 36 q).toInt) ↔ lackS w n (mkf M) 7 = 0 := by
    rw [h0]
    constructor
    · intro h k hk
      have := h k hk (Nat.zero_le k)
      rw [(hR.2.1.1 k hk).1] at this
      exact this
    · intro h q hq _
      rw [(hR.2.1.1 q hq).1]
      exact h q hq
  refine ⟨if lackS w n (mkf M) 7 = 0 then 1 else 0, M, M, ?_, ?_, hR⟩
  · simp only [f_X6_uses]
    rw [h3, hl]
    simp only [bd2]
    by_cases c : lackS w n (mkf M) 7 = 0
    · rw [if_pos (by rw [c]; rfl), if_pos c]
      rfl
    · rw [if_neg (by rw [I_0, I_eq] <;> omega), if_neg c]
      rfl
  · show l_X7_uses_2 N N M (I 0) = _
    rw [show (I 0) = I (0 : Nat) from rfl, u1]
    by_cases c : lackS w n (mkf M) 7 = 0
    · rw [u2 (e.mpr c), if_pos c]
    · rw [u3 (fun h => c (e.mp h)), if_neg c]
