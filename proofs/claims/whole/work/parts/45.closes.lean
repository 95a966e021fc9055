/-! Part 45: same places; closed; closes -/
theorem pl0 {p : Pl} (h : PB p 960) : (J (pkp p) = 0) = (p = (0, 0, 0, 0)) := by
  unfold PB at h
  have b := pk_bd (a := p.1) (b := p.2.1) (c := p.2.2.1) (d := p.2.2.2) (by omega) (by omega) (by omega) (by omega)
  rw [J_0, J_eq (by unfold pkp; omega) (by unfold pkp; omega) (by omega) (by omega)]
  apply propext
  constructor
  · intro e
    have e' : pk p.1 p.2.1 p.2.2.1 p.2.2.2 = pk 0 0 0 0 := e
    obtain ⟨e1, e2, e3, e4⟩ := pk_inj (by omega) (by omega) (by omega) (by omega) (by omega) (by omega) e'
    exact Prod.ext e1 (Prod.ext e2 (Prod.ext e3 e4))
  · intro e
    rw [e]
    rfl
theorem plE {p q : Pl} (h : PB p 960) (h' : PB q 960) : (J (pkp p) = J (pkp q)) = (p = q) := by
  unfold PB at h h'
  have b := pk_bd (a := p.1) (b := p.2.1) (c := p.2.2.1) (d := p.2.2.2) (by omega) (by omega) (by omega) (by omega)
  have b' := pk_bd (a := q.1) (b := q.2.1) (c := q.2.2.1) (d := q.2.2.2) (by omega) (by omega) (by omega) (by omega)
  rw [J_eq (by unfold pkp; omega) (by unfold pkp; omega) (by unfold pkp; omega) (by unfold pkp; omega)]
  apply propext
  constructor
  · intro e
    have e' : pk p.1 p.2.1 p.2.2.1 p.2.2.2 = pk q.1 q.2.1 q.2.2.1 q.2.2.2 := e
    obtain ⟨e1, e2, e3, e4⟩ := pk_inj (by omega) (by omega) (by omega) (by omega) (by omega) (by omega) e'
    exact Prod.ext e1 (Prod.ext e2 (Prod.ext e3 e4))
  · intro e
    rw [e]
theorem lcmp0 (x y : Int64) : (lg_cmp x y = 0) = (x = y) := by
  unfold lg_cmp
  apply propext
  grind
theorem same_go {N n a b k : Nat} {M : Mem} (ha : a ≤ 24) (hb : b ≤ 24) (hk : k < 4) : l_X7_isSame_2 N (n + 1) M (I a) (I b) (I k) = if M.1 39 (5 * a + k) = M.1 39 (5 * b + k) then l_X7_isSame_2 N n M (I a) (I b) (I (k + 1 : Nat)) else some (0, M) := by
  rw [l_X7_isSame_2, if_neg (by rw [I_4, I_le] <;> omega)]
  simp only [ck]
  rw [I_5, I_mul, I_mul, I_add, I_add, if_pos (show inb (I ((5 : Int) * a + k)) 125 by rw [I_inb] <;> omega), if_pos (show inb (I ((5 : Int) * b + k)) 125 by rw [I_inb] <;> omega), I_ix (by omega) (by omega), I_ix (by omega) (by omega), show ((5 : Int) * a + k).toNat = 5 * a + k by omega, show ((5 : Int) * b + k).toNat = 5 * b + k by omega, I_1, I_add]
  rfl
theorem same_s {N a b : Nat} {M : Mem} {p q : Pl} (ha : a ≤ 24) (hb : b ≤ 24) (hp : At M (5 * a) p) (hq : At M (5 * b) q) (h : PB p 960) (h' : PB q 960) (hN : 2000 < N) : f_X7_isSame N M (I a) (I b) = some (if p = q then 1 else 0, M) := by
  obtain ⟨n, rfl⟩ : ∃ n, N = n + 1 + 1 + 1 + 1 + 1 := ⟨N - 5, by omega⟩
  obtain ⟨p1, p2, p3, p4⟩ := hp
  obtain ⟨q1, q2, q3, q4⟩ := hq
  unfold PB at h h'
  unfold f_X7_isSame
  have stop : l_X7_isSame_2 (n + 1 + 1 + 1 + 1 + 1) (n + 1) M (I a) (I b) (I (3 + 1 : Nat)) = some (1, M) := by
    rw [l_X7_isSame_2, if_pos (by decide)]
  show l_X7_isSame_2 _ _ M (I a) (I b) (I (0 : Nat)) = _
  rw [same_go ha hb (by decide), same_go ha hb (by decide), same_go ha hb (by decide), same_go ha hb (by decide), stop]
  rw [show 5 * a + 0 = 5 * a from rfl, show 5 * b + 0 = 5 * b from rfl, show 0 + 1 = 1 from rfl, show 1 + 1 = 2 from rfl, show 2 + 1 = 3 from rfl, p1, p2, p3, p4, q1, q2, q3, q4]
  by_cases c : p = q
  · subst c
    simp
  · rw [if_neg c]
    by_cases c1 : p.1 = q.1
    · rw [if_pos (show I p.1 = I q.1 by rw [c1])]
      by_cases c2 : p.2.1 = q.2.1
      · rw [if_pos (show I p.2.1 = I q.2.1 by rw [c2])]
        by_cases c3 : p.2.2.1 = q.2.2.1
        · rw [if_pos (show I p.2.2.1 = I q.2.2.1 by rw [c3])]
          by_cases c4 : p.2.2.2 = q.2.2.2
          · exact absurd (Prod.ext c1 (Prod.ext c2 (Prod.ext c3 c4))) c
          · rw [if_neg (show ¬ I p.2.2.2 = I q.2.2.2 by rw [I_eq] <;> omega)]
        · rw [if_neg (show ¬ I p.2.2.1 = I q.2.2.1 by rw [I_eq] <;> omega)]
      · rw [if_neg (show ¬ I p.2.1 = I q.2.1 by rw [I_eq] <;> omega)]
    · rw [if_neg (show ¬ I p.1 = I q.1 by rw [I_eq] <;> omega)]
def Clo (n : Nat) (s : Pl × Nat) : Prop := 0 < n ∧ s.1 = (0, 0, 0, 0) ∧ s.2 = 0
theorem xclosed {N n : Nat} {M : Mem} {s : Pl × Nat} (hn : n ≤ 24) (h4 : M.1 17 4 = I n) (h1 : M.2 18 n = J (pkp s.1)) (h2 : M.1 19 n = I s.2) (hb : PB s.1 960) (hd : s.2 < 8) : ∃ x, (x = 1 ∧ Clo n s ∨ x = 0 ∧ ¬ Clo n s) ∧ f_X5_isClosed N M = some (x, M) := by
  unfold f_X5_isClosed f_X5_end
  rw [h4]
  by_cases c : n = 0
  · refine ⟨0, Or.inr ⟨rfl, fun h => by unfold Clo at h; omega⟩, ?_⟩
    rw [if_pos (by rw [I_0, I_le] <;> omega)]
  · rw [if_neg (by rw [I_0, I_le] <;> omega), pat_in (n := 25) rfl (by decide) (by omega) (by omega)]
    simp only [bd2, Int.toNat_natCast]
    rw [h1, h4, at_in (n := 25) rfl (by decide) (by omega) (by omega)]
    simp only [Int.toNat_natCast]
    by_cases c2 : s.1 = (0, 0, 0, 0)
    · have e : lg_cmp (J (pkp s.1)) 0 = 0 := by rw [lcmp0, pl0 hb]; exact c2
      rw [if_pos e]
      by_cases c3 : s.2 = 0
      · exact ⟨1, Or.inl ⟨rfl, by omega, c2, c3⟩, by rw [if_pos (by rw [h2, c3]; rfl)]⟩
      · exact ⟨0, Or.inr ⟨rfl, fun h => c3 h.2.2⟩, by rw [if_neg (by rw [h2, I_0, I_eq] <;> omega)]⟩
    · have e : ¬ lg_cmp (J (pkp s.1)) 0 = 0 := by rw [lcmp0, pl0 hb]; exact c2
      rw [if_neg e]
      exact ⟨0, Or.inr ⟨rfl, fun h => c2 h.2.1⟩, rfl⟩
theorem mclosed {N n : Nat} {M : Mem} {s : Pl × Nat} (hn : n ≤ 24) (h8 : M.1 34 8 = I n) (h0 : At M (5 * 0) (0, 0, 0, 0)) (h1 : At M (5 * n) s.1) (h2 : M.1 39 (5 * n + 4) = I s.2) (hb : PB s.1 960) (hd : s.2 < 8) (hN : 2000 < N) : ∃ x, (x = 1 ∧ Clo n s ∨ x = 0 ∧ ¬ Clo n s) ∧ f_X7_isClosed N M = some (x, M) := by
  unfold f_X7_isClosed
  rw [h8]
  by_cases c : n = 0
  · refine ⟨0, Or.inr ⟨rfl, fun h => by unfold Clo at h; omega⟩, ?_⟩
    rw [if_pos (by rw [I_0, I_le] <;> omega)]
  · rw [if_neg (by rw [I_0, I_le] <;> omega), show f_X7_isSame N M 0 (I n) = _ from same_s (a := 0) (by decide) hn h0 h1 (by unfold PB; decide) hb hN]
    simp only [bd2, ck]
    rw [h8, I_5, I_4, I_mul, I_add, if_pos (show inb (I ((5 : Int) * n + 4)) 125 by rw [I_inb] <;> omega), I_ix (by omega) (by omega), show ((5 : Int) * n + 4).toNat = 5 * n + 4 by omega, h2]
    by_cases c2 : s.1 = (0, 0, 0, 0)
    · rw [if_pos c2.symm, if_neg (show ¬ (1 : Int32) = 0 by decide)]
      by_cases c3 : s.2 = 0
      · exact ⟨1, Or.inl ⟨rfl, by omega, c2, c3⟩, by rw [if_pos (by rw [c3]; rfl)]⟩
      · exact ⟨0, Or.inr ⟨rfl, fun h => c3 h.2.2⟩, by rw [if_neg (by rw [I_0, I_eq] <;> omega)]⟩
    · rw [if_neg (Ne.symm c2), if_pos rfl]
      exact ⟨0, Or.inr ⟨rfl, fun h => c2 h.2.1⟩, rfl⟩
theorem op_closes (N : Nat) (hN : 2000 < N) : Op (fun M => f_X6_closes N M) (fun M => f_X7_closes N M) := by
  intro M hR
  obtain ⟨n, w, M1, hn, h3, h55, hw, q1, q2, q3, q4, q5, q6, q7, q8⟩ := both (N := N) hR hN
  obtain ⟨M2, g1, g2, g3, g4, g5, g6⟩ := q8 M1 q3 KpR.rf
  obtain ⟨x, x1, x2⟩ := xclosed (N := N) hn q2 (q4 n (Nat.le_refl n)).1 (q4 n (Nat.le_refl n)).2 (q6 n (Nat.le_refl n)) (wf_d _ _ _)
  obtain ⟨y, y1, y2⟩ := mclosed (N := N) hn g2 (g4 0 (by omega)).1 (g4 n (Nat.le_refl n)).1 (g4 n (Nat.le_refl n)).2 (q6 n (Nat.le_refl n)) (wf_d _ _ _) hN
  have e : y = x := by
    rcases x1 with ⟨rfl, h⟩ | ⟨rfl, h⟩ <;> rcases y1 with ⟨rfl, h'⟩ | ⟨rfl, h'⟩
    · rfl
    · exact absurd h h'
    · exact absurd h' h
    · rfl
  subst e
  refine ⟨y, M1, M2, ?_, ?_, g3⟩
  · simp only [f_X6_closes]
    rw [h3, q1]
    simp only [bd, bd2, x2, f_X6_yes]
    rcases x1 with ⟨rfl, -⟩ | ⟨rfl, -⟩ <;> rfl
  · simp only [f_X7_closes]
    rw [g1]
    simp only [bd, bd2, y2]
    rcases x1 with ⟨rfl, -⟩ | ⟨rfl, -⟩ <;> rfl
