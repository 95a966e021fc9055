/-! Part 64: the first of its alike ones, on both sides -/
def lexb (f g : Nat → Nat) : Nat → Nat → Bool
  | 0, _ => false
  | r + 1, i => if f i = g i then lexb f g r (i + 1) else decide (f i < g i)
def vm (b : Bool) (x : Nat) : Nat := if b = true then mr x else x
def po (n fr : Nat) (back : Bool) (i : Nat) : Nat := if back = true then (fr + n - i) % n else (fr + i) % n
def bfr (n : Nat) (w : Nat → Nat) (fr : Nat) (back mir : Bool) : Bool := lexb (fun i => vm mir (w (po n fr back i))) w n 0
def gd (n : Nat) (w : Nat → Nat) (fr : Nat) : Bool := !(bfr n w fr false false) && !(bfr n w fr false true) && !(bfr n w fr true false) && !(bfr n w fr true true)
def frsT (n : Nat) (w : Nat → Nat) : Nat → Nat → Bool
  | 0, _ => true
  | r + 1, fr => gd n w fr && frsT n w r (fr + 1)
def frs (n : Nat) (w : Nat → Nat) : Bool := frsT n w n 0
theorem md2 {x n : Nat} (h : x < 2 * n) : x % n = if x < n then x else x - n := by
  by_cases c : x < n
  · rw [if_pos c, Nat.mod_eq_of_lt c]
  · rw [if_neg c, Nat.mod_eq_sub_mod (by omega), Nat.mod_eq_of_lt (by omega)]
theorem vm_lt {b : Bool} {x : Nat} (h : x < 10) : vm b x < 10 := by
  unfold vm
  split
  · exact mr_lt x h
  · exact h
/-- the class's comparison -/
theorem isBef {N n : Nat} {M : Mem} {w : Nat → Nat} (hS : Sta M) (hn : n ≤ 6) (hw : Rw M 25 n w) {u : Int} (hu : u = 1 ∨ u = -1) (mir : Bool) {pos : Nat → Nat} (hp : ∀ i, i < n → pos i < n) (hs : ∀ i, i + 1 < n → (pos (i + 1) : Int) = if 0 ≤ pos i + u then (if pos i + u < n then pos i + u else 0) else n - 1) :
    ∀ (r i n' : Nat) (p : Int32), i + r = n → r < n' → (i < n → p = I (pos i)) → l_X3_isBefore_6 N n' M (I n) (I u) (if mir = true then 1 else 0) p (I i) = some (if lexb (fun i => vm mir (w (pos i))) w r i = true then 1 else 0, M) := by
  intro r
  induction r with
  | zero =>
    intro i n' p h1 h2 h3
    obtain ⟨n', rfl⟩ : ∃ q, n' = q + 1 := ⟨n' - 1, by omega⟩
    rw [l_X3_isBefore_6, if_pos (by rw [I_le] <;> omega)]
    rfl
  | succ r ih =>
    intro i n' p h1 h2 h3
    obtain ⟨n', rfl⟩ : ∃ q, n' = q + 1 := ⟨n' - 1, by omega⟩
    obtain rfl := h3 (by omega)
    have hpi := hp i (by omega)
    obtain ⟨a1, a2⟩ := hw (pos i) hpi
    obtain ⟨b1, b2⟩ := hw i (by omega)
    have m2 := mr_lt _ a2
    have at1 : f_X6_at shp N M 25 (I (pos i)) = some (I (w (pos i)), M) := by rw [at_in (n := 6) rfl (by decide) (by omega) (by omega), Int.toNat_natCast, a1]
    have at2 : f_X6_at shp N M 25 (I i) = some (I (w i), M) := by rw [at_in (n := 6) rfl (by decide) (by omega) (by omega), Int.toNat_natCast, b1]
    have at3 : f_X6_at shp N M 48 (I (w (pos i))) = some (I (mr (w (pos i))), M) := by rw [at_in (n := 10) rfl (by decide) (by omega) (by omega), Int.toNat_natCast, sta_mr hS a2]
    have el : I i + 1 = I (i + 1 : Nat) := by rw [I_1, I_add]; rfl
    rw [l_X3_isBefore_6, if_neg (by rw [I_le] <;> omega)]
    simp only [bd2, at1, at2, at3, nm, el, I_add, I_sub]
    -- what follows for a letter x
    have fin : ∀ x : Nat, x < 10 → vm mir (w (pos i)) = x → (if I ((x : Int) - w i) = 0 then (if 0 ≤ I ((pos i : Int) + u) then (if I ((pos i : Int) + u) < I n then l_X3_isBefore_6 N n' M (I n) (I u) (if mir = true then 1 else 0) (I ((pos i : Int) + u)) (I (i + 1 : Nat)) else l_X3_isBefore_6 N n' M (I n) (I u) (if mir = true then 1 else 0) 0 (I (i + 1 : Nat))) else l_X3_isBefore_6 N n' M (I n) (I u) (if mir = true then 1 else 0) (I n - 1) (I (i + 1 : Nat))) else (if 0 ≤ I ((x : Int) - w i) then some (0, M) else some (1, M))) = some (if lexb (fun i => vm mir (w (pos i))) w (r + 1) i = true then 1 else 0, M) := by
      intro x hx hvx
      have hl : lexb (fun i => vm mir (w (pos i))) w (r + 1) i = if x = w i then lexb (fun i => vm mir (w (pos i))) w r (i + 1) else decide (x < w i) := by
        rw [← hvx]
        rfl
      rw [hl]
      by_cases c : x = w i
      · rw [if_pos (by rw [c, Int.sub_self]; rfl), if_pos c]
        by_cases c1 : 0 ≤ (pos i : Int) + u
        · rw [if_pos (by rw [I_0, I_le] <;> omega)]
          by_cases c2 : (pos i : Int) + u < n
          · rw [if_pos (by rw [I_lt] <;> omega)]
            refine ih (i + 1) n' _ (by omega) (by omega) (fun hi => ?_)
            rw [hs i hi, if_pos c1, if_pos c2]
          · rw [if_neg (by rw [I_lt] <;> omega)]
            refine ih (i + 1) n' _ (by omega) (by omega) (fun hi => ?_)
            rw [hs i hi, if_pos c1, if_neg c2]
            rfl
        · rw [if_neg (by rw [I_0, I_le] <;> omega), I_1, I_sub]
          refine ih (i + 1) n' _ (by omega) (by omega) (fun hi => ?_)
          rw [hs i hi, if_neg c1]
      · rw [if_neg (by rw [I_0, I_eq] <;> omega), if_neg c]
        by_cases c1 : x < w i
        · rw [if_neg (by rw [I_0, I_le] <;> omega), if_pos (by simpa using c1)]
        · rw [if_pos (by rw [I_0, I_le] <;> omega), if_neg (by simpa using c1)]
    cases mir with
    | false =>
      have := fin (w (pos i)) a2 rfl
      simpa using this
    | true =>
      have := fin (mr (w (pos i))) m2 rfl
      simpa using this
theorem po_lt {n fr i : Nat} {back : Bool} (h : i < n) : po n fr back i < n := by
  unfold po
  split <;> exact Nat.mod_lt _ (by omega)
theorem po_0 {n fr : Nat} {back : Bool} (h : fr < n) : po n fr back 0 = fr := by
  unfold po
  split
  · rw [Nat.sub_zero, Nat.add_mod_right, Nat.mod_eq_of_lt h]
  · rw [Nat.add_zero, Nat.mod_eq_of_lt h]
theorem xbfr {N n fr : Nat} {M : Mem} {w : Nat → Nat} (hS : Sta M) (hn : n ≤ 6) (hw : Rw M 25 n w) (hf : fr < n) (hN : 2000 < N) (back mir : Bool) : f_X3_isBefore N M (I n) (I fr) (I (if back = true then -1 else 1)) (if mir = true then 1 else 0) = some (if bfr n w fr back mir = true then 1 else 0, M) := by
  unfold f_X3_isBefore bfr
  refine isBef hS hn hw (u := if back = true then -1 else 1) (by cases back <;> simp) mir (pos := po n fr back) (fun i hi => po_lt hi) (fun i hi => ?_) n 0 N _ (by omega) (by omega) (fun _ => by rw [po_0 hf])
  unfold po
  cases back with
  | false =>
    simp only [Bool.false_eq_true, if_false]
    rw [md2 (x := fr + (i + 1)) (by omega), md2 (x := fr + i) (by omega)]
    by_cases c : fr + i < n
    · rw [if_pos c]
      by_cases c2 : fr + (i + 1) < n
      · rw [if_pos c2, if_pos (by omega), if_pos (by omega)]
        omega
      · rw [if_neg c2, if_pos (by omega), if_neg (by omega)]
        omega
    · rw [if_neg c, if_neg (by omega), if_pos (by omega), if_pos (by omega)]
      omega
  | true =>
    simp only [if_true]
    rw [md2 (x := fr + n - (i + 1)) (by omega), md2 (x := fr + n - i) (by omega)]
    by_cases c : fr + n - i < n
    · rw [if_pos c, if_pos (by omega), if_pos (by omega), if_pos (by omega)]
      omega
    · rw [if_neg c]
      by_cases c2 : fr + n - (i + 1) < n
      · rw [if_pos c2, if_neg (by omega)]
        omega
      · rw [if_neg c2, if_pos (by omega), if_pos (by omega)]
        omega
theorem xfirst {N n : Nat} {M : Mem} {w : Nat → Nat} (hS : Sta M) (hn : n ≤ 6) (hw : Rw M 25 n w) (hN : 2000 < N) : f_X3_standsForAll N M (I n) = some (if frs n w = true then 1 else 0, M) := by
  have key : ∀ (r fr n' : Nat), fr + r = n → r < n' → l_X3_standsForAll_2 N n' M (I n) (I fr) = some (if frsT n w r fr = true then 1 else 0, M) := by
    intro r
    induction r with
    | zero =>
      intro fr n' h1 h2
      obtain ⟨n', rfl⟩ : ∃ q, n' = q + 1 := ⟨n' - 1, by omega⟩
      rw [l_X3_standsForAll_2, if_pos (by rw [I_le] <;> omega)]
      rfl
    | succ r ih =>
      intro fr n' h1 h2
      obtain ⟨n', rfl⟩ : ∃ q, n' = q + 1 := ⟨n' - 1, by omega⟩
      have x1 : f_X3_isBefore N M (I n) (I fr) 1 0 = _ := xbfr hS hn hw (fr := fr) (by omega) hN false false
      have x2 : f_X3_isBefore N M (I n) (I fr) 1 1 = _ := xbfr hS hn hw (fr := fr) (by omega) hN false true
      have x3 : f_X3_isBefore N M (I n) (I fr) (-1) 0 = _ := xbfr hS hn hw (fr := fr) (by omega) hN true false
      have x4 : f_X3_isBefore N M (I n) (I fr) (-1) 1 = _ := xbfr hS hn hw (fr := fr) (by omega) hN true true
      rw [l_X3_standsForAll_2, if_neg (by rw [I_le] <;> omega)]
      simp only [bd2, x1, x2, x3, x4]
      have e : frsT n w (r + 1) fr = (!(bfr n w fr false false) && !(bfr n w fr false true) && !(bfr n w fr true false) && !(bfr n w fr true true) && frsT n w r (fr + 1)) := rfl
      rw [e]
      have nx := ih (fr + 1) n' (by omega) (by omega)
      have el : I fr + 1 = I (fr + 1 : Nat) := by rw [I_1, I_add]; rfl
      rw [el, nx]
      cases bfr n w fr false false <;> cases bfr n w fr false true <;> cases bfr n w fr true false <;> cases bfr n w fr true true <;> simp
  exact key n 0 N (by omega) (by omega)
theorem imod {a n : Nat} (ha : a < 1000) (hn : 0 < n) (hn2 : n < 1000) : I a - I a / I n * I n = I (a % n : Nat) := by
  have e : I a / I n = I (a / n : Nat) := by
    have h3 : (I a / I n).toInt = ((a / n : Nat) : Int) := by
      rw [Int32.toInt_div_of_ne_right _ _ (by rw [show (-1 : Int32) = I (-1) from rfl, Ne, I_eq] <;> omega), I_to (by omega) (by omega), I_to (by omega) (by omega)]
      exact (Int.ofNat_tdiv a n).symm
    have h1 : a / n ≤ a := Nat.div_le_self a n
    generalize a / n = d at *
    rw [← Int32.toInt_inj, h3, I_to (by omega) (by omega)]
  rw [e, I_mul, I_sub]
  congr 1
  have := Nat.div_add_mod a n
  have h2 : ((a : Nat) : Int) = n * (a / n : Nat) + (a % n : Nat) := by
    rw [← Int.natCast_mul, ← Int.natCast_add, this]
  rw [Int.mul_comm ((a / n : Nat) : Int) (n : Int)]
  generalize (n : Int) * ((a / n : Nat) : Int) = u at *
  omega
/-- the reference's comparison, of one way -/
theorem misF {N n fr way : Nat} {M : Mem} {w : Nat → Nat} {K2 : Mem → Int32 → Int32 → Option (Int32 × Mem)} {K9 : Mem → Int32 → Int32 → Int32 → Option (Int32 × Mem)} (hn : n ≤ 6) (hw : ∀ j, j < n → M.1 40 j = I (w j) ∧ w j < 10) (hf : fr < n) (hway : way < 4) (hN : 2000 < N) :
    ∀ (r i n' : Nat), i + r = n → r + 1 < n' → l_X7_isFirst_20 N K2 K9 n' M (I n) (I fr) (I way) 0 (I i) = if lexb (fun i => vm (decide (way = 1 ∨ way = 2)) (w (po n fr (decide (2 ≤ way)) i))) w r i = true then some (0, M) else K9 M (I n) (I fr) (I (way + 1 : Nat)) := by
  intro r
  induction r with
  | zero =>
    intro i n' h1 h2
    obtain ⟨n', rfl⟩ : ∃ q, n' = q + 1 := ⟨n' - 1, by omega⟩
    rw [l_X7_isFirst_20, if_pos (by rw [I_le] <;> omega), if_pos (by decide), I_1, I_add]
    rfl
  | succ r ih =>
    intro i n' h1 h2
    obtain ⟨n', rfl⟩ : ∃ q, n' = q + 1 + 1 := ⟨n' - 2, by omega⟩
    have hpi : po n fr (decide (2 ≤ way)) i < n := po_lt (by omega)
    obtain ⟨a1, a2⟩ := hw _ hpi
    obtain ⟨b1, b2⟩ := hw i (by omega)
    have m2 := mr_lt _ a2
    have el : I i + 1 = I (i + 1 : Nat) := by rw [I_1, I_add]; rfl
    have ii : inb (I i) 24 := by rw [I_inb] <;> omega
    have xi : ix (I i) = i := by rw [I_ix (by omega) (by omega)]; omega
    have ew1 : (I way = 1) = (way = 1) := by rw [I_1, I_eq (by omega) (by omega) (by omega) (by omega)]; apply propext; omega
    have ew2 : (I way = 2) = (way = 2) := by rw [I_2, I_eq (by omega) (by omega) (by omega) (by omega)]; apply propext; omega
    have ew3 : ((2 : Int32) ≤ I way) = (2 ≤ way) := by rw [I_2, I_le (by omega) (by omega) (by omega) (by omega)]; apply propext; omega
    have hn0 : ¬ I n = 0 := by rw [I_0, I_eq] <;> omega
    have pos1 : (I fr + I i) - (I fr + I i) / I n * I n = I ((fr + i) % n : Nat) := by
      rw [I_add, show (fr : Int) + i = ((fr + i : Nat) : Int) by omega, imod (by omega) (by omega) (by omega)]
    have pos2 : (I fr + I n - I i) - (I fr + I n - I i) / I n * I n = I ((fr + n - i) % n : Nat) := by
      rw [I_add, I_sub, show (fr : Int) + n - i = ((fr + n - i : Nat) : Int) by omega, imod (by omega) (by omega) (by omega)]
    have fin : ∀ x : Nat, x < 10 → vm (decide (way = 1 ∨ way = 2)) (w (po n fr (decide (2 ≤ way)) i)) = x → l_X7_isFirst_20 N K2 K9 (n' + 1) M (I n) (I fr) (I way) (I ((x : Int) - w i)) (I (i + 1 : Nat)) = if lexb (fun i => vm (decide (way = 1 ∨ way = 2)) (w (po n fr (decide (2 ≤ way)) i))) w (r + 1) i = true then some (0, M) else K9 M (I n) (I fr) (I (way + 1 : Nat)) := by
      intro x hx hvx
      have hl : lexb (fun i => vm (decide (way = 1 ∨ way = 2)) (w (po n fr (decide (2 ≤ way)) i))) w (r + 1) i = if x = w i then lexb (fun i => vm (decide (way = 1 ∨ way = 2)) (w (po n fr (decide (2 ≤ way)) i))) w r (i + 1) else decide (x < w i) := by
        rw [← hvx]
        rfl
      rw [hl]
      by_cases c : x = w i
      · rw [if_pos c, c, Int.sub_self]
        exact ih (i + 1) (n' + 1) (by omega) (by omega)
      · rw [if_neg c, l_X7_isFirst_20]
        have ez : ¬ I ((x : Int) - w i) = 0 := by rw [I_0, I_eq] <;> omega
        have eway : I way + 1 = I (way + 1 : Nat) := by rw [I_1, I_add]; rfl
        rw [if_neg ez, eway]
        have es : ∀ o : Option (Int32 × Mem), (if I n ≤ I (i + 1 : Nat) then o else o) = o := fun o => by split <;> rfl
        rw [es]
        by_cases c1 : x < w i
        · rw [if_neg (by rw [I_0, I_le] <;> omega), if_pos (by simpa using c1)]
        · rw [if_pos (by rw [I_0, I_le] <;> omega), if_neg (by simpa using c1)]
    have hix : ∀ y : Nat, y < n → inb (I y) 24 ∧ ix (I y) = y := fun y hy => ⟨by rw [I_inb] <;> omega, by rw [I_ix (by omega) (by omega)]; omega⟩
    obtain ⟨q1, q2⟩ := hix _ hpi
    rw [l_X7_isFirst_20, if_neg (by rw [I_le] <;> omega), if_pos rfl]
    simp only [ew1, ew2, ew3, pos1, pos2, ck, nm, if_pos hn0]
    have hmi := mirrored_s (N := N) (M := M) a2
    by_cases c : 2 ≤ way
    · have hd : decide (2 ≤ way) = true := by simpa using c
      have ep : po n fr (decide (2 ≤ way)) i = (fr + n - i) % n := by rw [hd]; rfl
      rw [ep] at q1 q2 a1 hmi
      rw [if_pos c]
      simp only [if_pos q1, q2, a1, hmi, bd2, if_pos ii, xi, b1, I_sub, el]
      rw [if_neg (show ¬ way = 1 by omega)]
      by_cases c2 : way = 2
      · rw [if_pos c2]
        exact fin _ (by rw [← ep]; exact m2) (by unfold vm; rw [if_pos (by simp [c2]), ep])
      · rw [if_neg c2]
        exact fin _ (by rw [← ep]; exact a2) (by unfold vm; rw [if_neg (by simp; omega), ep])
    · have hd : decide (2 ≤ way) = false := by simpa using c
      have ep : po n fr (decide (2 ≤ way)) i = (fr + i) % n := by rw [hd]; rfl
      rw [ep] at q1 q2 a1 hmi
      rw [if_neg c]
      simp only [if_pos q1, q2, a1, hmi, bd2, if_pos ii, xi, b1, I_sub, el]
      by_cases c2 : way = 1
      · rw [if_pos c2]
        exact fin _ (by rw [← ep]; exact m2) (by unfold vm; rw [if_pos (by simp [c2]), ep])
      · rw [if_neg c2, if_neg (show ¬ way = 2 by omega)]
        exact fin _ (by rw [← ep]; exact a2) (by unfold vm; rw [if_neg (by simp; omega), ep])
theorem mfirst {N n : Nat} {M : Mem} {w : Nat → Nat} (hn : n ≤ 6) (hw : ∀ j, j < n → M.1 40 j = I (w j) ∧ w j < 10) (hN : 2000 < N) : f_X7_isFirst N M (I n) = some (if frs n w = true then 1 else 0, M) := by
  obtain ⟨N', hN'⟩ : ∃ q, N = q + 1 + 1 + 1 + 1 + 1 := ⟨N - 5, by omega⟩
  have key : ∀ (r fr n' : Nat), fr + r = n → r < n' → l_X7_isFirst_2 N n' M (I n) (I fr) = some (if frsT n w r fr = true then 1 else 0, M) := by
    intro r
    induction r with
    | zero =>
      intro fr n' h1 h2
      obtain ⟨n', rfl⟩ : ∃ q, n' = q + 1 := ⟨n' - 1, by omega⟩
      rw [l_X7_isFirst_2, if_pos (by rw [I_le] <;> omega)]
      rfl
    | succ r ih =>
      intro fr n' h1 h2
      obtain ⟨n', rfl⟩ : ∃ q, n' = q + 1 := ⟨n' - 1, by omega⟩
      have e : frsT n w (r + 1) fr = (!(bfr n w fr false false) && !(bfr n w fr false true) && !(bfr n w fr true false) && !(bfr n w fr true true) && frsT n w r (fr + 1)) := rfl
      have nx := ih (fr + 1) n' (by omega) (by omega)
      have st : ∀ (way g : Nat), way < 4 → l_X7_isFirst_9 N (l_X7_isFirst_2 N n') (g + 1) M (I n) (I fr) (I way) = if bfr n w fr (decide (2 ≤ way)) (decide (way = 1 ∨ way = 2)) = true then some (0, M) else l_X7_isFirst_9 N (l_X7_isFirst_2 N n') g M (I n) (I fr) (I (way + 1 : Nat)) := by
        intro way g hway
        rw [l_X7_isFirst_9, if_neg (by rw [I_4, I_le] <;> omega)]
        exact misF (K2 := l_X7_isFirst_2 N n') (K9 := l_X7_isFirst_9 N (l_X7_isFirst_2 N n') g) hn hw (by omega) hway hN n 0 N (by omega) (by omega)
      rw [l_X7_isFirst_2, if_neg (by rw [I_le] <;> omega)]
      show l_X7_isFirst_9 N (l_X7_isFirst_2 N n') N M (I n) (I fr) (I (0 : Nat)) = _
      have stop : ∀ g, l_X7_isFirst_9 N (l_X7_isFirst_2 N n') (g + 1) M (I n) (I fr) (I (3 + 1 : Nat)) = l_X7_isFirst_2 N n' M (I n) (I (fr + 1 : Nat)) := by
        intro g
        rw [l_X7_isFirst_9, if_pos (by decide), I_1, I_add]
        rfl
      have gen : ∀ g, N = g + 1 + 1 + 1 + 1 + 1 → l_X7_isFirst_9 N (l_X7_isFirst_2 N n') (g + 1 + 1 + 1 + 1 + 1) M (I n) (I fr) (I (0 : Nat)) = some (if frsT n w (r + 1) fr = true then 1 else 0, M) := by
        intro g _
        rw [st 0 _ (by decide), st 1 _ (by decide), st 2 _ (by decide), st 3 _ (by decide), stop, nx, e]
        rw [show decide (2 ≤ 0) = false from rfl, show decide (2 ≤ 1) = false from rfl, show decide (2 ≤ 2) = true from rfl, show decide (2 ≤ 3) = true from rfl, show decide (0 = 1 ∨ 0 = 2) = false from rfl, show decide (1 = 1 ∨ 1 = 2) = true from rfl, show decide (2 = 1 ∨ 2 = 2) = true from rfl, show decide (3 = 1 ∨ 3 = 2) = false from rfl]
        cases bfr n w fr false false <;> cases bfr n w fr false true <;> cases bfr n w fr true false <;> cases bfr n w fr true true <;> simp
      have := gen N' hN'
      rw [← hN'] at this
      exact this
  exact key n 0 N (by omega) (by omega)
theorem frsT_gd {n : Nat} {w : Nat → Nat} : ∀ (r fr : Nat), frsT n w r fr = true → ∀ i, fr ≤ i → i < fr + r → gd n w i = true
  | 0, _, _, _, h1, h2 => by omega
  | r + 1, fr, h, i, h1, h2 => by
    have e : frsT n w (r + 1) fr = (gd n w fr && frsT n w r (fr + 1)) := rfl
    rw [e, Bool.and_eq_true] at h
    by_cases c : i = fr
    · subst c; exact h.1
    · exact frsT_gd r (fr + 1) h.2 i (by omega) (by omega)
/-- a head whose letter, or its mirrored one, comes before the first isn't a first ring's -/
theorem not_frs {n : Nat} {w : Nat → Nat} {i : Nat} (hi : i < n) (h : w i < w 0 ∨ mr (w i) < w 0) : frs n w = false := by
  cases hf : frs n w with
  | false => rfl
  | true =>
    exfalso
    have g := frsT_gd n 0 hf i (by omega) (by omega)
    obtain ⟨n, rfl⟩ : ∃ q, n = q + 1 := ⟨n - 1, by omega⟩
    unfold gd at g
    simp only [Bool.and_eq_true, Bool.not_eq_true'] at g
    obtain ⟨⟨⟨g1, g2⟩, -⟩, -⟩ := g
    have p0 : po (n + 1) i false 0 = i := po_0 hi
    rcases h with h | h
    · have e : bfr (n + 1) w i false false = if w (po (n + 1) i false 0) = w 0 then lexb (fun j => vm false (w (po (n + 1) i false j))) w n 1 else decide (w (po (n + 1) i false 0) < w 0) := rfl
      rw [e, p0, if_neg (by omega)] at g1
      simp at g1
      omega
    · have e : bfr (n + 1) w i false true = if mr (w (po (n + 1) i false 0)) = w 0 then lexb (fun j => vm true (w (po (n + 1) i false j))) w n 1 else decide (mr (w (po (n + 1) i false 0)) < w 0) := rfl
      rw [e, p0, if_neg (by omega)] at g2
      simp at g2
      omega
theorem xfar {N q : Nat} {M : Mem} {w : Nat → Nat} (hS : Sta M) (hq : q ≤ 6) (hw : Rw M 25 q w) (hN : 2000 < N) : ∃ x, f_X3_isFirstSoFar N M (I q) = some (x, M) ∧ (x = 1 ∨ x = 0 ∧ ∃ i, i < q ∧ (w i < w 0 ∨ mr (w i) < w 0)) := by
  have key : ∀ (r i n' : Nat), 0 < q → i + r = q → r < n' → ∃ x, l_X3_isFirstSoFar_11 N n' M (I q) (I (w 0)) (I i) = some (x, M) ∧ (x = 1 ∨ x = 0 ∧ ∃ i, i < q ∧ (w i < w 0 ∨ mr (w i) < w 0)) := by
    intro r
    induction r with
    | zero =>
      intro i n' h0 h1 h2
      obtain ⟨n', rfl⟩ : ∃ q, n' = q + 1 := ⟨n' - 1, by omega⟩
      exact ⟨1, by rw [l_X3_isFirstSoFar_11, if_pos (by rw [I_le] <;> omega)], Or.inl rfl⟩
    | succ r ih =>
      intro i n' h0 h1 h2
      obtain ⟨n', rfl⟩ : ∃ q, n' = q + 1 := ⟨n' - 1, by omega⟩
      obtain ⟨a1, a2⟩ := hw i (by omega)
      obtain ⟨b1, b2⟩ := hw 0 h0
      have m2 := mr_lt _ a2
      have at1 : f_X6_at shp N M 25 (I i) = some (I (w i), M) := by rw [at_in (n := 6) rfl (by decide) (by omega) (by omega), Int.toNat_natCast, a1]
      have at3 : f_X6_at shp N M 48 (I (w i)) = some (I (mr (w i)), M) := by rw [at_in (n := 10) rfl (by decide) (by omega) (by omega), Int.toNat_natCast, sta_mr hS a2]
      rw [l_X3_isFirstSoFar_11, if_neg (by rw [I_le] <;> omega)]
      simp only [bd2, at1, at3]
      by_cases c : w i < w 0
      · exact ⟨0, by rw [if_pos (by rw [I_lt] <;> omega)], Or.inr ⟨rfl, i, by omega, Or.inl c⟩⟩
      · rw [if_neg (by rw [I_lt] <;> omega)]
        by_cases c2 : mr (w i) < w 0
        · exact ⟨0, by rw [if_neg (by rw [I_le] <;> omega)], Or.inr ⟨rfl, i, by omega, Or.inr c2⟩⟩
        · rw [if_pos (by rw [I_le] <;> omega), I_1, I_add]
          exact ih (i + 1) n' h0 (by omega) (by omega)
  unfold f_X3_isFirstSoFar
  have a0 : f_X6_at shp N M 25 0 = some (M.1 25 0, M) := at_in (z := 0) (n := 6) rfl (by decide) (by decide) (by decide)
  rw [a0]
  simp only [bd2]
  by_cases c : q = 0
  · subst c
    obtain ⟨n', hn'⟩ : ∃ q, N = q + 1 := ⟨N - 1, by omega⟩
    refine ⟨1, ?_, Or.inl rfl⟩
    have : ∀ n' v, l_X3_isFirstSoFar_11 N (n' + 1) M (I (0 : Nat)) v 0 = some (1, M) := fun n' v => by rw [l_X3_isFirstSoFar_11, if_pos (by decide)]
    have := this n' (M.1 25 0)
    rw [← hn'] at this
    exact this
  · rw [(hw 0 (by omega)).1]
    exact key q 0 N (by omega) (by omega) (by omega)
