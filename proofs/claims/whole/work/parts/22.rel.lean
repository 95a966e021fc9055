/-! Part 22: letters, steps, walks; the relation between the class's cells and the reference's -/
def kd (l : Nat) : Nat := [0, 1, 2, 3, 4, 3, 4, 5, 5, 6].getD l 0
def tn (l : Nat) : Int := [0, 0, 0, 1, 1, -1, -1, 2, -2, 0].getD l 0
def mr (l : Nat) : Nat := [0, 1, 2, 5, 6, 3, 4, 8, 7, 9].getD l 0
/-- the direction behind a letter -/
def dn (d l : Nat) : Nat := (d + [0, 0, 0, 1, 1, 7, 7, 2, 6, 0].getD l 0) % 8
abbrev Pl : Type := Int × Int × Int × Int
def padd (p q : Pl) : Pl := (p.1 + q.1, p.2.1 + q.2.1, p.2.2.1 + q.2.2.1, p.2.2.2 + q.2.2.2)
def pneg (p : Pl) : Pl := (-p.1, -p.2.1, -p.2.2.1, -p.2.2.2)
def psc (n : Int) (p : Pl) : Pl := (n * p.1, n * p.2.1, n * p.2.2.1, n * p.2.2.2)
def pkp (p : Pl) : Int := pk p.1 p.2.1 p.2.2.1 p.2.2.2
/-- a letter's step from a direction, in units of its size: letters by directions -/
def cofL : List (List Pl) := [[(2, 0, 0, 0), (0, 1, 0, 1), (0, 0, 2, 0), (0, -1, 0, 1), (-2, 0, 0, 0), (0, -1, 0, -1), (0, 0, -2, 0), (0, 1, 0, -1)], [(2, 0, 0, 0), (0, 1, 0, 1), (0, 0, 2, 0), (0, -1, 0, 1), (-2, 0, 0, 0), (0, -1, 0, -1), (0, 0, -2, 0), (0, 1, 0, -1)], [(2, 0, 0, 0), (0, 1, 0, 1), (0, 0, 2, 0), (0, -1, 0, 1), (-2, 0, 0, 0), (0, -1, 0, -1), (0, 0, -2, 0), (0, 1, 0, -1)], [(0, 1, 2, -1), (2, -1, 0, 1), (-2, 1, 0, 1), (0, -1, 2, -1), (0, -1, -2, 1), (-2, 1, 0, -1), (2, -1, 0, -1), (0, 1, -2, 1)], [(0, 1, 2, -1), (2, -1, 0, 1), (-2, 1, 0, 1), (0, -1, 2, -1), (0, -1, -2, 1), (-2, 1, 0, -1), (2, -1, 0, -1), (0, 1, -2, 1)], [(0, 1, -2, 1), (0, 1, 2, -1), (2, -1, 0, 1), (-2, 1, 0, 1), (0, -1, 2, -1), (0, -1, -2, 1), (-2, 1, 0, -1), (2, -1, 0, -1)], [(0, 1, -2, 1), (0, 1, 2, -1), (2, -1, 0, 1), (-2, 1, 0, 1), (0, -1, 2, -1), (0, -1, -2, 1), (-2, 1, 0, -1), (2, -1, 0, -1)], [(2, 0, 2, 0), (0, 0, 0, 2), (-2, 0, 2, 0), (0, -2, 0, 0), (-2, 0, -2, 0), (0, 0, 0, -2), (2, 0, -2, 0), (0, 2, 0, 0)], [(2, 0, -2, 0), (0, 2, 0, 0), (2, 0, 2, 0), (0, 0, 0, 2), (-2, 0, 2, 0), (0, -2, 0, 0), (-2, 0, -2, 0), (0, 0, 0, -2)], [(2, 0, 0, 0), (0, 1, 0, 1), (0, 0, 2, 0), (0, -1, 0, 1), (-2, 0, 0, 0), (0, -1, 0, -1), (0, 0, -2, 0), (0, 1, 0, -1)]]
def cof (l d : Nat) : Pl := (cofL.getD l []).getD d (0, 0, 0, 0)
def stp (sz : Nat → Int) (l d : Nat) : Pl := psc (sz (kd l)) (cof l d)
/-- the walk of a row: place and direction behind it -/
def wk (sz : Nat → Int) (s : Pl × Nat) (w : List Nat) : Pl × Nat := w.foldl (fun s l => (padd s.1 (stp sz l s.2), dn s.2 l)) s
def w0 : Pl × Nat := ((0, 0, 0, 0), 0)
/-- a tail of three letters, as a number; and told backwards and mirrored -/
def tl3 (t : Nat) : List Nat := [t / 100, t / 10 % 10, t % 10]
def tlb (t : Nat) : List Nat := [mr (t % 10), mr (t / 10 % 10), mr (t / 100)]
/-- the end that a head must have before tail t -/
def fend (sz : Nat → Int) (t : Nat) : Int64 := J (-(pkp (wk sz w0 (tlb t)).1) * 8 + (wk sz w0 (tlb t)).2)
def slotv (x : Int64) : Int32 := Int64.toInt32 (ushr64 (x * 2654435761) 40) &&& 1023
/-- the least number from 'fr' on, below 1000, with p; or -1 -/
def nxt (p : Nat → Bool) (fr : Nat) : Int := match (List.range' fr (1000 - fr)).find? p with
  | some t => t
  | none => -1
def szf (M : Mem) (k : Nat) : Int := (M.1 3 k).toInt
def Bd (x : Int32) (a b : Int) : Prop := a ≤ x.toInt ∧ x.toInt ≤ b
/-- a layout: the class's cells behind o, the reference's q -/
def Lay (M : Mem) (o q : Nat) : Prop :=
  (∀ k, k < 7 → M.1 q k = M.1 (o + 1) k ∧ Bd (M.1 (o + 1) k) 0 9) ∧
  (∀ k, k < 7 → M.1 q (7 + k) = M.1 (o + 2) k ∧ Bd (M.1 (o + 2) k) 1 20) ∧
  (∀ k, k < 4 → M.1 q (14 + k) = M.1 (o + 4) k ∧ Bd (M.1 (o + 4) k) (-400) 400) ∧
  (∀ k, k < 6 → M.1 q (18 + 2 * k) = M.1 (o + 5) k ∧ M.1 q (19 + 2 * k) = M.1 (o + 6) k ∧ Bd (M.1 (o + 5) k) (-400) 400 ∧ Bd (M.1 (o + 6) k) (-400) 400) ∧
  (M.1 q 30 = M.1 o 7 ∧ Bd (M.1 o 7) 0 6) ∧
  (M.1 q 55 = M.1 o 3 ∧ Bd (M.1 o 3) 0 24) ∧
  (∀ k : Nat, k < 24 → (k : Int) < (M.1 o 3).toInt → M.1 q (31 + k) = M.1 (o + 3) k ∧ Bd (M.1 (o + 3) k) 0 9)
def Sta (M : Mem) : Prop := ∀ k j, k < 6 → j < sln k → M.1 (45 + k) j = sdt k j
def Tak (M : Mem) : Prop := M.1 34 3 = M.1 0 2 ∧ (M.1 0 2 = 0 ∨ M.1 0 2 = 1) ∧ (M.1 0 2 = 1 → Lay M 8 37)
def Tap (M : Mem) : Prop := M.1 34 5 = M.1 0 8 ∧ Bd (M.1 0 8) 0 24 ∧ ∀ k : Nat, k < 24 → (k : Int) < (M.1 0 8).toInt → M.1 38 k = M.1 31 k
def Tur (M : Mem) : Prop := M.1 34 21 = M.1 0 10 ∧ Bd (M.1 0 10) 0 6 ∧ ∀ k : Nat, k < 6 → (k : Int) < (M.1 0 10).toInt → M.1 42 k = M.1 32 k ∧ Bd (M.1 32 k) (-2) 2
def Ref (M : Mem) : Prop := ∀ k, k < 7 → M.1 35 k = M.1 33 k
def Sps (M : Mem) : Prop := ∀ d l, d < 8 → l < 10 → M.2 16 (10 * d + l) = J (pkp (stp (szf M) l d))
def Tls (M : Mem) : Prop := (∀ t, t < 1000 → M.2 22 t = fend (szf M) t ∧ M.1 23 t = I (nxt (fun u => slotv (fend (szf M) u) = slotv (fend (szf M) t)) (t + 1))) ∧ ∀ j, j < 1024 → M.1 24 j = I (nxt (fun u => slotv (fend (szf M) u) = I j) 0)
def Gat (M : Mem) : Prop := M.1 21 6 = 0 ∨ (M.1 21 6 = 1 ∧ Tls M)
/-- what is 0 and stays so: the first joints, 'isFound' at rest -/
def Zer (M : Mem) : Prop := M.2 18 0 = 0 ∧ M.1 19 0 = 0 ∧ (∀ k, k < 5 → M.1 39 k = 0) ∧ M.1 34 23 = 0
def RelI (M : Mem) : Prop := Sta M ∧ Lay M 1 36 ∧ Tak M ∧ Tap M ∧ Tur M ∧ Ref M ∧ Sps M ∧ Gat M ∧ Zer M
/-- two calls, the class's and the reference's: one answer, and the relation again -/
def Op (F G : Mem → Option (Int32 × Mem)) : Prop := ∀ M, RelI M → ∃ r M1 M2, F M = some (r, M1) ∧ G M1 = some (r, M2) ∧ RelI M2
/-- the places that the relation speaks of -/
def relv (k j : Nat) : Bool := match k with
  | 0 => j == 2 || j == 8 || j == 10
  | 1 => j == 3 || j == 7
  | 8 => j == 3 || j == 7
  | 17 => false
  | 18 => j == 0
  | 19 => j == 0
  | 20 => false
  | 21 => j == 6
  | 25 => false
  | 26 => false
  | 27 => false
  | 28 => false
  | 29 => false
  | 30 => false
  | 34 => j == 3 || j == 5 || j == 21 || j == 23
  | 39 => Nat.blt j 5
  | 40 => false
  | 41 => false
  | 43 => false
  | 44 => false
  | _ => true
/-- nothing that the relation speaks of differs -/
def Kp (M M' : Mem) : Prop := (∀ k j, relv k j = true → M'.1 k j = M.1 k j) ∧ ∀ k j, relv k j = true → M'.2 k j = M.2 k j
theorem Kp.rf {M : Mem} : Kp M M := ⟨fun _ _ _ => rfl, fun _ _ _ => rfl⟩
theorem Kp.tr {M M' M'' : Mem} (h : Kp M M') (h' : Kp M' M'') : Kp M M'' := ⟨fun k j hj => (h'.1 k j hj).trans (h.1 k j hj), fun k j hj => (h'.2 k j hj).trans (h.2 k j hj)⟩
theorem Kp.I {M : Mem} {k i : Nat} {v : Int32} (h : relv k i = false) : Kp M (seI M k i v) := by
  refine ⟨fun a b hb => ?_, fun _ _ _ => rfl⟩
  rw [seI_1, if_neg]
  rintro ⟨rfl, rfl⟩
  rw [h] at hb
  cases hb
theorem Kp.L {M : Mem} {k i : Nat} {v : Int64} (h : relv k i = false) : Kp M (seL M k i v) := by
  refine ⟨fun _ _ _ => rfl, fun a b hb => ?_⟩
  rw [seL_2, if_neg]
  rintro ⟨rfl, rfl⟩
  rw [h] at hb
  cases hb
theorem Lay.kp {M M' : Mem} {o q : Nat} (h : Lay M o q) (hq : ∀ j, M'.1 q j = M.1 q j) (h1 : ∀ j, M'.1 (o + 1) j = M.1 (o + 1) j) (h2 : ∀ j, M'.1 (o + 2) j = M.1 (o + 2) j) (h3 : ∀ j, M'.1 (o + 3) j = M.1 (o + 3) j) (h4 : ∀ j, M'.1 (o + 4) j = M.1 (o + 4) j) (h5 : ∀ j, M'.1 (o + 5) j = M.1 (o + 5) j) (h6 : ∀ j, M'.1 (o + 6) j = M.1 (o + 6) j) (ho3 : M'.1 o 3 = M.1 o 3) (ho7 : M'.1 o 7 = M.1 o 7) : Lay M' o q := by
  unfold Lay at h ⊢
  simp only [hq, h1, h2, h3, h4, h5, h6, ho3, ho7]
  exact h
theorem RelI.kp {M M' : Mem} (h : RelI M) (hk : Kp M M') : RelI M' := by
  obtain ⟨h1, h2, h3, h4, h5, h6, h7, h8, h9⟩ := h
  obtain ⟨k1, k2⟩ := hk
  have hsz : szf M' = szf M := by funext k; unfold szf; rw [k1 3 k rfl]
  refine ⟨?_, ?_, ?_, ?_, ?_, ?_, ?_, ?_, ?_⟩
  · intro k j hk hj
    rw [k1 (45 + k) j (by rcases (show k = 0 ∨ k = 1 ∨ k = 2 ∨ k = 3 ∨ k = 4 ∨ k = 5 by omega) with rfl | rfl | rfl | rfl | rfl | rfl <;> rfl)]
    exact h1 k j hk hj
  · exact h2.kp (fun j => k1 36 j rfl) (fun j => k1 2 j rfl) (fun j => k1 3 j rfl) (fun j => k1 4 j rfl) (fun j => k1 5 j rfl) (fun j => k1 6 j rfl) (fun j => k1 7 j rfl) (k1 1 3 rfl) (k1 1 7 rfl)
  · unfold Tak at h3 ⊢
    rw [k1 34 3 rfl, k1 0 2 rfl]
    exact ⟨h3.1, h3.2.1, fun e => (h3.2.2 e).kp (fun j => k1 37 j rfl) (fun j => k1 9 j rfl) (fun j => k1 10 j rfl) (fun j => k1 11 j rfl) (fun j => k1 12 j rfl) (fun j => k1 13 j rfl) (fun j => k1 14 j rfl) (k1 8 3 rfl) (k1 8 7 rfl)⟩
  · unfold Tap at h4 ⊢
    rw [k1 34 5 rfl, k1 0 8 rfl]
    refine ⟨h4.1, h4.2.1, fun k hk hk2 => ?_⟩
    rw [k1 38 k rfl, k1 31 k rfl]
    exact h4.2.2 k hk hk2
  · unfold Tur at h5 ⊢
    rw [k1 34 21 rfl, k1 0 10 rfl]
    refine ⟨h5.1, h5.2.1, fun k hk hk2 => ?_⟩
    rw [k1 42 k rfl, k1 32 k rfl]
    exact h5.2.2 k hk hk2
  · intro k hk
    rw [k1 35 k rfl, k1 33 k rfl]
    exact h6 k hk
  · intro d l hd hl
    rw [k2 16 _ rfl, hsz]
    exact h7 d l hd hl
  · unfold Gat Tls at h8 ⊢
    rw [k1 21 6 rfl, hsz]
    refine h8.imp id (fun ⟨e, a, b⟩ => ⟨e, fun t ht => ?_, fun j hj => ?_⟩)
    · rw [k2 22 t rfl, k1 23 t rfl]
      exact a t ht
    · rw [k1 24 j rfl]
      exact b j hj
  · unfold Zer at h9 ⊢
    rw [k2 18 0 rfl, k1 19 0 rfl, k1 34 23 rfl]
    refine ⟨h9.1, h9.2.1, fun k hk => ?_, h9.2.2.2⟩
    rw [k1 39 k (by rcases (show k = 0 ∨ k = 1 ∨ k = 2 ∨ k = 3 ∨ k = 4 by omega) with rfl | rfl | rfl | rfl | rfl <;> rfl)]
    exact h9.2.2.1 k hk
