/-! Part 23: the relation's parts, each with the places that it speaks of -/
def KpR (r : Nat → Nat → Bool) (M M' : Mem) : Prop := (∀ k j, r k j = true → M'.1 k j = M.1 k j) ∧ ∀ k j, r k j = true → M'.2 k j = M.2 k j
theorem KpR.rf {r : Nat → Nat → Bool} {M : Mem} : KpR r M M := ⟨fun _ _ _ => rfl, fun _ _ _ => rfl⟩
theorem KpR.tr {r : Nat → Nat → Bool} {M M' M'' : Mem} (h : KpR r M M') (h' : KpR r M' M'') : KpR r M M'' := ⟨fun k j hj => (h'.1 k j hj).trans (h.1 k j hj), fun k j hj => (h'.2 k j hj).trans (h.2 k j hj)⟩
theorem KpR.I {r : Nat → Nat → Bool} {M M' : Mem} {k i : Nat} {v : Int32} (h0 : KpR r M M') (h : r k i = false) : KpR r M (seI M' k i v) := by
  refine ⟨fun a b hb => ?_, h0.2⟩
  rw [seI_1, if_neg]
  · exact h0.1 a b hb
  · rintro ⟨rfl, rfl⟩
    rw [h] at hb
    cases hb
theorem KpR.L {r : Nat → Nat → Bool} {M M' : Mem} {k i : Nat} {v : Int64} (h0 : KpR r M M') (h : r k i = false) : KpR r M (seL M' k i v) := by
  refine ⟨h0.1, fun a b hb => ?_⟩
  rw [seL_2, if_neg]
  · exact h0.2 a b hb
  · rintro ⟨rfl, rfl⟩
    rw [h] at hb
    cases hb
theorem KpR.sub {r r' : Nat → Nat → Bool} {M M' : Mem} (h : KpR r M M') (hr : ∀ k j, r' k j = true → r k j = true) : KpR r' M M' := ⟨fun k j hj => h.1 k j (hr k j hj), fun k j hj => h.2 k j (hr k j hj)⟩
def rSta (k _ : Nat) : Bool := Nat.ble 45 k
def rLay (o q k j : Nat) : Bool := k == q || k == o + 1 || k == o + 2 || k == o + 3 || k == o + 4 || k == o + 5 || k == o + 6 || (k == o && (j == 3 || j == 7))
def rTak (k j : Nat) : Bool := (k == 34 && j == 3) || (k == 0 && j == 2) || rLay 8 37 k j
def rTap (k j : Nat) : Bool := (k == 34 && j == 5) || (k == 0 && j == 8) || k == 31 || k == 38
def rTur (k j : Nat) : Bool := (k == 34 && j == 21) || (k == 0 && j == 10) || k == 32 || k == 42
def rRef (k _ : Nat) : Bool := k == 33 || k == 35
def rSps (k _ : Nat) : Bool := k == 16 || k == 3
def rGat (k j : Nat) : Bool := (k == 21 && j == 6) || k == 22 || k == 23 || k == 24 || k == 3
def rZer (k j : Nat) : Bool := (k == 18 && j == 0) || (k == 19 && j == 0) || (k == 39 && Nat.blt j 5) || (k == 34 && j == 23)
theorem Sta.kp {M M' : Mem} (h : Sta M) (hk : KpR rSta M M') : Sta M' := fun k j h1 h2 => by
  rw [hk.1 (45 + k) j (Nat.ble_eq.mpr (by omega))]
  exact h k j h1 h2
theorem Lay.kpr {M M' : Mem} {o q : Nat} (h : Lay M o q) (hk : KpR (rLay o q) M M') : Lay M' o q :=
  h.kp (fun j => hk.1 q j (by simp [rLay])) (fun j => hk.1 _ j (by simp [rLay])) (fun j => hk.1 _ j (by simp [rLay])) (fun j => hk.1 _ j (by simp [rLay])) (fun j => hk.1 _ j (by simp [rLay])) (fun j => hk.1 _ j (by simp [rLay])) (fun j => hk.1 _ j (by simp [rLay])) (hk.1 o 3 (by simp [rLay])) (hk.1 o 7 (by simp [rLay]))
theorem Tak.kp {M M' : Mem} (h : Tak M) (hk : KpR rTak M M') : Tak M' := by
  unfold Tak at h ⊢
  rw [hk.1 34 3 rfl, hk.1 0 2 rfl]
  exact ⟨h.1, h.2.1, fun e => (h.2.2 e).kpr (hk.sub fun k j hj => by simp [rTak, hj])⟩
theorem Tap.kp {M M' : Mem} (h : Tap M) (hk : KpR rTap M M') : Tap M' := by
  unfold Tap at h ⊢
  rw [hk.1 34 5 rfl, hk.1 0 8 rfl]
  refine ⟨h.1, h.2.1, fun k h1 h2 => ?_⟩
  rw [hk.1 38 k rfl, hk.1 31 k rfl]
  exact h.2.2 k h1 h2
theorem Tur.kp {M M' : Mem} (h : Tur M) (hk : KpR rTur M M') : Tur M' := by
  unfold Tur at h ⊢
  rw [hk.1 34 21 rfl, hk.1 0 10 rfl]
  refine ⟨h.1, h.2.1, fun k h1 h2 => ?_⟩
  rw [hk.1 42 k rfl, hk.1 32 k rfl]
  exact h.2.2 k h1 h2
theorem Ref.kp {M M' : Mem} (h : Ref M) (hk : KpR rRef M M') : Ref M' := fun k h1 => by
  rw [hk.1 35 k rfl, hk.1 33 k rfl]
  exact h k h1
theorem szf.kp {M M' : Mem} (h : ∀ j, M'.1 3 j = M.1 3 j) : szf M' = szf M := by funext k; unfold szf; rw [h]
theorem Sps.kp {M M' : Mem} (h : Sps M) (hk : KpR rSps M M') : Sps M' := fun d l hd hl => by
  rw [hk.2 16 _ rfl, szf.kp (fun j => hk.1 3 j rfl)]
  exact h d l hd hl
theorem Gat.kp {M M' : Mem} (h : Gat M) (hk : KpR rGat M M') : Gat M' := by
  unfold Gat Tls at h ⊢
  rw [hk.1 21 6 rfl, szf.kp (fun j => hk.1 3 j rfl)]
  refine h.imp id (fun ⟨e, a, b⟩ => ⟨e, fun t ht => ?_, fun j hj => ?_⟩)
  · rw [hk.2 22 t rfl, hk.1 23 t rfl]
    exact a t ht
  · rw [hk.1 24 j rfl]
    exact b j hj
theorem Zer.kp {M M' : Mem} (h : Zer M) (hk : KpR rZer M M') : Zer M' := by
  unfold Zer at h ⊢
  rw [hk.2 18 0 rfl, hk.1 19 0 rfl, hk.1 34 23 rfl]
  refine ⟨h.1, h.2.1, fun k h1 => ?_, h.2.2.2⟩
  rw [hk.1 39 k (by rcases (show k = 0 ∨ k = 1 ∨ k = 2 ∨ k = 3 ∨ k = 4 by omega) with rfl | rfl | rfl | rfl | rfl <;> rfl)]
  exact h.2.2.1 k h1
/-- a refusal, counted on both sides -/
theorem RelI.ref {M : Mem} (h : RelI M) (j : Nat) : RelI (seI (seI M 33 j (M.1 33 j + 1)) 35 j ((seI M 33 j (M.1 33 j + 1)).1 35 j + 1)) := by
  obtain ⟨h1, h2, h3, h4, h5, h6, h7, h8, h9⟩ := h
  refine ⟨h1.kp ((KpR.rf.I rfl).I rfl), h2.kpr ((KpR.rf.I rfl).I rfl), h3.kp ((KpR.rf.I rfl).I rfl), h4.kp ((KpR.rf.I rfl).I rfl), h5.kp ((KpR.rf.I rfl).I rfl), fun k hk => ?_, h7.kp ((KpR.rf.I rfl).I rfl), h8.kp ((KpR.rf.I rfl).I rfl), h9.kp ((KpR.rf.I rfl).I rfl)⟩
  by_cases e : k = j
  · subst e
    simp [seI_1, h6 k hk]
  · simp [seI_1, e, h6 k hk]
/-- both refuse with -j -/
theorem op_ref {N : Nat} {M : Mem} (hR : RelI M) (j : Nat) (h1 : 1 ≤ j) (h2 : j < 7) : ∃ M1 M2, f_X6_refuse N M (I (-(j : Int))) = some (I (-(j : Int)), M1) ∧ f_X7_refuse N M1 (I (-(j : Int))) = some (I (-(j : Int)), M2) ∧ RelI M2 :=
  ⟨_, _, xref N M h1 h2, mref N _ h1 h2, hR.ref j⟩
