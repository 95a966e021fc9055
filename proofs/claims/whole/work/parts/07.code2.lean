/-! Part 07: methods as pure functions (f_..), and their contracts (k_..) -/
def l_X0_taken_5 (N : Nat)   (a0 : Nat) : Nat → Mem → Int32 → Int32 → Int32 → Int32 → Option (Int32 × Mem)
  | 0, _, _, _, _, _ => none
  | n + 1, M, v1, v2, v3, v4 =>
    if v1 ≤ v4 then
      (some (v3, M))
    else
      (bd2 (f_X6_at shp N M a0 v4) fun r3 M2 =>
      bd2 (f_X6_at shp N M2 46 r3) fun r6 M5 =>
      if r6 = v2 then
        (l_X0_taken_5 N a0 n M5 v1 v2 (v3 + 1) (v4 + 1))
      else
        (l_X0_taken_5 N a0 n M5 v1 v2 v3 (v4 + 1)))
def f_X0_taken (N : Nat) (M : Mem) (a0 : Nat) (p1 : Int32) (p2 : Int32) : Option (Int32 × Mem) :=
  l_X0_taken_5 N a0 N M p1 p2 (0 : Int32) (0 : Int32)
set_option maxRecDepth 100000 in
set_option maxHeartbeats 4000000 in
theorem k_X0_taken (l : Launch) (N : Nat) (nc : Nat) (hnc : 34 ≤ nc) (M : Mem) (a0 : Nat) (p1 : Int32) (p2 : Int32) (ha0 : a0 < nc ∨ 45 ≤ a0) (r : Int32) (M' : Mem) (h : f_X0_taken N M a0 p1 p2 = some (r, M')) (d : Nat) (hd : 1 ≤ d) : Ct l d yX0_taken cX0_taken 5 (some .int) shp nc [.ref a0, .int p1, .int p2] M (some (.int r)) M' := by
  obtain ⟨d, rfl⟩ : ∃ q, d = q + 1 := ⟨d - 1, by omega⟩
  unfold f_X0_taken at h
  refine Ct.of (by decide +kernel) (Nat.le_of_ble_eq_true rfl) ?_
  intro p e s m args below meth c A ad D cI cJ X hr
  have hl5 : ∀ (n : Nat) (M : Mem) (v1 : Int32) (v2 : Int32) (v3 : Int32) (v4 : Int32), l_X0_taken_5 N a0 n M v1 v2 v3 v4 = some (r, M') → AW p l e (rmd (d + 1)) s m args below meth c 5 A ad D cI cJ shp nc 0 0 (MQ below (Qq A ad D cI cJ shp nc (some (.int r)) M') args s 0 0 A) M 5 [(0, .ref a0), (1, .int v1), (2, .int v2), (3, .int v3), (4, .int v4)] [] := by
    intro n
    induction n with
    | zero => intro M v1 v2 v3 v4 h; cases h
    | succ n ih =>
      intro M v1 v2 v3 v4 h
      rw [l_X0_taken_5] at h
      refine r_iload X 4 dX0_taken_5 rfl ?_
      refine r_iload_n X 1 dX0_taken_7 rfl rfl ?_
      refine r_icge X 36 dX0_taken_8 (by decide) (fun c1 => ?_) (fun c1 => ?_)
      · replace h := it_t c1 h
        refine r_iload_n X 3 dX0_taken_36 rfl rfl ?_
        exact r_iretE X hr dX0_taken_37 h
      · replace h := it_f c1 h
        refine r_getsN X 1 (Nat.le_of_ble_eq_true rfl) w_380 dX0_taken_11 ?_
        refine r_aload_n X 0 dX0_taken_14 rfl rfl ?_
        refine r_iload X 4 dX0_taken_15 rfl ?_
        obtain ⟨r3, M2, h4, h⟩ := bd2_ex h
        refine r_callSN X (st := [.ref 46]) (av := [.ref a0, .int v4]) (k_X6_at l N _ _ _ _ _ ha0 _ _ h4 d (by omega)) (fitR_s (Nat.le_of_ble_eq_true rfl)) ⟨Nat.le_refl 0, Nat.le_refl 0⟩ w_71 w_39 w_70 w_301 hy_X6_at rfl (Nat.le_of_ble_eq_true rfl) dX0_taken_17 ?_
        obtain ⟨r6, M5, h7, h⟩ := bd2_ex h
        refine r_callSN X (st := []) (av := [.ref 46, .int r3]) (k_X6_at l N _ _ _ _ _ (Or.inr (Nat.le_of_ble_eq_true rfl)) _ _ h7 d (by omega)) (fitR_s (Nat.le_of_ble_eq_true rfl)) ⟨Nat.le_refl 0, Nat.le_refl 0⟩ w_71 w_39 w_70 w_301 hy_X6_at rfl (Nat.le_of_ble_eq_true rfl) dX0_taken_20 ?_
        refine r_iload_n X 2 dX0_taken_23 rfl rfl ?_
        refine r_icne X 30 dX0_taken_24 (by decide) (fun c8 => ?_) (fun c8 => ?_)
        · replace h := it_f c8 h
          refine r_iinc X [(4, .int (v4 + 1)), (0, .ref a0), (1, .int v1), (2, .int v2), (3, .int v3)] 4 (v4 + 1) dX0_taken_30 rfl rfl (Nat.le_of_ble_eq_true rfl) rfl ?_
          refine r_goto X 5 dX0_taken_33 (by decide) ?_
          refine r_sub (ls' := [(0, .ref a0), (1, .int v1), (2, .int v2), (3, .int v3), (4, .int (v4 + 1))]) [1, 2, 3, 4, 0] rfl ?_
          exact ih M5 v1 v2 v3 (v4 + 1) h
        · replace h := it_t c8 h
          refine r_iinc X [(3, .int (v3 + 1)), (0, .ref a0), (1, .int v1), (2, .int v2), (4, .int v4)] 3 (v3 + 1) dX0_taken_27 rfl rfl (Nat.le_of_ble_eq_true rfl) rfl ?_
          refine r_iinc X [(4, .int (v4 + 1)), (3, .int (v3 + 1)), (0, .ref a0), (1, .int v1), (2, .int v2)] 4 (v4 + 1) dX0_taken_30 rfl rfl (Nat.le_of_ble_eq_true rfl) rfl ?_
          refine r_goto X 5 dX0_taken_33 (by decide) ?_
          refine r_sub (ls' := [(0, .ref a0), (1, .int v1), (2, .int v2), (3, .int (v3 + 1)), (4, .int (v4 + 1))]) [2, 3, 4, 1, 0] rfl ?_
          exact ih M5 v1 v2 (v3 + 1) (v4 + 1) h
  refine r_sub (ls' := [(0, .ref a0), (1, .int p1), (2, .int p2)]) [0, 1, 2] rfl ?_
  refine r_iconst X 0 dX0_taken_0 rfl ?_
  refine r_istore_n X [(3, .int (0 : Int32)), (0, .ref a0), (1, .int p1), (2, .int p2)] dX0_taken_1 rfl (Nat.le_of_ble_eq_true rfl) rfl ?_
  refine r_iconst X 0 dX0_taken_2 rfl ?_
  refine r_istore X [(4, .int (0 : Int32)), (3, .int (0 : Int32)), (0, .ref a0), (1, .int p1), (2, .int p2)] dX0_taken_3 (Nat.le_of_ble_eq_true rfl) rfl ?_
  refine r_sub (ls' := [(0, .ref a0), (1, .int p1), (2, .int p2), (3, .int (0 : Int32)), (4, .int (0 : Int32))]) [2, 3, 4, 1, 0] rfl ?_
  exact hl5  N M p1 p2 (0 : Int32) (0 : Int32) h
def l_X0_lacking_5 (N : Nat)   (a0 : Nat) : Nat → Mem → Int32 → Int32 → Int32 → Option (Int32 × Mem)
  | 0, _, _, _, _ => none
  | n + 1, M, v2, v3, v4 =>
    if (7 : Int32) ≤ v4 then
      (some (v3, M))
    else
      (bd2 (f_X0_taken N M a0 v2 v4) fun r3 M2 =>
      bd2 (f_X6_at shp N M2 2 v4) fun r6 M5 =>
      nm (v3 + (imax (0 : Int32) (r3 - r6))) fun x8 =>
      l_X0_lacking_5 N a0 n M5 v2 x8 (v4 + 1))
def f_X0_lacking (N : Nat) (M : Mem) (a0 : Nat) (p1 : Int32) : Option (Int32 × Mem) :=
  l_X0_lacking_5 N a0 N M p1 (0 : Int32) (0 : Int32)
set_option maxRecDepth 100000 in
set_option maxHeartbeats 4000000 in
theorem k_X0_lacking (l : Launch) (N : Nat) (nc : Nat) (hnc : 34 ≤ nc) (M : Mem) (a0 : Nat) (p1 : Int32) (ha0 : a0 < nc ∨ 45 ≤ a0) (r : Int32) (M' : Mem) (h : f_X0_lacking N M a0 p1 = some (r, M')) (d : Nat) (hd : 2 ≤ d) : Ct l d yX0_lacking cX0_lacking 5 (some .int) shp nc [.ref 1, .ref a0, .int p1] M (some (.int r)) M' := by
  obtain ⟨d, rfl⟩ : ∃ q, d = q + 1 := ⟨d - 1, by omega⟩
  unfold f_X0_lacking at h
  refine Ct.of (by decide +kernel) (Nat.le_of_ble_eq_true rfl) ?_
  intro p e s m args below meth c A ad D cI cJ X hr
  have hl5 : ∀ (n : Nat) (M : Mem) (v2 : Int32) (v3 : Int32) (v4 : Int32), l_X0_lacking_5 N a0 n M v2 v3 v4 = some (r, M') → AW p l e (rmd (d + 1)) s m args below meth c 5 A ad D cI cJ shp nc 0 0 (MQ below (Qq A ad D cI cJ shp nc (some (.int r)) M') args s 0 0 A) M 5 [(0, .ref 1), (1, .ref a0), (2, .int v2), (3, .int v3), (4, .int v4)] [] := by
    intro n
    induction n with
    | zero => intro M v2 v3 v4 h; cases h
    | succ n ih =>
      intro M v2 v3 v4 h
      rw [l_X0_lacking_5] at h
      refine r_iload X 4 dX0_lacking_5 rfl ?_
      refine r_bipush X 7 dX0_lacking_7 rfl ?_
      refine r_icge X 42 dX0_lacking_9 (by decide) (fun c1 => ?_) (fun c1 => ?_)
      · replace h := it_t c1 h
        refine r_iload_n X 3 dX0_lacking_42 rfl rfl ?_
        exact r_iretE X hr dX0_lacking_43 h
      · replace h := it_f c1 h
        refine r_iload_n X 3 dX0_lacking_12 rfl rfl ?_
        refine r_iconst X 0 dX0_lacking_13 rfl ?_
        refine r_aload_n X 1 dX0_lacking_14 rfl rfl ?_
        refine r_iload_n X 2 dX0_lacking_15 rfl rfl ?_
        refine r_iload X 4 dX0_lacking_16 rfl ?_
        obtain ⟨r3, M2, h4, h⟩ := bd2_ex h
        refine r_callS X (st := [.int (0 : Int32), .int v3]) (av := [.ref a0, .int v2, .int v4]) (k_X0_taken l N _ hnc _ _ _ _ ha0 _ _ h4 d (by omega)) (fitR_s (Nat.le_of_ble_eq_true rfl)) ⟨Nat.le_refl 0, Nat.le_refl 0⟩ w_379 w_40 w_378 w_377 hy_X0_taken rfl (Nat.le_of_ble_eq_true rfl) dX0_lacking_18 ?_
        refine r_aload_n X 0 dX0_lacking_21 rfl rfl ?_
        refine r_getr X 0 2 in_X0 (ci := 0) rfl rfl (ltn hnc rfl) (Nat.le_of_ble_eq_true rfl) rfl w_74 dX0_lacking_22 (by decide) ?_
        refine r_iload X 4 dX0_lacking_25 rfl ?_
        obtain ⟨r6, M5, h7, h⟩ := bd2_ex h
        refine r_callSN X (st := [.int r3, .int (0 : Int32), .int v3]) (av := [.ref 2, .int v4]) (k_X6_at l N _ _ _ _ _ (Or.inl (ltn hnc rfl)) _ _ h7 d (by omega)) (fitR_s (Nat.le_of_ble_eq_true rfl)) ⟨Nat.le_refl 0, Nat.le_refl 0⟩ w_71 w_39 w_70 w_301 hy_X6_at rfl (Nat.le_of_ble_eq_true rfl) dX0_lacking_27 ?_
        refine r_isub X dX0_lacking_30 ?_
        refine r_max X (Nat.succ_le_succ (Nat.zero_le _)) (room21 _) ⟨Nat.le_refl 0, Nat.le_refl 0⟩ w_381 w_382 w_48 w_383 (Nat.le_of_ble_eq_true rfl) dX0_lacking_31 ?_
        refine r_iadd X dX0_lacking_34 ?_
        obtain ⟨x8, ex8, h⟩ := nm_ex h
        refine r_top ex8 ?_
        refine r_istore_n X [(3, .int x8), (0, .ref 1), (1, .ref a0), (2, .int v2), (4, .int v4)] dX0_lacking_35 rfl (Nat.le_of_ble_eq_true rfl) rfl ?_
        refine r_iinc X [(4, .int (v4 + 1)), (3, .int x8), (0, .ref 1), (1, .ref a0), (2, .int v2)] 4 (v4 + 1) dX0_lacking_36 rfl rfl (Nat.le_of_ble_eq_true rfl) rfl ?_
        refine r_goto X 5 dX0_lacking_39 (by decide) ?_
        refine r_sub (ls' := [(0, .ref 1), (1, .ref a0), (2, .int v2), (3, .int x8), (4, .int (v4 + 1))]) [2, 3, 4, 1, 0] rfl ?_
        exact ih M5 v2 x8 (v4 + 1) h
  refine r_sub (ls' := [(0, .ref 1), (1, .ref a0), (2, .int p1)]) [0, 1, 2] rfl ?_
  refine r_iconst X 0 dX0_lacking_0 rfl ?_
  refine r_istore_n X [(3, .int (0 : Int32)), (0, .ref 1), (1, .ref a0), (2, .int p1)] dX0_lacking_1 rfl (Nat.le_of_ble_eq_true rfl) rfl ?_
  refine r_iconst X 0 dX0_lacking_2 rfl ?_
  refine r_istore X [(4, .int (0 : Int32)), (3, .int (0 : Int32)), (0, .ref 1), (1, .ref a0), (2, .int p1)] dX0_lacking_3 (Nat.le_of_ble_eq_true rfl) rfl ?_
  refine r_sub (ls' := [(0, .ref 1), (1, .ref a0), (2, .int p1), (3, .int (0 : Int32)), (4, .int (0 : Int32))]) [2, 3, 4, 1, 0] rfl ?_
  exact hl5  N M p1 (0 : Int32) (0 : Int32) h
def f_X6_uses (N : Nat) (M : Mem)  : Option (Int32 × Mem) :=
  bd2 (f_X0_lacking N M 4 (M.1 1 3)) fun r2 M1 =>
  if r2 = 0 then
    (bd2 (f_X6_yes N M1 (1 : Int32)) fun r9 M8 =>
    some (r9, M8))
  else
    (bd2 (f_X6_yes N M1 (0 : Int32)) fun r6 M5 =>
    some (r6, M5))
set_option maxRecDepth 100000 in
set_option maxHeartbeats 4000000 in
theorem k_X6_uses (l : Launch) (N : Nat) (nc : Nat) (hnc : 34 ≤ nc) (M : Mem)  (r : Int32) (M' : Mem) (h : f_X6_uses N M  = some (r, M')) (d : Nat) (hd : 3 ≤ d) : Ct l d yX6_uses cX6_uses 1 (some .int) shp nc [.ref 0] M (some (.int r)) M' := by
  obtain ⟨d, rfl⟩ : ∃ q, d = q + 1 := ⟨d - 1, by omega⟩
  unfold f_X6_uses at h
  refine Ct.of (by decide +kernel) (Nat.le_of_ble_eq_true rfl) ?_
  intro p e s m args below meth c A ad D cI cJ X hr
  refine r_sub (ls' := [(0, .ref 0)]) [0] rfl ?_
  refine r_aload_n X 0 dX6_uses_0 rfl rfl ?_
  refine r_getr X 0 1 in_X6 (ci := 5) rfl rfl (ltn hnc rfl) (Nat.le_of_ble_eq_true rfl) rfl w_240 dX6_uses_1 (by decide) ?_
  refine r_aload_n X 0 dX6_uses_4 rfl rfl ?_
  refine r_getr X 0 1 in_X6 (ci := 5) rfl rfl (ltn hnc rfl) (Nat.le_of_ble_eq_true rfl) rfl w_240 dX6_uses_5 (by decide) ?_
  refine r_getr X 2 4 in_X0 (ci := 0) rfl rfl (ltn hnc rfl) (Nat.le_of_ble_eq_true rfl) rfl w_80 dX6_uses_8 (by decide) ?_
  refine r_aload_n X 0 dX6_uses_11 rfl rfl ?_
  refine r_getr X 0 1 in_X6 (ci := 5) rfl rfl (ltn hnc rfl) (Nat.le_of_ble_eq_true rfl) rfl w_240 dX6_uses_12 (by decide) ?_
  refine r_geti X 3 in_X0 (ci := 0) rfl rfl (ltn hnc rfl) (Nat.le_of_ble_eq_true rfl) rfl w_82 dX6_uses_15 ?_
  obtain ⟨r2, M1, h3, h⟩ := bd2_ex h
  refine r_callV X (st := []) (av := [.ref 4, .int (M.1 1 3)]) (k := 1) (ci := 0) (k_X0_lacking l N _ hnc _ _ _ (Or.inl (ltn hnc rfl)) _ _ h3 d (by omega)) (fitR_s (Nat.le_of_ble_eq_true rfl)) ⟨Nat.le_refl 0, Nat.le_refl 0⟩ rfl (ltn hnc rfl) rfl w_376 w_40 w_374 w_375 w_373 hy_X0_lacking rfl (Nat.le_of_ble_eq_true rfl) dX6_uses_18 ?_
  refine r_ifne X 28 dX6_uses_21 (by decide) (fun c4 => ?_) (fun c4 => ?_)
  · replace h := it_f c4 h
    refine r_iconst X 0 dX6_uses_28 rfl ?_
    obtain ⟨r6, M5, h7, h⟩ := bd2_ex h
    refine r_callS X (st := []) (av := [.int (0 : Int32)]) (k_X6_yes l N _ hnc _ _ _ _ h7 d (by omega)) (fitR_s (Nat.le_of_ble_eq_true rfl)) ⟨Nat.le_refl 0, Nat.le_refl 0⟩ w_368 w_39 w_367 w_366 hy_X6_yes rfl (Nat.le_of_ble_eq_true rfl) dX6_uses_29 ?_
    exact r_iretE X hr dX6_uses_32 h
  · replace h := it_t c4 h
    refine r_iconst X 1 dX6_uses_24 rfl ?_
    refine r_goto X 29 dX6_uses_25 (by decide) ?_
    obtain ⟨r9, M8, h10, h⟩ := bd2_ex h
    refine r_callS X (st := []) (av := [.int (1 : Int32)]) (k_X6_yes l N _ hnc _ _ _ _ h10 d (by omega)) (fitR_s (Nat.le_of_ble_eq_true rfl)) ⟨Nat.le_refl 0, Nat.le_refl 0⟩ w_368 w_39 w_367 w_366 hy_X6_yes rfl (Nat.le_of_ble_eq_true rfl) dX6_uses_29 ?_
    exact r_iretE X hr dX6_uses_32 h
def l_X7_uses_12 (N : Nat)  (K2 : Mem → Int32 → Option (Int32 × Mem))  : Nat → Mem → Int32 → Int32 → Int32 → Option (Int32 × Mem)
  | 0, _, _, _, _ => none
  | n + 1, M, v1, v2, v3 =>
    if (M.1 36 (ix (55 : Int32))) ≤ v3 then
      (ck (inb v1 56) <|
      if v2 ≤ (M.1 36 (ix v1)) then
        (K2 M (v1 + 1))
      else
        (some ((0 : Int32), M)))
    else
      (ck (inb ((31 : Int32) + v3) 56) <|
      bd2 (f_X7_kindOf N M (M.1 36 (ix ((31 : Int32) + v3)))) fun r7 M6 =>
      if r7 = v1 then
        (nm (v2 + (1 : Int32)) fun x11 =>
        l_X7_uses_12 N K2 n M6 v1 x11 (v3 + 1))
      else
        (nm (v2 + (0 : Int32)) fun x10 =>
        l_X7_uses_12 N K2 n M6 v1 x10 (v3 + 1)))
def l_X7_uses_2 (N : Nat)    : Nat → Mem → Int32 → Option (Int32 × Mem)
  | 0, _, _ => none
  | n + 1, M, v1 =>
    if (7 : Int32) ≤ v1 then
      (some ((1 : Int32), M))
    else
      (l_X7_uses_12 N (l_X7_uses_2 N n) N M v1 (0 : Int32) (0 : Int32))
def f_X7_uses (N : Nat) (M : Mem)  : Option (Int32 × Mem) :=
  l_X7_uses_2 N N M (0 : Int32)
set_option maxRecDepth 100000 in
set_option maxHeartbeats 4000000 in
theorem k_X7_uses (l : Launch) (N : Nat) (nc : Nat) (hnc : 45 ≤ nc) (M : Mem)  (r : Int32) (M' : Mem) (h : f_X7_uses N M  = some (r, M')) (d : Nat) (hd : 1 ≤ d) : Ct l d yX7_uses cX7_uses 4 (some .int) shp nc [.ref 34] M (some (.int r)) M' := by
  obtain ⟨d, rfl⟩ : ∃ q, d = q + 1 := ⟨d - 1, by omega⟩
  unfold f_X7_uses at h
  refine Ct.of (by decide +kernel) (Nat.le_of_ble_eq_true rfl) ?_
  intro p e s m args below meth c A ad D cI cJ X hr
  have hl12 : ∀ (K2 : Mem → Int32 → Option (Int32 × Mem)), (∀ (M : Mem) (v1 : Int32), K2 M v1 = some (r, M') → AW p l e (rmd (d + 1)) s m args below meth c 4 A ad D cI cJ shp nc 0 0 (MQ below (Qq A ad D cI cJ shp nc (some (.int r)) M') args s 0 0 A) M 2 [(0, .ref 34), (1, .int v1)] []) → ∀ (n : Nat) (M : Mem) (v1 : Int32) (v2 : Int32) (v3 : Int32), l_X7_uses_12 N K2 n M v1 v2 v3 = some (r, M') → AW p l e (rmd (d + 1)) s m args below meth c 4 A ad D cI cJ shp nc 0 0 (MQ below (Qq A ad D cI cJ shp nc (some (.int r)) M') args s 0 0 A) M 12 [(0, .ref 34), (1, .int v1), (2, .int v2), (3, .int v3)] [] := by
    intro K2 hK2
    intro n
    induction n with
    | zero => intro M v1 v2 v3 h; cases h
    | succ n ih =>
      intro M v1 v2 v3 h
      rw [l_X7_uses_12] at h
      refine r_iload_n X 3 dX7_uses_12 rfl rfl ?_
      refine r_aload_n X 0 dX7_uses_13 rfl rfl ?_
      refine r_getr X 1 36 in_X7 (ci := 6) rfl rfl (ltn hnc rfl) (Nat.le_of_ble_eq_true rfl) rfl w_610 dX7_uses_14 (by decide) ?_
      refine r_bipush X 55 dX7_uses_17 rfl ?_
      refine r_iald X (n := 56) rfl (Or.inl (ltn hnc rfl)) (by decide) dX7_uses_19 ?_
      refine r_icge X 53 dX7_uses_20 (by decide) (fun c2 => ?_) (fun c2 => ?_)
      · replace h := it_t c2 h
        refine r_iload_n X 2 dX7_uses_53 rfl rfl ?_
        refine r_aload_n X 0 dX7_uses_54 rfl rfl ?_
        refine r_getr X 1 36 in_X7 (ci := 6) rfl rfl (ltn hnc rfl) (Nat.le_of_ble_eq_true rfl) rfl w_610 dX7_uses_55 (by decide) ?_
        refine r_iload_n X 1 dX7_uses_58 rfl rfl ?_
        obtain ⟨c3, h⟩ := ck_ex h
        refine r_iald X (n := 56) rfl (Or.inl (ltn hnc rfl)) c3 dX7_uses_59 ?_
        refine r_icle X 65 dX7_uses_60 (by decide) (fun c4 => ?_) (fun c4 => ?_)
        · replace h := it_t c4 h
          refine r_iinc X [(1, .int (v1 + 1)), (0, .ref 34), (2, .int v2), (3, .int v3)] 1 (v1 + 1) dX7_uses_65 rfl rfl (Nat.le_of_ble_eq_true rfl) rfl ?_
          refine r_goto X 2 dX7_uses_68 (by decide) ?_
          refine r_sub (ls' := [(0, .ref 34), (1, .int (v1 + 1))]) [1, 0] rfl ?_
          exact hK2 M (v1 + 1) h
        · replace h := it_f c4 h
          refine r_iconst X 0 dX7_uses_63 rfl ?_
          exact r_iretE X hr dX7_uses_64 h
      · replace h := it_f c2 h
        refine r_iload_n X 2 dX7_uses_23 rfl rfl ?_
        refine r_aload_n X 0 dX7_uses_24 rfl rfl ?_
        refine r_getr X 1 36 in_X7 (ci := 6) rfl rfl (ltn hnc rfl) (Nat.le_of_ble_eq_true rfl) rfl w_610 dX7_uses_25 (by decide) ?_
        refine r_bipush X 31 dX7_uses_28 rfl ?_
        refine r_iload_n X 3 dX7_uses_30 rfl rfl ?_
        refine r_iadd X dX7_uses_31 ?_
        obtain ⟨c5, h⟩ := ck_ex h
        refine r_iald X (n := 56) rfl (Or.inl (ltn hnc rfl)) c5 dX7_uses_32 ?_
        obtain ⟨r7, M6, h8, h⟩ := bd2_ex h
        refine r_callS X (st := [.int v2]) (av := [.int (M.1 36 (ix ((31 : Int32) + v3)))]) (k_X7_kindOf l N _ hnc _ _ _ _ h8 d (by omega)) (fitR_s (Nat.le_of_ble_eq_true rfl)) ⟨Nat.le_refl 0, Nat.le_refl 0⟩ w_731 w_47 w_730 w_729 hy_X7_kindOf rfl (Nat.le_of_ble_eq_true rfl) dX7_uses_33 ?_
        refine r_iload_n X 1 dX7_uses_36 rfl rfl ?_
        refine r_icne X 44 dX7_uses_37 (by decide) (fun c9 => ?_) (fun c9 => ?_)
        · replace h := it_f c9 h
          refine r_iconst X 0 dX7_uses_44 rfl ?_
          refine r_iadd X dX7_uses_45 ?_
          obtain ⟨x10, ex10, h⟩ := nm_ex h
          refine r_top ex10 ?_
          refine r_istore_n X [(2, .int x10), (0, .ref 34), (1, .int v1), (3, .int v3)] dX7_uses_46 rfl (Nat.le_of_ble_eq_true rfl) rfl ?_
          refine r_iinc X [(3, .int (v3 + 1)), (2, .int x10), (0, .ref 34), (1, .int v1)] 3 (v3 + 1) dX7_uses_47 rfl rfl (Nat.le_of_ble_eq_true rfl) rfl ?_
          refine r_goto X 12 dX7_uses_50 (by decide) ?_
          refine r_sub (ls' := [(0, .ref 34), (1, .int v1), (2, .int x10), (3, .int (v3 + 1))]) [2, 3, 1, 0] rfl ?_
          exact ih M6 v1 x10 (v3 + 1) h
        · replace h := it_t c9 h
          refine r_iconst X 1 dX7_uses_40 rfl ?_
          refine r_goto X 45 dX7_uses_41 (by decide) ?_
          refine r_iadd X dX7_uses_45 ?_
          obtain ⟨x11, ex11, h⟩ := nm_ex h
          refine r_top ex11 ?_
          refine r_istore_n X [(2, .int x11), (0, .ref 34), (1, .int v1), (3, .int v3)] dX7_uses_46 rfl (Nat.le_of_ble_eq_true rfl) rfl ?_
          refine r_iinc X [(3, .int (v3 + 1)), (2, .int x11), (0, .ref 34), (1, .int v1)] 3 (v3 + 1) dX7_uses_47 rfl rfl (Nat.le_of_ble_eq_true rfl) rfl ?_
          refine r_goto X 12 dX7_uses_50 (by decide) ?_
          refine r_sub (ls' := [(0, .ref 34), (1, .int v1), (2, .int x11), (3, .int (v3 + 1))]) [2, 3, 1, 0] rfl ?_
          exact ih M6 v1 x11 (v3 + 1) h
  have hl2 : ∀ (n : Nat) (M : Mem) (v1 : Int32), l_X7_uses_2 N n M v1 = some (r, M') → AW p l e (rmd (d + 1)) s m args below meth c 4 A ad D cI cJ shp nc 0 0 (MQ below (Qq A ad D cI cJ shp nc (some (.int r)) M') args s 0 0 A) M 2 [(0, .ref 34), (1, .int v1)] [] := by
    intro n
    induction n with
    | zero => intro M v1 h; cases h
    | succ n ih =>
      intro M v1 h
      rw [l_X7_uses_2] at h
      refine r_iload_n X 1 dX7_uses_2 rfl rfl ?_
      refine r_bipush X 7 dX7_uses_3 rfl ?_
      refine r_icge X 71 dX7_uses_5 (by decide) (fun c1 => ?_) (fun c1 => ?_)
      · replace h := it_t c1 h
        refine r_iconst X 1 dX7_uses_71 rfl ?_
        exact r_iretE X hr dX7_uses_72 h
      · replace h := it_f c1 h
        refine r_iconst X 0 dX7_uses_8 rfl ?_
        refine r_istore_n X [(2, .int (0 : Int32)), (0, .ref 34), (1, .int v1)] dX7_uses_9 rfl (Nat.le_of_ble_eq_true rfl) rfl ?_
        refine r_iconst X 0 dX7_uses_10 rfl ?_
        refine r_istore_n X [(3, .int (0 : Int32)), (2, .int (0 : Int32)), (0, .ref 34), (1, .int v1)] dX7_uses_11 rfl (Nat.le_of_ble_eq_true rfl) rfl ?_
        refine r_sub (ls' := [(0, .ref 34), (1, .int v1), (2, .int (0 : Int32)), (3, .int (0 : Int32))]) [2, 3, 1, 0] rfl ?_
        exact hl12 _ ih N M v1 (0 : Int32) (0 : Int32) h
  refine r_sub (ls' := [(0, .ref 34)]) [0] rfl ?_
  refine r_iconst X 0 dX7_uses_0 rfl ?_
  refine r_istore_n X [(1, .int (0 : Int32)), (0, .ref 34)] dX7_uses_1 rfl (Nat.le_of_ble_eq_true rfl) rfl ?_
  refine r_sub (ls' := [(0, .ref 34), (1, .int (0 : Int32))]) [1, 0] rfl ?_
  exact hl2  N M (0 : Int32) h
def f_X2_signOf (N : Nat) (M : Mem) (p0 : Int64) (p1 : Int64) : Option (Int32 × Mem) :=
  if (lg_cmp p0 (0 : Int64)) = 0 then
    (if (lg_cmp p1 (0 : Int64)) = 0 then
      (some ((0 : Int32), M))
    else
      (if (lg_cmp p0 (0 : Int64)) < 0 then
        (if 0 < (lg_cmp p0 (0 : Int64)) then
          (if (lg_cmp (p0 * p0) (((2 : Int64) * p1) * p1)) ≤ 0 then
            (if (lg_cmp p0 (0 : Int64)) ≤ 0 then
              (some ((1 : Int32), M))
            else
              (some ((-1 : Int32), M)))
          else
            (if (lg_cmp p0 (0 : Int64)) ≤ 0 then
              (some ((-1 : Int32), M))
            else
              (some ((1 : Int32), M))))
        else
          (if 0 < (lg_cmp p1 (0 : Int64)) then
            (if (lg_cmp (p0 * p0) (((2 : Int64) * p1) * p1)) ≤ 0 then
              (if (lg_cmp p0 (0 : Int64)) ≤ 0 then
                (some ((1 : Int32), M))
              else
                (some ((-1 : Int32), M)))
            else
              (if (lg_cmp p0 (0 : Int64)) ≤ 0 then
                (some ((-1 : Int32), M))
              else
                (some ((1 : Int32), M))))
          else
            (some ((-1 : Int32), M))))
      else
        (if (lg_cmp p1 (0 : Int64)) < 0 then
          (if 0 < (lg_cmp p0 (0 : Int64)) then
            (if (lg_cmp (p0 * p0) (((2 : Int64) * p1) * p1)) ≤ 0 then
              (if (lg_cmp p0 (0 : Int64)) ≤ 0 then
                (some ((1 : Int32), M))
              else
                (some ((-1 : Int32), M)))
            else
              (if (lg_cmp p0 (0 : Int64)) ≤ 0 then
                (some ((-1 : Int32), M))
              else
                (some ((1 : Int32), M))))
          else
            (if 0 < (lg_cmp p1 (0 : Int64)) then
              (if (lg_cmp (p0 * p0) (((2 : Int64) * p1) * p1)) ≤ 0 then
                (if (lg_cmp p0 (0 : Int64)) ≤ 0 then
                  (some ((1 : Int32), M))
                else
                  (some ((-1 : Int32), M)))
              else
                (if (lg_cmp p0 (0 : Int64)) ≤ 0 then
                  (some ((-1 : Int32), M))
                else
                  (some ((1 : Int32), M))))
            else
              (some ((-1 : Int32), M))))
        else
          (some ((1 : Int32), M)))))
  else
    (if (lg_cmp p0 (0 : Int64)) < 0 then
      (if 0 < (lg_cmp p0 (0 : Int64)) then
        (if (lg_cmp (p0 * p0) (((2 : Int64) * p1) * p1)) ≤ 0 then
          (if (lg_cmp p0 (0 : Int64)) ≤ 0 then
            (some ((1 : Int32), M))
          else
            (some ((-1 : Int32), M)))
        else
          (if (lg_cmp p0 (0 : Int64)) ≤ 0 then
            (some ((-1 : Int32), M))
          else
            (some ((1 : Int32), M))))
      else
        (if 0 < (lg_cmp p1 (0 : Int64)) then
          (if (lg_cmp (p0 * p0) (((2 : Int64) * p1) * p1)) ≤ 0 then
            (if (lg_cmp p0 (0 : Int64)) ≤ 0 then
              (some ((1 : Int32), M))
            else
              (some ((-1 : Int32), M)))
          else
            (if (lg_cmp p0 (0 : Int64)) ≤ 0 then
              (some ((-1 : Int32), M))
            else
              (some ((1 : Int32), M))))
        else
          (some ((-1 : Int32), M))))
    else
      (if (lg_cmp p1 (0 : Int64)) < 0 then
        (if 0 < (lg_cmp p0 (0 : Int64)) then
          (if (lg_cmp (p0 * p0) (((2 : Int64) * p1) * p1)) ≤ 0 then
            (if (lg_cmp p0 (0 : Int64)) ≤ 0 then
              (some ((1 : Int32), M))
            else
              (some ((-1 : Int32), M)))
          else
            (if (lg_cmp p0 (0 : Int64)) ≤ 0 then
              (some ((-1 : Int32), M))
            else
              (some ((1 : Int32), M))))
        else
          (if 0 < (lg_cmp p1 (0 : Int64)) then
            (if (lg_cmp (p0 * p0) (((2 : Int64) * p1) * p1)) ≤ 0 then
              (if (lg_cmp p0 (0 : Int64)) ≤ 0 then
                (some ((1 : Int32), M))
              else
                (some ((-1 : Int32), M)))
            else
              (if (lg_cmp p0 (0 : Int64)) ≤ 0 then
                (some ((-1 : Int32), M))
              else
                (some ((1 : Int32), M))))
          else
            (some ((-1 : Int32), M))))
      else
        (some ((1 : Int32), M))))
set_option maxRecDepth 100000 in
set_option maxHeartbeats 4000000 in
theorem k_X2_signOf (l : Launch) (N : Nat) (nc : Nat) (hnc : 34 ≤ nc) (M : Mem) (p0 : Int64) (p1 : Int64) (r : Int32) (M' : Mem) (h : f_X2_signOf N M p0 p1 = some (r, M')) (d : Nat) (hd : 0 ≤ d) : Ct l d yX2_signOf cX2_signOf 5 (some .int) shp nc [.long p0, .long p1] M (some (.int r)) M' := by
  unfold f_X2_signOf at h
  refine Ct.of (by decide +kernel) (Nat.le_of_ble_eq_true rfl) ?_
  intro p e s m args below meth c A ad D cI cJ X hr
  refine r_sub (ls' := [(0, .long p0), (2, .long p1)]) [0, 1] rfl ?_
  refine r_lload_n X 0 dX2_signOf_0 rfl rfl ?_
  refine r_lconst X 0 dX2_signOf_1 rfl ?_
  refine r_lcmp X dX2_signOf_2 ?_
  refine r_ifne X 14 dX2_signOf_3 (by decide) (fun c1 => ?_) (fun c1 => ?_)
  · replace h := it_f c1 h
    refine r_lload_n X 0 dX2_signOf_14 rfl rfl ?_
    refine r_lconst X 0 dX2_signOf_15 rfl ?_
    refine r_lcmp X dX2_signOf_16 ?_
    refine r_iflt X 28 dX2_signOf_17 (by decide) (fun c2 => ?_) (fun c2 => ?_)
    · replace h := it_t c2 h
      refine r_lload_n X 0 dX2_signOf_28 rfl rfl ?_
      refine r_lconst X 0 dX2_signOf_29 rfl ?_
      refine r_lcmp X dX2_signOf_30 ?_
      refine r_ifgt X 42 dX2_signOf_31 (by decide) (fun c3 => ?_) (fun c3 => ?_)
      · replace h := it_t c3 h
        refine r_lload_n X 0 dX2_signOf_42 rfl rfl ?_
        refine r_lload_n X 0 dX2_signOf_43 rfl rfl ?_
        refine r_lmul X dX2_signOf_44 ?_
        refine r_ldc2 X w_393 dX2_signOf_45 ?_
        refine r_lload_n X 1 dX2_signOf_48 rfl rfl ?_
        refine r_lmul X dX2_signOf_49 ?_
        refine r_lload_n X 1 dX2_signOf_50 rfl rfl ?_
        refine r_lmul X dX2_signOf_51 ?_
        refine r_lcmp X dX2_signOf_52 ?_
        refine r_ifle X 60 dX2_signOf_53 (by decide) (fun c4 => ?_) (fun c4 => ?_)
        · replace h := it_t c4 h
          refine r_iconst X 0 dX2_signOf_60 rfl ?_
          refine r_istore X [(4, .int (0 : Int32)), (0, .long p0), (2, .long p1)] dX2_signOf_61 (Nat.le_of_ble_eq_true rfl) rfl ?_
          refine r_lload_n X 1 dX2_signOf_63 rfl rfl ?_
          refine r_lconst X 0 dX2_signOf_64 rfl ?_
          refine r_lcmp X dX2_signOf_65 ?_
          refine r_ifle X 73 dX2_signOf_66 (by decide) (fun c5 => ?_) (fun c5 => ?_)
          · replace h := it_t c5 h
            refine r_iconst X 0 dX2_signOf_73 rfl ?_
            refine r_iload X 0 dX2_signOf_74 rfl ?_
            refine r_icne X 83 dX2_signOf_76 (by decide) (fun c6 => ?_) (fun c6 => ?_)
            · exact absurd c6 (by decide)
            refine r_iconst X 1 dX2_signOf_79 rfl ?_
            refine r_goto X 84 dX2_signOf_80 (by decide) ?_
            exact r_iretE X hr dX2_signOf_84 h
          · replace h := it_f c5 h
            refine r_iconst X 1 dX2_signOf_69 rfl ?_
            refine r_goto X 74 dX2_signOf_70 (by decide) ?_
            refine r_iload X 0 dX2_signOf_74 rfl ?_
            refine r_icne X 83 dX2_signOf_76 (by decide) (fun c7 => ?_) (fun c7 => ?_)
            rotate_left
            · exact absurd c7 (by decide)
            refine r_iconst X (-1) dX2_signOf_83 rfl ?_
            exact r_iretE X hr dX2_signOf_84 h
        · replace h := it_f c4 h
          refine r_iconst X 1 dX2_signOf_56 rfl ?_
          refine r_goto X 61 dX2_signOf_57 (by decide) ?_
          refine r_istore X [(4, .int (1 : Int32)), (0, .long p0), (2, .long p1)] dX2_signOf_61 (Nat.le_of_ble_eq_true rfl) rfl ?_
          refine r_lload_n X 1 dX2_signOf_63 rfl rfl ?_
          refine r_lconst X 0 dX2_signOf_64 rfl ?_
          refine r_lcmp X dX2_signOf_65 ?_
          refine r_ifle X 73 dX2_signOf_66 (by decide) (fun c8 => ?_) (fun c8 => ?_)
          · replace h := it_t c8 h
            refine r_iconst X 0 dX2_signOf_73 rfl ?_
            refine r_iload X 0 dX2_signOf_74 rfl ?_
            refine r_icne X 83 dX2_signOf_76 (by decide) (fun c9 => ?_) (fun c9 => ?_)
            rotate_left
            · exact absurd c9 (by decide)
            refine r_iconst X (-1) dX2_signOf_83 rfl ?_
            exact r_iretE X hr dX2_signOf_84 h
          · replace h := it_f c8 h
            refine r_iconst X 1 dX2_signOf_69 rfl ?_
            refine r_goto X 74 dX2_signOf_70 (by decide) ?_
            refine r_iload X 0 dX2_signOf_74 rfl ?_
            refine r_icne X 83 dX2_signOf_76 (by decide) (fun c10 => ?_) (fun c10 => ?_)
            · exact absurd c10 (by decide)
            refine r_iconst X 1 dX2_signOf_79 rfl ?_
            refine r_goto X 84 dX2_signOf_80 (by decide) ?_
            exact r_iretE X hr dX2_signOf_84 h
      · replace h := it_f c3 h
        refine r_lload_n X 1 dX2_signOf_34 rfl rfl ?_
        refine r_lconst X 0 dX2_signOf_35 rfl ?_
        refine r_lcmp X dX2_signOf_36 ?_
        refine r_ifgt X 42 dX2_signOf_37 (by decide) (fun c11 => ?_) (fun c11 => ?_)
        · replace h := it_t c11 h
          refine r_lload_n X 0 dX2_signOf_42 rfl rfl ?_
          refine r_lload_n X 0 dX2_signOf_43 rfl rfl ?_
          refine r_lmul X dX2_signOf_44 ?_
          refine r_ldc2 X w_393 dX2_signOf_45 ?_
          refine r_lload_n X 1 dX2_signOf_48 rfl rfl ?_
          refine r_lmul X dX2_signOf_49 ?_
          refine r_lload_n X 1 dX2_signOf_50 rfl rfl ?_
          refine r_lmul X dX2_signOf_51 ?_
          refine r_lcmp X dX2_signOf_52 ?_
          refine r_ifle X 60 dX2_signOf_53 (by decide) (fun c12 => ?_) (fun c12 => ?_)
          · replace h := it_t c12 h
            refine r_iconst X 0 dX2_signOf_60 rfl ?_
            refine r_istore X [(4, .int (0 : Int32)), (0, .long p0), (2, .long p1)] dX2_signOf_61 (Nat.le_of_ble_eq_true rfl) rfl ?_
            refine r_lload_n X 1 dX2_signOf_63 rfl rfl ?_
            refine r_lconst X 0 dX2_signOf_64 rfl ?_
            refine r_lcmp X dX2_signOf_65 ?_
            refine r_ifle X 73 dX2_signOf_66 (by decide) (fun c13 => ?_) (fun c13 => ?_)
            · replace h := it_t c13 h
              refine r_iconst X 0 dX2_signOf_73 rfl ?_
              refine r_iload X 0 dX2_signOf_74 rfl ?_
              refine r_icne X 83 dX2_signOf_76 (by decide) (fun c14 => ?_) (fun c14 => ?_)
              · exact absurd c14 (by decide)
              refine r_iconst X 1 dX2_signOf_79 rfl ?_
              refine r_goto X 84 dX2_signOf_80 (by decide) ?_
              exact r_iretE X hr dX2_signOf_84 h
            · replace h := it_f c13 h
              refine r_iconst X 1 dX2_signOf_69 rfl ?_
              refine r_goto X 74 dX2_signOf_70 (by decide) ?_
              refine r_iload X 0 dX2_signOf_74 rfl ?_
              refine r_icne X 83 dX2_signOf_76 (by decide) (fun c15 => ?_) (fun c15 => ?_)
              rotate_left
              · exact absurd c15 (by decide)
              refine r_iconst X (-1) dX2_signOf_83 rfl ?_
              exact r_iretE X hr dX2_signOf_84 h
          · replace h := it_f c12 h
            refine r_iconst X 1 dX2_signOf_56 rfl ?_
            refine r_goto X 61 dX2_signOf_57 (by decide) ?_
            refine r_istore X [(4, .int (1 : Int32)), (0, .long p0), (2, .long p1)] dX2_signOf_61 (Nat.le_of_ble_eq_true rfl) rfl ?_
            refine r_lload_n X 1 dX2_signOf_63 rfl rfl ?_
            refine r_lconst X 0 dX2_signOf_64 rfl ?_
            refine r_lcmp X dX2_signOf_65 ?_
            refine r_ifle X 73 dX2_signOf_66 (by decide) (fun c16 => ?_) (fun c16 => ?_)
            · replace h := it_t c16 h
              refine r_iconst X 0 dX2_signOf_73 rfl ?_
              refine r_iload X 0 dX2_signOf_74 rfl ?_
              refine r_icne X 83 dX2_signOf_76 (by decide) (fun c17 => ?_) (fun c17 => ?_)
              rotate_left
              · exact absurd c17 (by decide)
              refine r_iconst X (-1) dX2_signOf_83 rfl ?_
              exact r_iretE X hr dX2_signOf_84 h
            · replace h := it_f c16 h
              refine r_iconst X 1 dX2_signOf_69 rfl ?_
              refine r_goto X 74 dX2_signOf_70 (by decide) ?_
              refine r_iload X 0 dX2_signOf_74 rfl ?_
              refine r_icne X 83 dX2_signOf_76 (by decide) (fun c18 => ?_) (fun c18 => ?_)
              · exact absurd c18 (by decide)
              refine r_iconst X 1 dX2_signOf_79 rfl ?_
              refine r_goto X 84 dX2_signOf_80 (by decide) ?_
              exact r_iretE X hr dX2_signOf_84 h
        · replace h := it_f c11 h
          refine r_iconst X (-1) dX2_signOf_40 rfl ?_
          exact r_iretE X hr dX2_signOf_41 h
    · replace h := it_f c2 h
      refine r_lload_n X 1 dX2_signOf_20 rfl rfl ?_
      refine r_lconst X 0 dX2_signOf_21 rfl ?_
      refine r_lcmp X dX2_signOf_22 ?_
      refine r_iflt X 28 dX2_signOf_23 (by decide) (fun c19 => ?_) (fun c19 => ?_)
      · replace h := it_t c19 h
        refine r_lload_n X 0 dX2_signOf_28 rfl rfl ?_
        refine r_lconst X 0 dX2_signOf_29 rfl ?_
        refine r_lcmp X dX2_signOf_30 ?_
        refine r_ifgt X 42 dX2_signOf_31 (by decide) (fun c20 => ?_) (fun c20 => ?_)
        · replace h := it_t c20 h
          refine r_lload_n X 0 dX2_signOf_42 rfl rfl ?_
          refine r_lload_n X 0 dX2_signOf_43 rfl rfl ?_
          refine r_lmul X dX2_signOf_44 ?_
          refine r_ldc2 X w_393 dX2_signOf_45 ?_
          refine r_lload_n X 1 dX2_signOf_48 rfl rfl ?_
          refine r_lmul X dX2_signOf_49 ?_
          refine r_lload_n X 1 dX2_signOf_50 rfl rfl ?_
          refine r_lmul X dX2_signOf_51 ?_
          refine r_lcmp X dX2_signOf_52 ?_
          refine r_ifle X 60 dX2_signOf_53 (by decide) (fun c21 => ?_) (fun c21 => ?_)
          · replace h := it_t c21 h
            refine r_iconst X 0 dX2_signOf_60 rfl ?_
            refine r_istore X [(4, .int (0 : Int32)), (0, .long p0), (2, .long p1)] dX2_signOf_61 (Nat.le_of_ble_eq_true rfl) rfl ?_
            refine r_lload_n X 1 dX2_signOf_63 rfl rfl ?_
            refine r_lconst X 0 dX2_signOf_64 rfl ?_
            refine r_lcmp X dX2_signOf_65 ?_
            refine r_ifle X 73 dX2_signOf_66 (by decide) (fun c22 => ?_) (fun c22 => ?_)
            · replace h := it_t c22 h
              refine r_iconst X 0 dX2_signOf_73 rfl ?_
              refine r_iload X 0 dX2_signOf_74 rfl ?_
              refine r_icne X 83 dX2_signOf_76 (by decide) (fun c23 => ?_) (fun c23 => ?_)
              · exact absurd c23 (by decide)
              refine r_iconst X 1 dX2_signOf_79 rfl ?_
              refine r_goto X 84 dX2_signOf_80 (by decide) ?_
              exact r_iretE X hr dX2_signOf_84 h
            · replace h := it_f c22 h
              refine r_iconst X 1 dX2_signOf_69 rfl ?_
              refine r_goto X 74 dX2_signOf_70 (by decide) ?_
              refine r_iload X 0 dX2_signOf_74 rfl ?_
              refine r_icne X 83 dX2_signOf_76 (by decide) (fun c24 => ?_) (fun c24 => ?_)
              rotate_left
              · exact absurd c24 (by decide)
              refine r_iconst X (-1) dX2_signOf_83 rfl ?_
              exact r_iretE X hr dX2_signOf_84 h
          · replace h := it_f c21 h
            refine r_iconst X 1 dX2_signOf_56 rfl ?_
            refine r_goto X 61 dX2_signOf_57 (by decide) ?_
            refine r_istore X [(4, .int (1 : Int32)), (0, .long p0), (2, .long p1)] dX2_signOf_61 (Nat.le_of_ble_eq_true rfl) rfl ?_
            refine r_lload_n X 1 dX2_signOf_63 rfl rfl ?_
            refine r_lconst X 0 dX2_signOf_64 rfl ?_
            refine r_lcmp X dX2_signOf_65 ?_
            refine r_ifle X 73 dX2_signOf_66 (by decide) (fun c25 => ?_) (fun c25 => ?_)
            · replace h := it_t c25 h
              refine r_iconst X 0 dX2_signOf_73 rfl ?_
              refine r_iload X 0 dX2_signOf_74 rfl ?_
              refine r_icne X 83 dX2_signOf_76 (by decide) (fun c26 => ?_) (fun c26 => ?_)
              rotate_left
              · exact absurd c26 (by decide)
              refine r_iconst X (-1) dX2_signOf_83 rfl ?_
              exact r_iretE X hr dX2_signOf_84 h
            · replace h := it_f c25 h
              refine r_iconst X 1 dX2_signOf_69 rfl ?_
              refine r_goto X 74 dX2_signOf_70 (by decide) ?_
              refine r_iload X 0 dX2_signOf_74 rfl ?_
              refine r_icne X 83 dX2_signOf_76 (by decide) (fun c27 => ?_) (fun c27 => ?_)
              · exact absurd c27 (by decide)
              refine r_iconst X 1 dX2_signOf_79 rfl ?_
              refine r_goto X 84 dX2_signOf_80 (by decide) ?_
              exact r_iretE X hr dX2_signOf_84 h
        · replace h := it_f c20 h
          refine r_lload_n X 1 dX2_signOf_34 rfl rfl ?_
          refine r_lconst X 0 dX2_signOf_35 rfl ?_
          refine r_lcmp X dX2_signOf_36 ?_
          refine r_ifgt X 42 dX2_signOf_37 (by decide) (fun c28 => ?_) (fun c28 => ?_)
          · replace h := it_t c28 h
            refine r_lload_n X 0 dX2_signOf_42 rfl rfl ?_
            refine r_lload_n X 0 dX2_signOf_43 rfl rfl ?_
            refine r_lmul X dX2_signOf_44 ?_
            refine r_ldc2 X w_393 dX2_signOf_45 ?_
            refine r_lload_n X 1 dX2_signOf_48 rfl rfl ?_
            refine r_lmul X dX2_signOf_49 ?_
            refine r_lload_n X 1 dX2_signOf_50 rfl rfl ?_
            refine r_lmul X dX2_signOf_51 ?_
            refine r_lcmp X dX2_signOf_52 ?_
            refine r_ifle X 60 dX2_signOf_53 (by decide) (fun c29 => ?_) (fun c29 => ?_)
            · replace h := it_t c29 h
              refine r_iconst X 0 dX2_signOf_60 rfl ?_
              refine r_istore X [(4, .int (0 : Int32)), (0, .long p0), (2, .long p1)] dX2_signOf_61 (Nat.le_of_ble_eq_true rfl) rfl ?_
              refine r_lload_n X 1 dX2_signOf_63 rfl rfl ?_
              refine r_lconst X 0 dX2_signOf_64 rfl ?_
              refine r_lcmp X dX2_signOf_65 ?_
              refine r_ifle X 73 dX2_signOf_66 (by decide) (fun c30 => ?_) (fun c30 => ?_)
              · replace h := it_t c30 h
                refine r_iconst X 0 dX2_signOf_73 rfl ?_
                refine r_iload X 0 dX2_signOf_74 rfl ?_
                refine r_icne X 83 dX2_signOf_76 (by decide) (fun c31 => ?_) (fun c31 => ?_)
                · exact absurd c31 (by decide)
                refine r_iconst X 1 dX2_signOf_79 rfl ?_
                refine r_goto X 84 dX2_signOf_80 (by decide) ?_
                exact r_iretE X hr dX2_signOf_84 h
              · replace h := it_f c30 h
                refine r_iconst X 1 dX2_signOf_69 rfl ?_
                refine r_goto X 74 dX2_signOf_70 (by decide) ?_
                refine r_iload X 0 dX2_signOf_74 rfl ?_
                refine r_icne X 83 dX2_signOf_76 (by decide) (fun c32 => ?_) (fun c32 => ?_)
                rotate_left
                · exact absurd c32 (by decide)
                refine r_iconst X (-1) dX2_signOf_83 rfl ?_
                exact r_iretE X hr dX2_signOf_84 h
            · replace h := it_f c29 h
              refine r_iconst X 1 dX2_signOf_56 rfl ?_
              refine r_goto X 61 dX2_signOf_57 (by decide) ?_
              refine r_istore X [(4, .int (1 : Int32)), (0, .long p0), (2, .long p1)] dX2_signOf_61 (Nat.le_of_ble_eq_true rfl) rfl ?_
              refine r_lload_n X 1 dX2_signOf_63 rfl rfl ?_
              refine r_lconst X 0 dX2_signOf_64 rfl ?_
              refine r_lcmp X dX2_signOf_65 ?_
              refine r_ifle X 73 dX2_signOf_66 (by decide) (fun c33 => ?_) (fun c33 => ?_)
              · replace h := it_t c33 h
                refine r_iconst X 0 dX2_signOf_73 rfl ?_
                refine r_iload X 0 dX2_signOf_74 rfl ?_
                refine r_icne X 83 dX2_signOf_76 (by decide) (fun c34 => ?_) (fun c34 => ?_)
                rotate_left
                · exact absurd c34 (by decide)
                refine r_iconst X (-1) dX2_signOf_83 rfl ?_
                exact r_iretE X hr dX2_signOf_84 h
              · replace h := it_f c33 h
                refine r_iconst X 1 dX2_signOf_69 rfl ?_
                refine r_goto X 74 dX2_signOf_70 (by decide) ?_
                refine r_iload X 0 dX2_signOf_74 rfl ?_
                refine r_icne X 83 dX2_signOf_76 (by decide) (fun c35 => ?_) (fun c35 => ?_)
                · exact absurd c35 (by decide)
                refine r_iconst X 1 dX2_signOf_79 rfl ?_
                refine r_goto X 84 dX2_signOf_80 (by decide) ?_
                exact r_iretE X hr dX2_signOf_84 h
          · replace h := it_f c28 h
            refine r_iconst X (-1) dX2_signOf_40 rfl ?_
            exact r_iretE X hr dX2_signOf_41 h
      · replace h := it_f c19 h
        refine r_iconst X 1 dX2_signOf_26 rfl ?_
        exact r_iretE X hr dX2_signOf_27 h
  · replace h := it_t c1 h
    refine r_lload_n X 1 dX2_signOf_6 rfl rfl ?_
    refine r_lconst X 0 dX2_signOf_7 rfl ?_
    refine r_lcmp X dX2_signOf_8 ?_
    refine r_ifne X 14 dX2_signOf_9 (by decide) (fun c36 => ?_) (fun c36 => ?_)
    · replace h := it_f c36 h
      refine r_lload_n X 0 dX2_signOf_14 rfl rfl ?_
      refine r_lconst X 0 dX2_signOf_15 rfl ?_
      refine r_lcmp X dX2_signOf_16 ?_
      refine r_iflt X 28 dX2_signOf_17 (by decide) (fun c37 => ?_) (fun c37 => ?_)
      · replace h := it_t c37 h
        refine r_lload_n X 0 dX2_signOf_28 rfl rfl ?_
        refine r_lconst X 0 dX2_signOf_29 rfl ?_
        refine r_lcmp X dX2_signOf_30 ?_
        refine r_ifgt X 42 dX2_signOf_31 (by decide) (fun c38 => ?_) (fun c38 => ?_)
        · replace h := it_t c38 h
          refine r_lload_n X 0 dX2_signOf_42 rfl rfl ?_
          refine r_lload_n X 0 dX2_signOf_43 rfl rfl ?_
          refine r_lmul X dX2_signOf_44 ?_
          refine r_ldc2 X w_393 dX2_signOf_45 ?_
          refine r_lload_n X 1 dX2_signOf_48 rfl rfl ?_
          refine r_lmul X dX2_signOf_49 ?_
          refine r_lload_n X 1 dX2_signOf_50 rfl rfl ?_
          refine r_lmul X dX2_signOf_51 ?_
          refine r_lcmp X dX2_signOf_52 ?_
          refine r_ifle X 60 dX2_signOf_53 (by decide) (fun c39 => ?_) (fun c39 => ?_)
          · replace h := it_t c39 h
            refine r_iconst X 0 dX2_signOf_60 rfl ?_
            refine r_istore X [(4, .int (0 : Int32)), (0, .long p0), (2, .long p1)] dX2_signOf_61 (Nat.le_of_ble_eq_true rfl) rfl ?_
            refine r_lload_n X 1 dX2_signOf_63 rfl rfl ?_
            refine r_lconst X 0 dX2_signOf_64 rfl ?_
            refine r_lcmp X dX2_signOf_65 ?_
            refine r_ifle X 73 dX2_signOf_66 (by decide) (fun c40 => ?_) (fun c40 => ?_)
            · replace h := it_t c40 h
              refine r_iconst X 0 dX2_signOf_73 rfl ?_
              refine r_iload X 0 dX2_signOf_74 rfl ?_
              refine r_icne X 83 dX2_signOf_76 (by decide) (fun c41 => ?_) (fun c41 => ?_)
              · exact absurd c41 (by decide)
              refine r_iconst X 1 dX2_signOf_79 rfl ?_
              refine r_goto X 84 dX2_signOf_80 (by decide) ?_
              exact r_iretE X hr dX2_signOf_84 h
            · replace h := it_f c40 h
              refine r_iconst X 1 dX2_signOf_69 rfl ?_
              refine r_goto X 74 dX2_signOf_70 (by decide) ?_
              refine r_iload X 0 dX2_signOf_74 rfl ?_
              refine r_icne X 83 dX2_signOf_76 (by decide) (fun c42 => ?_) (fun c42 => ?_)
              rotate_left
              · exact absurd c42 (by decide)
              refine r_iconst X (-1) dX2_signOf_83 rfl ?_
              exact r_iretE X hr dX2_signOf_84 h
          · replace h := it_f c39 h
            refine r_iconst X 1 dX2_signOf_56 rfl ?_
            refine r_goto X 61 dX2_signOf_57 (by decide) ?_
            refine r_istore X [(4, .int (1 : Int32)), (0, .long p0), (2, .long p1)] dX2_signOf_61 (Nat.le_of_ble_eq_true rfl) rfl ?_
            refine r_lload_n X 1 dX2_signOf_63 rfl rfl ?_
            refine r_lconst X 0 dX2_signOf_64 rfl ?_
            refine r_lcmp X dX2_signOf_65 ?_
            refine r_ifle X 73 dX2_signOf_66 (by decide) (fun c43 => ?_) (fun c43 => ?_)
            · replace h := it_t c43 h
              refine r_iconst X 0 dX2_signOf_73 rfl ?_
              refine r_iload X 0 dX2_signOf_74 rfl ?_
              refine r_icne X 83 dX2_signOf_76 (by decide) (fun c44 => ?_) (fun c44 => ?_)
              rotate_left
              · exact absurd c44 (by decide)
              refine r_iconst X (-1) dX2_signOf_83 rfl ?_
              exact r_iretE X hr dX2_signOf_84 h
            · replace h := it_f c43 h
              refine r_iconst X 1 dX2_signOf_69 rfl ?_
              refine r_goto X 74 dX2_signOf_70 (by decide) ?_
              refine r_iload X 0 dX2_signOf_74 rfl ?_
              refine r_icne X 83 dX2_signOf_76 (by decide) (fun c45 => ?_) (fun c45 => ?_)
              · exact absurd c45 (by decide)
              refine r_iconst X 1 dX2_signOf_79 rfl ?_
              refine r_goto X 84 dX2_signOf_80 (by decide) ?_
              exact r_iretE X hr dX2_signOf_84 h
        · replace h := it_f c38 h
          refine r_lload_n X 1 dX2_signOf_34 rfl rfl ?_
          refine r_lconst X 0 dX2_signOf_35 rfl ?_
          refine r_lcmp X dX2_signOf_36 ?_
          refine r_ifgt X 42 dX2_signOf_37 (by decide) (fun c46 => ?_) (fun c46 => ?_)
          · replace h := it_t c46 h
            refine r_lload_n X 0 dX2_signOf_42 rfl rfl ?_
            refine r_lload_n X 0 dX2_signOf_43 rfl rfl ?_
            refine r_lmul X dX2_signOf_44 ?_
            refine r_ldc2 X w_393 dX2_signOf_45 ?_
            refine r_lload_n X 1 dX2_signOf_48 rfl rfl ?_
            refine r_lmul X dX2_signOf_49 ?_
            refine r_lload_n X 1 dX2_signOf_50 rfl rfl ?_
            refine r_lmul X dX2_signOf_51 ?_
            refine r_lcmp X dX2_signOf_52 ?_
            refine r_ifle X 60 dX2_signOf_53 (by decide) (fun c47 => ?_) (fun c47 => ?_)
            · replace h := it_t c47 h
              refine r_iconst X 0 dX2_signOf_60 rfl ?_
              refine r_istore X [(4, .int (0 : Int32)), (0, .long p0), (2, .long p1)] dX2_signOf_61 (Nat.le_of_ble_eq_true rfl) rfl ?_
              refine r_lload_n X 1 dX2_signOf_63 rfl rfl ?_
              refine r_lconst X 0 dX2_signOf_64 rfl ?_
              refine r_lcmp X dX2_signOf_65 ?_
              refine r_ifle X 73 dX2_signOf_66 (by decide) (fun c48 => ?_) (fun c48 => ?_)
              · replace h := it_t c48 h
                refine r_iconst X 0 dX2_signOf_73 rfl ?_
                refine r_iload X 0 dX2_signOf_74 rfl ?_
                refine r_icne X 83 dX2_signOf_76 (by decide) (fun c49 => ?_) (fun c49 => ?_)
                · exact absurd c49 (by decide)
                refine r_iconst X 1 dX2_signOf_79 rfl ?_
                refine r_goto X 84 dX2_signOf_80 (by decide) ?_
                exact r_iretE X hr dX2_signOf_84 h
              · replace h := it_f c48 h
                refine r_iconst X 1 dX2_signOf_69 rfl ?_
                refine r_goto X 74 dX2_signOf_70 (by decide) ?_
                refine r_iload X 0 dX2_signOf_74 rfl ?_
                refine r_icne X 83 dX2_signOf_76 (by decide) (fun c50 => ?_) (fun c50 => ?_)
                rotate_left
                · exact absurd c50 (by decide)
                refine r_iconst X (-1) dX2_signOf_83 rfl ?_
                exact r_iretE X hr dX2_signOf_84 h
            · replace h := it_f c47 h
              refine r_iconst X 1 dX2_signOf_56 rfl ?_
              refine r_goto X 61 dX2_signOf_57 (by decide) ?_
              refine r_istore X [(4, .int (1 : Int32)), (0, .long p0), (2, .long p1)] dX2_signOf_61 (Nat.le_of_ble_eq_true rfl) rfl ?_
              refine r_lload_n X 1 dX2_signOf_63 rfl rfl ?_
              refine r_lconst X 0 dX2_signOf_64 rfl ?_
              refine r_lcmp X dX2_signOf_65 ?_
              refine r_ifle X 73 dX2_signOf_66 (by decide) (fun c51 => ?_) (fun c51 => ?_)
              · replace h := it_t c51 h
                refine r_iconst X 0 dX2_signOf_73 rfl ?_
                refine r_iload X 0 dX2_signOf_74 rfl ?_
                refine r_icne X 83 dX2_signOf_76 (by decide) (fun c52 => ?_) (fun c52 => ?_)
                rotate_left
                · exact absurd c52 (by decide)
                refine r_iconst X (-1) dX2_signOf_83 rfl ?_
                exact r_iretE X hr dX2_signOf_84 h
              · replace h := it_f c51 h
                refine r_iconst X 1 dX2_signOf_69 rfl ?_
                refine r_goto X 74 dX2_signOf_70 (by decide) ?_
                refine r_iload X 0 dX2_signOf_74 rfl ?_
                refine r_icne X 83 dX2_signOf_76 (by decide) (fun c53 => ?_) (fun c53 => ?_)
                · exact absurd c53 (by decide)
                refine r_iconst X 1 dX2_signOf_79 rfl ?_
                refine r_goto X 84 dX2_signOf_80 (by decide) ?_
                exact r_iretE X hr dX2_signOf_84 h
          · replace h := it_f c46 h
            refine r_iconst X (-1) dX2_signOf_40 rfl ?_
            exact r_iretE X hr dX2_signOf_41 h
      · replace h := it_f c37 h
        refine r_lload_n X 1 dX2_signOf_20 rfl rfl ?_
        refine r_lconst X 0 dX2_signOf_21 rfl ?_
        refine r_lcmp X dX2_signOf_22 ?_
        refine r_iflt X 28 dX2_signOf_23 (by decide) (fun c54 => ?_) (fun c54 => ?_)
        · replace h := it_t c54 h
          refine r_lload_n X 0 dX2_signOf_28 rfl rfl ?_
          refine r_lconst X 0 dX2_signOf_29 rfl ?_
          refine r_lcmp X dX2_signOf_30 ?_
          refine r_ifgt X 42 dX2_signOf_31 (by decide) (fun c55 => ?_) (fun c55 => ?_)
          · replace h := it_t c55 h
            refine r_lload_n X 0 dX2_signOf_42 rfl rfl ?_
            refine r_lload_n X 0 dX2_signOf_43 rfl rfl ?_
            refine r_lmul X dX2_signOf_44 ?_
            refine r_ldc2 X w_393 dX2_signOf_45 ?_
            refine r_lload_n X 1 dX2_signOf_48 rfl rfl ?_
            refine r_lmul X dX2_signOf_49 ?_
            refine r_lload_n X 1 dX2_signOf_50 rfl rfl ?_
            refine r_lmul X dX2_signOf_51 ?_
            refine r_lcmp X dX2_signOf_52 ?_
            refine r_ifle X 60 dX2_signOf_53 (by decide) (fun c56 => ?_) (fun c56 => ?_)
            · replace h := it_t c56 h
              refine r_iconst X 0 dX2_signOf_60 rfl ?_
              refine r_istore X [(4, .int (0 : Int32)), (0, .long p0), (2, .long p1)] dX2_signOf_61 (Nat.le_of_ble_eq_true rfl) rfl ?_
              refine r_lload_n X 1 dX2_signOf_63 rfl rfl ?_
              refine r_lconst X 0 dX2_signOf_64 rfl ?_
              refine r_lcmp X dX2_signOf_65 ?_
              refine r_ifle X 73 dX2_signOf_66 (by decide) (fun c57 => ?_) (fun c57 => ?_)
              · replace h := it_t c57 h
                refine r_iconst X 0 dX2_signOf_73 rfl ?_
                refine r_iload X 0 dX2_signOf_74 rfl ?_
                refine r_icne X 83 dX2_signOf_76 (by decide) (fun c58 => ?_) (fun c58 => ?_)
                · exact absurd c58 (by decide)
                refine r_iconst X 1 dX2_signOf_79 rfl ?_
                refine r_goto X 84 dX2_signOf_80 (by decide) ?_
                exact r_iretE X hr dX2_signOf_84 h
              · replace h := it_f c57 h
                refine r_iconst X 1 dX2_signOf_69 rfl ?_
                refine r_goto X 74 dX2_signOf_70 (by decide) ?_
                refine r_iload X 0 dX2_signOf_74 rfl ?_
                refine r_icne X 83 dX2_signOf_76 (by decide) (fun c59 => ?_) (fun c59 => ?_)
                rotate_left
                · exact absurd c59 (by decide)
                refine r_iconst X (-1) dX2_signOf_83 rfl ?_
                exact r_iretE X hr dX2_signOf_84 h
            · replace h := it_f c56 h
              refine r_iconst X 1 dX2_signOf_56 rfl ?_
              refine r_goto X 61 dX2_signOf_57 (by decide) ?_
              refine r_istore X [(4, .int (1 : Int32)), (0, .long p0), (2, .long p1)] dX2_signOf_61 (Nat.le_of_ble_eq_true rfl) rfl ?_
              refine r_lload_n X 1 dX2_signOf_63 rfl rfl ?_
              refine r_lconst X 0 dX2_signOf_64 rfl ?_
              refine r_lcmp X dX2_signOf_65 ?_
              refine r_ifle X 73 dX2_signOf_66 (by decide) (fun c60 => ?_) (fun c60 => ?_)
              · replace h := it_t c60 h
                refine r_iconst X 0 dX2_signOf_73 rfl ?_
                refine r_iload X 0 dX2_signOf_74 rfl ?_
                refine r_icne X 83 dX2_signOf_76 (by decide) (fun c61 => ?_) (fun c61 => ?_)
                rotate_left
                · exact absurd c61 (by decide)
                refine r_iconst X (-1) dX2_signOf_83 rfl ?_
                exact r_iretE X hr dX2_signOf_84 h
              · replace h := it_f c60 h
                refine r_iconst X 1 dX2_signOf_69 rfl ?_
                refine r_goto X 74 dX2_signOf_70 (by decide) ?_
                refine r_iload X 0 dX2_signOf_74 rfl ?_
                refine r_icne X 83 dX2_signOf_76 (by decide) (fun c62 => ?_) (fun c62 => ?_)
                · exact absurd c62 (by decide)
                refine r_iconst X 1 dX2_signOf_79 rfl ?_
                refine r_goto X 84 dX2_signOf_80 (by decide) ?_
                exact r_iretE X hr dX2_signOf_84 h
          · replace h := it_f c55 h
            refine r_lload_n X 1 dX2_signOf_34 rfl rfl ?_
            refine r_lconst X 0 dX2_signOf_35 rfl ?_
            refine r_lcmp X dX2_signOf_36 ?_
            refine r_ifgt X 42 dX2_signOf_37 (by decide) (fun c63 => ?_) (fun c63 => ?_)
            · replace h := it_t c63 h
              refine r_lload_n X 0 dX2_signOf_42 rfl rfl ?_
              refine r_lload_n X 0 dX2_signOf_43 rfl rfl ?_
              refine r_lmul X dX2_signOf_44 ?_
              refine r_ldc2 X w_393 dX2_signOf_45 ?_
              refine r_lload_n X 1 dX2_signOf_48 rfl rfl ?_
              refine r_lmul X dX2_signOf_49 ?_
              refine r_lload_n X 1 dX2_signOf_50 rfl rfl ?_
              refine r_lmul X dX2_signOf_51 ?_
              refine r_lcmp X dX2_signOf_52 ?_
              refine r_ifle X 60 dX2_signOf_53 (by decide) (fun c64 => ?_) (fun c64 => ?_)
              · replace h := it_t c64 h
                refine r_iconst X 0 dX2_signOf_60 rfl ?_
                refine r_istore X [(4, .int (0 : Int32)), (0, .long p0), (2, .long p1)] dX2_signOf_61 (Nat.le_of_ble_eq_true rfl) rfl ?_
                refine r_lload_n X 1 dX2_signOf_63 rfl rfl ?_
                refine r_lconst X 0 dX2_signOf_64 rfl ?_
                refine r_lcmp X dX2_signOf_65 ?_
                refine r_ifle X 73 dX2_signOf_66 (by decide) (fun c65 => ?_) (fun c65 => ?_)
                · replace h := it_t c65 h
                  refine r_iconst X 0 dX2_signOf_73 rfl ?_
                  refine r_iload X 0 dX2_signOf_74 rfl ?_
                  refine r_icne X 83 dX2_signOf_76 (by decide) (fun c66 => ?_) (fun c66 => ?_)
                  · exact absurd c66 (by decide)
                  refine r_iconst X 1 dX2_signOf_79 rfl ?_
                  refine r_goto X 84 dX2_signOf_80 (by decide) ?_
                  exact r_iretE X hr dX2_signOf_84 h
                · replace h := it_f c65 h
                  refine r_iconst X 1 dX2_signOf_69 rfl ?_
                  refine r_goto X 74 dX2_signOf_70 (by decide) ?_
                  refine r_iload X 0 dX2_signOf_74 rfl ?_
                  refine r_icne X 83 dX2_signOf_76 (by decide) (fun c67 => ?_) (fun c67 => ?_)
                  rotate_left
                  · exact absurd c67 (by decide)
                  refine r_iconst X (-1) dX2_signOf_83 rfl ?_
                  exact r_iretE X hr dX2_signOf_84 h
              · replace h := it_f c64 h
                refine r_iconst X 1 dX2_signOf_56 rfl ?_
                refine r_goto X 61 dX2_signOf_57 (by decide) ?_
                refine r_istore X [(4, .int (1 : Int32)), (0, .long p0), (2, .long p1)] dX2_signOf_61 (Nat.le_of_ble_eq_true rfl) rfl ?_
                refine r_lload_n X 1 dX2_signOf_63 rfl rfl ?_
                refine r_lconst X 0 dX2_signOf_64 rfl ?_
                refine r_lcmp X dX2_signOf_65 ?_
                refine r_ifle X 73 dX2_signOf_66 (by decide) (fun c68 => ?_) (fun c68 => ?_)
                · replace h := it_t c68 h
                  refine r_iconst X 0 dX2_signOf_73 rfl ?_
                  refine r_iload X 0 dX2_signOf_74 rfl ?_
                  refine r_icne X 83 dX2_signOf_76 (by decide) (fun c69 => ?_) (fun c69 => ?_)
                  rotate_left
                  · exact absurd c69 (by decide)
                  refine r_iconst X (-1) dX2_signOf_83 rfl ?_
                  exact r_iretE X hr dX2_signOf_84 h
                · replace h := it_f c68 h
                  refine r_iconst X 1 dX2_signOf_69 rfl ?_
                  refine r_goto X 74 dX2_signOf_70 (by decide) ?_
                  refine r_iload X 0 dX2_signOf_74 rfl ?_
                  refine r_icne X 83 dX2_signOf_76 (by decide) (fun c70 => ?_) (fun c70 => ?_)
                  · exact absurd c70 (by decide)
                  refine r_iconst X 1 dX2_signOf_79 rfl ?_
                  refine r_goto X 84 dX2_signOf_80 (by decide) ?_
                  exact r_iretE X hr dX2_signOf_84 h
            · replace h := it_f c63 h
              refine r_iconst X (-1) dX2_signOf_40 rfl ?_
              exact r_iretE X hr dX2_signOf_41 h
        · replace h := it_f c54 h
          refine r_iconst X 1 dX2_signOf_26 rfl ?_
          exact r_iretE X hr dX2_signOf_27 h
    · replace h := it_t c36 h
      refine r_iconst X 0 dX2_signOf_12 rfl ?_
      exact r_iretE X hr dX2_signOf_13 h
def f_X6_sign (N : Nat) (M : Mem) (p0 : Int32) (p1 : Int32) : Option (Int32 × Mem) :=
  if p0 < (-1000000 : Int32) then
    (bd2 (f_X6_refuse N M (-3 : Int32)) fun r3 M2 =>
    some (r3, M2))
  else
    (if (1000000 : Int32) < p0 then
      (bd2 (f_X6_refuse N M (-3 : Int32)) fun r7 M6 =>
      some (r7, M6))
    else
      (if p1 < (-1000000 : Int32) then
        (bd2 (f_X6_refuse N M (-3 : Int32)) fun r11 M10 =>
        some (r11, M10))
      else
        (if p1 ≤ (1000000 : Int32) then
          (bd2 (f_X2_signOf N M (Int32.toInt64 p0) (Int32.toInt64 p1)) fun r15 M14 =>
          some (r15, M14))
        else
          (bd2 (f_X6_refuse N M (-3 : Int32)) fun r18 M17 =>
          some (r18, M17)))))
set_option maxRecDepth 100000 in
set_option maxHeartbeats 4000000 in
theorem k_X6_sign (l : Launch) (N : Nat) (nc : Nat) (hnc : 34 ≤ nc) (M : Mem) (p0 : Int32) (p1 : Int32) (r : Int32) (M' : Mem) (h : f_X6_sign N M p0 p1 = some (r, M')) (d : Nat) (hd : 2 ≤ d) : Ct l d yX6_sign cX6_sign 3 (some .int) shp nc [.ref 0, .int p0, .int p1] M (some (.int r)) M' := by
  obtain ⟨d, rfl⟩ : ∃ q, d = q + 1 := ⟨d - 1, by omega⟩
  unfold f_X6_sign at h
  refine Ct.of (by decide +kernel) (Nat.le_of_ble_eq_true rfl) ?_
  intro p e s m args below meth c A ad D cI cJ X hr
  refine r_sub (ls' := [(0, .ref 0), (1, .int p0), (2, .int p1)]) [0, 1, 2] rfl ?_
  refine r_iload_n X 1 dX6_sign_0 rfl rfl ?_
  refine r_ldc X w_388 dX6_sign_1 ?_
  refine r_iclt X 24 dX6_sign_3 (by decide) (fun c1 => ?_) (fun c1 => ?_)
  · replace h := it_t c1 h
    refine r_aload_n X 0 dX6_sign_24 rfl rfl ?_
    refine r_bipush X (-3) dX6_sign_25 rfl ?_
    obtain ⟨r3, M2, h4, h⟩ := bd2_ex h
    refine r_callV X (st := []) (av := [.int (-3 : Int32)]) (k := 0) (ci := 5) (k_X6_refuse l N _ hnc _ _ _ _ h4 d (by omega)) (fitR_s (Nat.le_of_ble_eq_true rfl)) ⟨Nat.le_refl 0, Nat.le_refl 0⟩ rfl (ltn hnc rfl) rfl w_284 w_39 w_283 w_1 w_281 hy_X6_refuse rfl (Nat.le_of_ble_eq_true rfl) dX6_sign_27 ?_
    exact r_iretE X hr dX6_sign_30 h
  · replace h := it_f c1 h
    refine r_iload_n X 1 dX6_sign_6 rfl rfl ?_
    refine r_ldc X w_389 dX6_sign_7 ?_
    refine r_icgt X 24 dX6_sign_9 (by decide) (fun c5 => ?_) (fun c5 => ?_)
    · replace h := it_t c5 h
      refine r_aload_n X 0 dX6_sign_24 rfl rfl ?_
      refine r_bipush X (-3) dX6_sign_25 rfl ?_
      obtain ⟨r7, M6, h8, h⟩ := bd2_ex h
      refine r_callV X (st := []) (av := [.int (-3 : Int32)]) (k := 0) (ci := 5) (k_X6_refuse l N _ hnc _ _ _ _ h8 d (by omega)) (fitR_s (Nat.le_of_ble_eq_true rfl)) ⟨Nat.le_refl 0, Nat.le_refl 0⟩ rfl (ltn hnc rfl) rfl w_284 w_39 w_283 w_1 w_281 hy_X6_refuse rfl (Nat.le_of_ble_eq_true rfl) dX6_sign_27 ?_
      exact r_iretE X hr dX6_sign_30 h
    · replace h := it_f c5 h
      refine r_iload_n X 2 dX6_sign_12 rfl rfl ?_
      refine r_ldc X w_388 dX6_sign_13 ?_
      refine r_iclt X 24 dX6_sign_15 (by decide) (fun c9 => ?_) (fun c9 => ?_)
      · replace h := it_t c9 h
        refine r_aload_n X 0 dX6_sign_24 rfl rfl ?_
        refine r_bipush X (-3) dX6_sign_25 rfl ?_
        obtain ⟨r11, M10, h12, h⟩ := bd2_ex h
        refine r_callV X (st := []) (av := [.int (-3 : Int32)]) (k := 0) (ci := 5) (k_X6_refuse l N _ hnc _ _ _ _ h12 d (by omega)) (fitR_s (Nat.le_of_ble_eq_true rfl)) ⟨Nat.le_refl 0, Nat.le_refl 0⟩ rfl (ltn hnc rfl) rfl w_284 w_39 w_283 w_1 w_281 hy_X6_refuse rfl (Nat.le_of_ble_eq_true rfl) dX6_sign_27 ?_
        exact r_iretE X hr dX6_sign_30 h
      · replace h := it_f c9 h
        refine r_iload_n X 2 dX6_sign_18 rfl rfl ?_
        refine r_ldc X w_389 dX6_sign_19 ?_
        refine r_icle X 31 dX6_sign_21 (by decide) (fun c13 => ?_) (fun c13 => ?_)
        · replace h := it_t c13 h
          refine r_iload_n X 1 dX6_sign_31 rfl rfl ?_
          refine r_i2l X dX6_sign_32 ?_
          refine r_iload_n X 2 dX6_sign_33 rfl rfl ?_
          refine r_i2l X dX6_sign_34 ?_
          obtain ⟨r15, M14, h16, h⟩ := bd2_ex h
          refine r_callS X (st := []) (av := [.long (Int32.toInt64 p0), .long (Int32.toInt64 p1)]) (k_X2_signOf l N _ hnc _ _ _ _ _ h16 d (by omega)) (fitR_s (Nat.le_of_ble_eq_true rfl)) ⟨Nat.le_refl 0, Nat.le_refl 0⟩ w_392 w_46 w_391 w_390 hy_X2_signOf rfl (Nat.le_of_ble_eq_true rfl) dX6_sign_35 ?_
          exact r_iretE X hr dX6_sign_38 h
        · replace h := it_f c13 h
          refine r_aload_n X 0 dX6_sign_24 rfl rfl ?_
          refine r_bipush X (-3) dX6_sign_25 rfl ?_
          obtain ⟨r18, M17, h19, h⟩ := bd2_ex h
          refine r_callV X (st := []) (av := [.int (-3 : Int32)]) (k := 0) (ci := 5) (k_X6_refuse l N _ hnc _ _ _ _ h19 d (by omega)) (fitR_s (Nat.le_of_ble_eq_true rfl)) ⟨Nat.le_refl 0, Nat.le_refl 0⟩ rfl (ltn hnc rfl) rfl w_284 w_39 w_283 w_1 w_281 hy_X6_refuse rfl (Nat.le_of_ble_eq_true rfl) dX6_sign_27 ?_
          exact r_iretE X hr dX6_sign_30 h
def f_X7_isPart (N : Nat) (M : Mem) (p0 : Int32) : Option (Int32 × Mem) :=
  if p0 < (-1000000 : Int32) then
    (some ((0 : Int32), M))
  else
    (if (1000000 : Int32) < p0 then
      (some ((0 : Int32), M))
    else
      (some ((1 : Int32), M)))
set_option maxRecDepth 100000 in
set_option maxHeartbeats 4000000 in
theorem k_X7_isPart (l : Launch) (N : Nat) (nc : Nat) (hnc : 45 ≤ nc) (M : Mem) (p0 : Int32) (r : Int32) (M' : Mem) (h : f_X7_isPart N M p0 = some (r, M')) (d : Nat) (hd : 0 ≤ d) : Ct l d yX7_isPart cX7_isPart 1 (some .boolean) shp nc [.int p0] M (some (.int r)) M' := by
  unfold f_X7_isPart at h
  refine Ct.of (by decide +kernel) (Nat.le_of_ble_eq_true rfl) ?_
  intro p e s m args below meth c A ad D cI cJ X hr
  refine r_sub (ls' := [(0, .int p0)]) [0] rfl ?_
  refine r_iload_n X 0 dX7_isPart_0 rfl rfl ?_
  refine r_ldc X w_766 dX7_isPart_1 ?_
  refine r_iclt X 16 dX7_isPart_3 (by decide) (fun c1 => ?_) (fun c1 => ?_)
  · replace h := it_t c1 h
    refine r_iconst X 0 dX7_isPart_16 rfl ?_
    exact r_zretE X hr rfl dX7_isPart_17 h
  · replace h := it_f c1 h
    refine r_iload_n X 0 dX7_isPart_6 rfl rfl ?_
    refine r_ldc X w_767 dX7_isPart_7 ?_
    refine r_icgt X 16 dX7_isPart_9 (by decide) (fun c2 => ?_) (fun c2 => ?_)
    · replace h := it_t c2 h
      refine r_iconst X 0 dX7_isPart_16 rfl ?_
      exact r_zretE X hr rfl dX7_isPart_17 h
    · replace h := it_f c2 h
      refine r_iconst X 1 dX7_isPart_12 rfl ?_
      refine r_goto X 17 dX7_isPart_13 (by decide) ?_
      exact r_zretE X hr rfl dX7_isPart_17 h
def f_X7_signOf (N : Nat) (M : Mem) (p0 : Int64) (p1 : Int64) : Option (Int32 × Mem) :=
  if (lg_cmp p0 (0 : Int64)) = 0 then
    (if (lg_cmp p1 (0 : Int64)) = 0 then
      (some ((0 : Int32), M))
    else
      (if (lg_cmp p0 (0 : Int64)) < 0 then
        (if 0 < (lg_cmp p0 (0 : Int64)) then
          (if (lg_cmp (p0 * p0) (((2 : Int64) * p1) * p1)) ≤ 0 then
            (if (lg_cmp p0 (0 : Int64)) ≤ 0 then
              (some ((1 : Int32), M))
            else
              (some ((-1 : Int32), M)))
          else
            (if (lg_cmp p0 (0 : Int64)) ≤ 0 then
              (some ((-1 : Int32), M))
            else
              (some ((1 : Int32), M))))
        else
          (if 0 < (lg_cmp p1 (0 : Int64)) then
            (if (lg_cmp (p0 * p0) (((2 : Int64) * p1) * p1)) ≤ 0 then
              (if (lg_cmp p0 (0 : Int64)) ≤ 0 then
                (some ((1 : Int32), M))
              else
                (some ((-1 : Int32), M)))
            else
              (if (lg_cmp p0 (0 : Int64)) ≤ 0 then
                (some ((-1 : Int32), M))
              else
                (some ((1 : Int32), M))))
          else
            (some ((-1 : Int32), M))))
      else
        (if (lg_cmp p1 (0 : Int64)) < 0 then
          (if 0 < (lg_cmp p0 (0 : Int64)) then
            (if (lg_cmp (p0 * p0) (((2 : Int64) * p1) * p1)) ≤ 0 then
              (if (lg_cmp p0 (0 : Int64)) ≤ 0 then
                (some ((1 : Int32), M))
              else
                (some ((-1 : Int32), M)))
            else
              (if (lg_cmp p0 (0 : Int64)) ≤ 0 then
                (some ((-1 : Int32), M))
              else
                (some ((1 : Int32), M))))
          else
            (if 0 < (lg_cmp p1 (0 : Int64)) then
              (if (lg_cmp (p0 * p0) (((2 : Int64) * p1) * p1)) ≤ 0 then
                (if (lg_cmp p0 (0 : Int64)) ≤ 0 then
                  (some ((1 : Int32), M))
                else
                  (some ((-1 : Int32), M)))
              else
                (if (lg_cmp p0 (0 : Int64)) ≤ 0 then
                  (some ((-1 : Int32), M))
                else
                  (some ((1 : Int32), M))))
            else
              (some ((-1 : Int32), M))))
        else
          (some ((1 : Int32), M)))))
  else
    (if (lg_cmp p0 (0 : Int64)) < 0 then
      (if 0 < (lg_cmp p0 (0 : Int64)) then
        (if (lg_cmp (p0 * p0) (((2 : Int64) * p1) * p1)) ≤ 0 then
          (if (lg_cmp p0 (0 : Int64)) ≤ 0 then
            (some ((1 : Int32), M))
          else
            (some ((-1 : Int32), M)))
        else
          (if (lg_cmp p0 (0 : Int64)) ≤ 0 then
            (some ((-1 : Int32), M))
          else
            (some ((1 : Int32), M))))
      else
        (if 0 < (lg_cmp p1 (0 : Int64)) then
          (if (lg_cmp (p0 * p0) (((2 : Int64) * p1) * p1)) ≤ 0 then
            (if (lg_cmp p0 (0 : Int64)) ≤ 0 then
              (some ((1 : Int32), M))
            else
              (some ((-1 : Int32), M)))
          else
            (if (lg_cmp p0 (0 : Int64)) ≤ 0 then
              (some ((-1 : Int32), M))
            else
              (some ((1 : Int32), M))))
        else
          (some ((-1 : Int32), M))))
    else
      (if (lg_cmp p1 (0 : Int64)) < 0 then
        (if 0 < (lg_cmp p0 (0 : Int64)) then
          (if (lg_cmp (p0 * p0) (((2 : Int64) * p1) * p1)) ≤ 0 then
            (if (lg_cmp p0 (0 : Int64)) ≤ 0 then
              (some ((1 : Int32), M))
            else
              (some ((-1 : Int32), M)))
          else
            (if (lg_cmp p0 (0 : Int64)) ≤ 0 then
              (some ((-1 : Int32), M))
            else
              (some ((1 : Int32), M))))
        else
          (if 0 < (lg_cmp p1 (0 : Int64)) then
            (if (lg_cmp (p0 * p0) (((2 : Int64) * p1) * p1)) ≤ 0 then
              (if (lg_cmp p0 (0 : Int64)) ≤ 0 then
                (some ((1 : Int32), M))
              else
                (some ((-1 : Int32), M)))
            else
              (if (lg_cmp p0 (0 : Int64)) ≤ 0 then
                (some ((-1 : Int32), M))
              else
                (some ((1 : Int32), M))))
          else
            (some ((-1 : Int32), M))))
      else
        (some ((1 : Int32), M))))
set_option maxRecDepth 100000 in
set_option maxHeartbeats 4000000 in
theorem k_X7_signOf (l : Launch) (N : Nat) (nc : Nat) (hnc : 45 ≤ nc) (M : Mem) (p0 : Int64) (p1 : Int64) (r : Int32) (M' : Mem) (h : f_X7_signOf N M p0 p1 = some (r, M')) (d : Nat) (hd : 0 ≤ d) : Ct l d yX7_signOf cX7_signOf 5 (some .int) shp nc [.long p0, .long p1] M (some (.int r)) M' := by
  unfold f_X7_signOf at h
  refine Ct.of (by decide +kernel) (Nat.le_of_ble_eq_true rfl) ?_
  intro p e s m args below meth c A ad D cI cJ X hr
  refine r_sub (ls' := [(0, .long p0), (2, .long p1)]) [0, 1] rfl ?_
  refine r_lload_n X 0 dX7_signOf_0 rfl rfl ?_
  refine r_lconst X 0 dX7_signOf_1 rfl ?_
  refine r_lcmp X dX7_signOf_2 ?_
  refine r_ifne X 14 dX7_signOf_3 (by decide) (fun c1 => ?_) (fun c1 => ?_)
  · replace h := it_f c1 h
    refine r_lload_n X 0 dX7_signOf_14 rfl rfl ?_
    refine r_lconst X 0 dX7_signOf_15 rfl ?_
    refine r_lcmp X dX7_signOf_16 ?_
    refine r_iflt X 28 dX7_signOf_17 (by decide) (fun c2 => ?_) (fun c2 => ?_)
    · replace h := it_t c2 h
      refine r_lload_n X 0 dX7_signOf_28 rfl rfl ?_
      refine r_lconst X 0 dX7_signOf_29 rfl ?_
      refine r_lcmp X dX7_signOf_30 ?_
      refine r_ifgt X 42 dX7_signOf_31 (by decide) (fun c3 => ?_) (fun c3 => ?_)
      · replace h := it_t c3 h
        refine r_lload_n X 0 dX7_signOf_42 rfl rfl ?_
        refine r_lload_n X 0 dX7_signOf_43 rfl rfl ?_
        refine r_lmul X dX7_signOf_44 ?_
        refine r_ldc2 X w_771 dX7_signOf_45 ?_
        refine r_lload_n X 1 dX7_signOf_48 rfl rfl ?_
        refine r_lmul X dX7_signOf_49 ?_
        refine r_lload_n X 1 dX7_signOf_50 rfl rfl ?_
        refine r_lmul X dX7_signOf_51 ?_
        refine r_lcmp X dX7_signOf_52 ?_
        refine r_ifle X 60 dX7_signOf_53 (by decide) (fun c4 => ?_) (fun c4 => ?_)
        · replace h := it_t c4 h
          refine r_iconst X 0 dX7_signOf_60 rfl ?_
          refine r_istore X [(4, .int (0 : Int32)), (0, .long p0), (2, .long p1)] dX7_signOf_61 (Nat.le_of_ble_eq_true rfl) rfl ?_
          refine r_iload X 0 dX7_signOf_63 rfl ?_
          refine r_lload_n X 1 dX7_signOf_65 rfl rfl ?_
          refine r_lconst X 0 dX7_signOf_66 rfl ?_
          refine r_lcmp X dX7_signOf_67 ?_
          refine r_ifle X 75 dX7_signOf_68 (by decide) (fun c5 => ?_) (fun c5 => ?_)
          · replace h := it_t c5 h
            refine r_iconst X 0 dX7_signOf_75 rfl ?_
            refine r_icne X 83 dX7_signOf_76 (by decide) (fun c6 => ?_) (fun c6 => ?_)
            · exact absurd c6 (by decide)
            refine r_iconst X 1 dX7_signOf_79 rfl ?_
            refine r_goto X 84 dX7_signOf_80 (by decide) ?_
            exact r_iretE X hr dX7_signOf_84 h
          · replace h := it_f c5 h
            refine r_iconst X 1 dX7_signOf_71 rfl ?_
            refine r_goto X 76 dX7_signOf_72 (by decide) ?_
            refine r_icne X 83 dX7_signOf_76 (by decide) (fun c7 => ?_) (fun c7 => ?_)
            rotate_left
            · exact absurd c7 (by decide)
            refine r_iconst X (-1) dX7_signOf_83 rfl ?_
            exact r_iretE X hr dX7_signOf_84 h
        · replace h := it_f c4 h
          refine r_iconst X 1 dX7_signOf_56 rfl ?_
          refine r_goto X 61 dX7_signOf_57 (by decide) ?_
          refine r_istore X [(4, .int (1 : Int32)), (0, .long p0), (2, .long p1)] dX7_signOf_61 (Nat.le_of_ble_eq_true rfl) rfl ?_
          refine r_iload X 0 dX7_signOf_63 rfl ?_
          refine r_lload_n X 1 dX7_signOf_65 rfl rfl ?_
          refine r_lconst X 0 dX7_signOf_66 rfl ?_
          refine r_lcmp X dX7_signOf_67 ?_
          refine r_ifle X 75 dX7_signOf_68 (by decide) (fun c8 => ?_) (fun c8 => ?_)
          · replace h := it_t c8 h
            refine r_iconst X 0 dX7_signOf_75 rfl ?_
            refine r_icne X 83 dX7_signOf_76 (by decide) (fun c9 => ?_) (fun c9 => ?_)
            rotate_left
            · exact absurd c9 (by decide)
            refine r_iconst X (-1) dX7_signOf_83 rfl ?_
            exact r_iretE X hr dX7_signOf_84 h
          · replace h := it_f c8 h
            refine r_iconst X 1 dX7_signOf_71 rfl ?_
            refine r_goto X 76 dX7_signOf_72 (by decide) ?_
            refine r_icne X 83 dX7_signOf_76 (by decide) (fun c10 => ?_) (fun c10 => ?_)
            · exact absurd c10 (by decide)
            refine r_iconst X 1 dX7_signOf_79 rfl ?_
            refine r_goto X 84 dX7_signOf_80 (by decide) ?_
            exact r_iretE X hr dX7_signOf_84 h
      · replace h := it_f c3 h
        refine r_lload_n X 1 dX7_signOf_34 rfl rfl ?_
        refine r_lconst X 0 dX7_signOf_35 rfl ?_
        refine r_lcmp X dX7_signOf_36 ?_
        refine r_ifgt X 42 dX7_signOf_37 (by decide) (fun c11 => ?_) (fun c11 => ?_)
        · replace h := it_t c11 h
          refine r_lload_n X 0 dX7_signOf_42 rfl rfl ?_
          refine r_lload_n X 0 dX7_signOf_43 rfl rfl ?_
          refine r_lmul X dX7_signOf_44 ?_
          refine r_ldc2 X w_771 dX7_signOf_45 ?_
          refine r_lload_n X 1 dX7_signOf_48 rfl rfl ?_
          refine r_lmul X dX7_signOf_49 ?_
          refine r_lload_n X 1 dX7_signOf_50 rfl rfl ?_
          refine r_lmul X dX7_signOf_51 ?_
          refine r_lcmp X dX7_signOf_52 ?_
          refine r_ifle X 60 dX7_signOf_53 (by decide) (fun c12 => ?_) (fun c12 => ?_)
          · replace h := it_t c12 h
            refine r_iconst X 0 dX7_signOf_60 rfl ?_
            refine r_istore X [(4, .int (0 : Int32)), (0, .long p0), (2, .long p1)] dX7_signOf_61 (Nat.le_of_ble_eq_true rfl) rfl ?_
            refine r_iload X 0 dX7_signOf_63 rfl ?_
            refine r_lload_n X 1 dX7_signOf_65 rfl rfl ?_
            refine r_lconst X 0 dX7_signOf_66 rfl ?_
            refine r_lcmp X dX7_signOf_67 ?_
            refine r_ifle X 75 dX7_signOf_68 (by decide) (fun c13 => ?_) (fun c13 => ?_)
            · replace h := it_t c13 h
              refine r_iconst X 0 dX7_signOf_75 rfl ?_
              refine r_icne X 83 dX7_signOf_76 (by decide) (fun c14 => ?_) (fun c14 => ?_)
              · exact absurd c14 (by decide)
              refine r_iconst X 1 dX7_signOf_79 rfl ?_
              refine r_goto X 84 dX7_signOf_80 (by decide) ?_
              exact r_iretE X hr dX7_signOf_84 h
            · replace h := it_f c13 h
              refine r_iconst X 1 dX7_signOf_71 rfl ?_
              refine r_goto X 76 dX7_signOf_72 (by decide) ?_
              refine r_icne X 83 dX7_signOf_76 (by decide) (fun c15 => ?_) (fun c15 => ?_)
              rotate_left
              · exact absurd c15 (by decide)
              refine r_iconst X (-1) dX7_signOf_83 rfl ?_
              exact r_iretE X hr dX7_signOf_84 h
          · replace h := it_f c12 h
            refine r_iconst X 1 dX7_signOf_56 rfl ?_
            refine r_goto X 61 dX7_signOf_57 (by decide) ?_
            refine r_istore X [(4, .int (1 : Int32)), (0, .long p0), (2, .long p1)] dX7_signOf_61 (Nat.le_of_ble_eq_true rfl) rfl ?_
            refine r_iload X 0 dX7_signOf_63 rfl ?_
            refine r_lload_n X 1 dX7_signOf_65 rfl rfl ?_
            refine r_lconst X 0 dX7_signOf_66 rfl ?_
            refine r_lcmp X dX7_signOf_67 ?_
            refine r_ifle X 75 dX7_signOf_68 (by decide) (fun c16 => ?_) (fun c16 => ?_)
            · replace h := it_t c16 h
              refine r_iconst X 0 dX7_signOf_75 rfl ?_
              refine r_icne X 83 dX7_signOf_76 (by decide) (fun c17 => ?_) (fun c17 => ?_)
              rotate_left
              · exact absurd c17 (by decide)
              refine r_iconst X (-1) dX7_signOf_83 rfl ?_
              exact r_iretE X hr dX7_signOf_84 h
            · replace h := it_f c16 h
              refine r_iconst X 1 dX7_signOf_71 rfl ?_
              refine r_goto X 76 dX7_signOf_72 (by decide) ?_
              refine r_icne X 83 dX7_signOf_76 (by decide) (fun c18 => ?_) (fun c18 => ?_)
              · exact absurd c18 (by decide)
              refine r_iconst X 1 dX7_signOf_79 rfl ?_
              refine r_goto X 84 dX7_signOf_80 (by decide) ?_
              exact r_iretE X hr dX7_signOf_84 h
        · replace h := it_f c11 h
          refine r_iconst X (-1) dX7_signOf_40 rfl ?_
          exact r_iretE X hr dX7_signOf_41 h
    · replace h := it_f c2 h
      refine r_lload_n X 1 dX7_signOf_20 rfl rfl ?_
      refine r_lconst X 0 dX7_signOf_21 rfl ?_
      refine r_lcmp X dX7_signOf_22 ?_
      refine r_iflt X 28 dX7_signOf_23 (by decide) (fun c19 => ?_) (fun c19 => ?_)
      · replace h := it_t c19 h
        refine r_lload_n X 0 dX7_signOf_28 rfl rfl ?_
        refine r_lconst X 0 dX7_signOf_29 rfl ?_
        refine r_lcmp X dX7_signOf_30 ?_
        refine r_ifgt X 42 dX7_signOf_31 (by decide) (fun c20 => ?_) (fun c20 => ?_)
        · replace h := it_t c20 h
          refine r_lload_n X 0 dX7_signOf_42 rfl rfl ?_
          refine r_lload_n X 0 dX7_signOf_43 rfl rfl ?_
          refine r_lmul X dX7_signOf_44 ?_
          refine r_ldc2 X w_771 dX7_signOf_45 ?_
          refine r_lload_n X 1 dX7_signOf_48 rfl rfl ?_
          refine r_lmul X dX7_signOf_49 ?_
          refine r_lload_n X 1 dX7_signOf_50 rfl rfl ?_
          refine r_lmul X dX7_signOf_51 ?_
          refine r_lcmp X dX7_signOf_52 ?_
          refine r_ifle X 60 dX7_signOf_53 (by decide) (fun c21 => ?_) (fun c21 => ?_)
          · replace h := it_t c21 h
            refine r_iconst X 0 dX7_signOf_60 rfl ?_
            refine r_istore X [(4, .int (0 : Int32)), (0, .long p0), (2, .long p1)] dX7_signOf_61 (Nat.le_of_ble_eq_true rfl) rfl ?_
            refine r_iload X 0 dX7_signOf_63 rfl ?_
            refine r_lload_n X 1 dX7_signOf_65 rfl rfl ?_
            refine r_lconst X 0 dX7_signOf_66 rfl ?_
            refine r_lcmp X dX7_signOf_67 ?_
            refine r_ifle X 75 dX7_signOf_68 (by decide) (fun c22 => ?_) (fun c22 => ?_)
            · replace h := it_t c22 h
              refine r_iconst X 0 dX7_signOf_75 rfl ?_
              refine r_icne X 83 dX7_signOf_76 (by decide) (fun c23 => ?_) (fun c23 => ?_)
              · exact absurd c23 (by decide)
              refine r_iconst X 1 dX7_signOf_79 rfl ?_
              refine r_goto X 84 dX7_signOf_80 (by decide) ?_
              exact r_iretE X hr dX7_signOf_84 h
            · replace h := it_f c22 h
              refine r_iconst X 1 dX7_signOf_71 rfl ?_
              refine r_goto X 76 dX7_signOf_72 (by decide) ?_
              refine r_icne X 83 dX7_signOf_76 (by decide) (fun c24 => ?_) (fun c24 => ?_)
              rotate_left
              · exact absurd c24 (by decide)
              refine r_iconst X (-1) dX7_signOf_83 rfl ?_
              exact r_iretE X hr dX7_signOf_84 h
          · replace h := it_f c21 h
            refine r_iconst X 1 dX7_signOf_56 rfl ?_
            refine r_goto X 61 dX7_signOf_57 (by decide) ?_
            refine r_istore X [(4, .int (1 : Int32)), (0, .long p0), (2, .long p1)] dX7_signOf_61 (Nat.le_of_ble_eq_true rfl) rfl ?_
            refine r_iload X 0 dX7_signOf_63 rfl ?_
            refine r_lload_n X 1 dX7_signOf_65 rfl rfl ?_
            refine r_lconst X 0 dX7_signOf_66 rfl ?_
            refine r_lcmp X dX7_signOf_67 ?_
            refine r_ifle X 75 dX7_signOf_68 (by decide) (fun c25 => ?_) (fun c25 => ?_)
            · replace h := it_t c25 h
              refine r_iconst X 0 dX7_signOf_75 rfl ?_
              refine r_icne X 83 dX7_signOf_76 (by decide) (fun c26 => ?_) (fun c26 => ?_)
              rotate_left
              · exact absurd c26 (by decide)
              refine r_iconst X (-1) dX7_signOf_83 rfl ?_
              exact r_iretE X hr dX7_signOf_84 h
            · replace h := it_f c25 h
              refine r_iconst X 1 dX7_signOf_71 rfl ?_
              refine r_goto X 76 dX7_signOf_72 (by decide) ?_
              refine r_icne X 83 dX7_signOf_76 (by decide) (fun c27 => ?_) (fun c27 => ?_)
              · exact absurd c27 (by decide)
              refine r_iconst X 1 dX7_signOf_79 rfl ?_
              refine r_goto X 84 dX7_signOf_80 (by decide) ?_
              exact r_iretE X hr dX7_signOf_84 h
        · replace h := it_f c20 h
          refine r_lload_n X 1 dX7_signOf_34 rfl rfl ?_
          refine r_lconst X 0 dX7_signOf_35 rfl ?_
          refine r_lcmp X dX7_signOf_36 ?_
          refine r_ifgt X 42 dX7_signOf_37 (by decide) (fun c28 => ?_) (fun c28 => ?_)
          · replace h := it_t c28 h
            refine r_lload_n X 0 dX7_signOf_42 rfl rfl ?_
            refine r_lload_n X 0 dX7_signOf_43 rfl rfl ?_
            refine r_lmul X dX7_signOf_44 ?_
            refine r_ldc2 X w_771 dX7_signOf_45 ?_
            refine r_lload_n X 1 dX7_signOf_48 rfl rfl ?_
            refine r_lmul X dX7_signOf_49 ?_
            refine r_lload_n X 1 dX7_signOf_50 rfl rfl ?_
            refine r_lmul X dX7_signOf_51 ?_
            refine r_lcmp X dX7_signOf_52 ?_
            refine r_ifle X 60 dX7_signOf_53 (by decide) (fun c29 => ?_) (fun c29 => ?_)
            · replace h := it_t c29 h
              refine r_iconst X 0 dX7_signOf_60 rfl ?_
              refine r_istore X [(4, .int (0 : Int32)), (0, .long p0), (2, .long p1)] dX7_signOf_61 (Nat.le_of_ble_eq_true rfl) rfl ?_
              refine r_iload X 0 dX7_signOf_63 rfl ?_
              refine r_lload_n X 1 dX7_signOf_65 rfl rfl ?_
              refine r_lconst X 0 dX7_signOf_66 rfl ?_
              refine r_lcmp X dX7_signOf_67 ?_
              refine r_ifle X 75 dX7_signOf_68 (by decide) (fun c30 => ?_) (fun c30 => ?_)
              · replace h := it_t c30 h
                refine r_iconst X 0 dX7_signOf_75 rfl ?_
                refine r_icne X 83 dX7_signOf_76 (by decide) (fun c31 => ?_) (fun c31 => ?_)
                · exact absurd c31 (by decide)
                refine r_iconst X 1 dX7_signOf_79 rfl ?_
                refine r_goto X 84 dX7_signOf_80 (by decide) ?_
                exact r_iretE X hr dX7_signOf_84 h
              · replace h := it_f c30 h
                refine r_iconst X 1 dX7_signOf_71 rfl ?_
                refine r_goto X 76 dX7_signOf_72 (by decide) ?_
                refine r_icne X 83 dX7_signOf_76 (by decide) (fun c32 => ?_) (fun c32 => ?_)
                rotate_left
                · exact absurd c32 (by decide)
                refine r_iconst X (-1) dX7_signOf_83 rfl ?_
                exact r_iretE X hr dX7_signOf_84 h
            · replace h := it_f c29 h
              refine r_iconst X 1 dX7_signOf_56 rfl ?_
              refine r_goto X 61 dX7_signOf_57 (by decide) ?_
              refine r_istore X [(4, .int (1 : Int32)), (0, .long p0), (2, .long p1)] dX7_signOf_61 (Nat.le_of_ble_eq_true rfl) rfl ?_
              refine r_iload X 0 dX7_signOf_63 rfl ?_
              refine r_lload_n X 1 dX7_signOf_65 rfl rfl ?_
              refine r_lconst X 0 dX7_signOf_66 rfl ?_
              refine r_lcmp X dX7_signOf_67 ?_
              refine r_ifle X 75 dX7_signOf_68 (by decide) (fun c33 => ?_) (fun c33 => ?_)
              · replace h := it_t c33 h
                refine r_iconst X 0 dX7_signOf_75 rfl ?_
                refine r_icne X 83 dX7_signOf_76 (by decide) (fun c34 => ?_) (fun c34 => ?_)
                rotate_left
                · exact absurd c34 (by decide)
                refine r_iconst X (-1) dX7_signOf_83 rfl ?_
                exact r_iretE X hr dX7_signOf_84 h
              · replace h := it_f c33 h
                refine r_iconst X 1 dX7_signOf_71 rfl ?_
                refine r_goto X 76 dX7_signOf_72 (by decide) ?_
                refine r_icne X 83 dX7_signOf_76 (by decide) (fun c35 => ?_) (fun c35 => ?_)
                · exact absurd c35 (by decide)
                refine r_iconst X 1 dX7_signOf_79 rfl ?_
                refine r_goto X 84 dX7_signOf_80 (by decide) ?_
                exact r_iretE X hr dX7_signOf_84 h
          · replace h := it_f c28 h
            refine r_iconst X (-1) dX7_signOf_40 rfl ?_
            exact r_iretE X hr dX7_signOf_41 h
      · replace h := it_f c19 h
        refine r_iconst X 1 dX7_signOf_26 rfl ?_
        exact r_iretE X hr dX7_signOf_27 h
  · replace h := it_t c1 h
    refine r_lload_n X 1 dX7_signOf_6 rfl rfl ?_
    refine r_lconst X 0 dX7_signOf_7 rfl ?_
    refine r_lcmp X dX7_signOf_8 ?_
    refine r_ifne X 14 dX7_signOf_9 (by decide) (fun c36 => ?_) (fun c36 => ?_)
    · replace h := it_f c36 h
      refine r_lload_n X 0 dX7_signOf_14 rfl rfl ?_
      refine r_lconst X 0 dX7_signOf_15 rfl ?_
      refine r_lcmp X dX7_signOf_16 ?_
      refine r_iflt X 28 dX7_signOf_17 (by decide) (fun c37 => ?_) (fun c37 => ?_)
      · replace h := it_t c37 h
        refine r_lload_n X 0 dX7_signOf_28 rfl rfl ?_
        refine r_lconst X 0 dX7_signOf_29 rfl ?_
        refine r_lcmp X dX7_signOf_30 ?_
        refine r_ifgt X 42 dX7_signOf_31 (by decide) (fun c38 => ?_) (fun c38 => ?_)
        · replace h := it_t c38 h
          refine r_lload_n X 0 dX7_signOf_42 rfl rfl ?_
          refine r_lload_n X 0 dX7_signOf_43 rfl rfl ?_
          refine r_lmul X dX7_signOf_44 ?_
          refine r_ldc2 X w_771 dX7_signOf_45 ?_
          refine r_lload_n X 1 dX7_signOf_48 rfl rfl ?_
          refine r_lmul X dX7_signOf_49 ?_
          refine r_lload_n X 1 dX7_signOf_50 rfl rfl ?_
          refine r_lmul X dX7_signOf_51 ?_
          refine r_lcmp X dX7_signOf_52 ?_
          refine r_ifle X 60 dX7_signOf_53 (by decide) (fun c39 => ?_) (fun c39 => ?_)
          · replace h := it_t c39 h
            refine r_iconst X 0 dX7_signOf_60 rfl ?_
            refine r_istore X [(4, .int (0 : Int32)), (0, .long p0), (2, .long p1)] dX7_signOf_61 (Nat.le_of_ble_eq_true rfl) rfl ?_
            refine r_iload X 0 dX7_signOf_63 rfl ?_
            refine r_lload_n X 1 dX7_signOf_65 rfl rfl ?_
            refine r_lconst X 0 dX7_signOf_66 rfl ?_
            refine r_lcmp X dX7_signOf_67 ?_
            refine r_ifle X 75 dX7_signOf_68 (by decide) (fun c40 => ?_) (fun c40 => ?_)
            · replace h := it_t c40 h
              refine r_iconst X 0 dX7_signOf_75 rfl ?_
              refine r_icne X 83 dX7_signOf_76 (by decide) (fun c41 => ?_) (fun c41 => ?_)
              · exact absurd c41 (by decide)
              refine r_iconst X 1 dX7_signOf_79 rfl ?_
              refine r_goto X 84 dX7_signOf_80 (by decide) ?_
              exact r_iretE X hr dX7_signOf_84 h
            · replace h := it_f c40 h
              refine r_iconst X 1 dX7_signOf_71 rfl ?_
              refine r_goto X 76 dX7_signOf_72 (by decide) ?_
              refine r_icne X 83 dX7_signOf_76 (by decide) (fun c42 => ?_) (fun c42 => ?_)
              rotate_left
              · exact absurd c42 (by decide)
              refine r_iconst X (-1) dX7_signOf_83 rfl ?_
              exact r_iretE X hr dX7_signOf_84 h
          · replace h := it_f c39 h
            refine r_iconst X 1 dX7_signOf_56 rfl ?_
            refine r_goto X 61 dX7_signOf_57 (by decide) ?_
            refine r_istore X [(4, .int (1 : Int32)), (0, .long p0), (2, .long p1)] dX7_signOf_61 (Nat.le_of_ble_eq_true rfl) rfl ?_
            refine r_iload X 0 dX7_signOf_63 rfl ?_
            refine r_lload_n X 1 dX7_signOf_65 rfl rfl ?_
            refine r_lconst X 0 dX7_signOf_66 rfl ?_
            refine r_lcmp X dX7_signOf_67 ?_
            refine r_ifle X 75 dX7_signOf_68 (by decide) (fun c43 => ?_) (fun c43 => ?_)
            · replace h := it_t c43 h
              refine r_iconst X 0 dX7_signOf_75 rfl ?_
              refine r_icne X 83 dX7_signOf_76 (by decide) (fun c44 => ?_) (fun c44 => ?_)
              rotate_left
              · exact absurd c44 (by decide)
              refine r_iconst X (-1) dX7_signOf_83 rfl ?_
              exact r_iretE X hr dX7_signOf_84 h
            · replace h := it_f c43 h
              refine r_iconst X 1 dX7_signOf_71 rfl ?_
              refine r_goto X 76 dX7_signOf_72 (by decide) ?_
              refine r_icne X 83 dX7_signOf_76 (by decide) (fun c45 => ?_) (fun c45 => ?_)
              · exact absurd c45 (by decide)
              refine r_iconst X 1 dX7_signOf_79 rfl ?_
              refine r_goto X 84 dX7_signOf_80 (by decide) ?_
              exact r_iretE X hr dX7_signOf_84 h
        · replace h := it_f c38 h
          refine r_lload_n X 1 dX7_signOf_34 rfl rfl ?_
          refine r_lconst X 0 dX7_signOf_35 rfl ?_
          refine r_lcmp X dX7_signOf_36 ?_
          refine r_ifgt X 42 dX7_signOf_37 (by decide) (fun c46 => ?_) (fun c46 => ?_)
          · replace h := it_t c46 h
            refine r_lload_n X 0 dX7_signOf_42 rfl rfl ?_
            refine r_lload_n X 0 dX7_signOf_43 rfl rfl ?_
            refine r_lmul X dX7_signOf_44 ?_
            refine r_ldc2 X w_771 dX7_signOf_45 ?_
            refine r_lload_n X 1 dX7_signOf_48 rfl rfl ?_
            refine r_lmul X dX7_signOf_49 ?_
            refine r_lload_n X 1 dX7_signOf_50 rfl rfl ?_
            refine r_lmul X dX7_signOf_51 ?_
            refine r_lcmp X dX7_signOf_52 ?_
            refine r_ifle X 60 dX7_signOf_53 (by decide) (fun c47 => ?_) (fun c47 => ?_)
            · replace h := it_t c47 h
              refine r_iconst X 0 dX7_signOf_60 rfl ?_
              refine r_istore X [(4, .int (0 : Int32)), (0, .long p0), (2, .long p1)] dX7_signOf_61 (Nat.le_of_ble_eq_true rfl) rfl ?_
              refine r_iload X 0 dX7_signOf_63 rfl ?_
              refine r_lload_n X 1 dX7_signOf_65 rfl rfl ?_
              refine r_lconst X 0 dX7_signOf_66 rfl ?_
              refine r_lcmp X dX7_signOf_67 ?_
              refine r_ifle X 75 dX7_signOf_68 (by decide) (fun c48 => ?_) (fun c48 => ?_)
              · replace h := it_t c48 h
                refine r_iconst X 0 dX7_signOf_75 rfl ?_
                refine r_icne X 83 dX7_signOf_76 (by decide) (fun c49 => ?_) (fun c49 => ?_)
                · exact absurd c49 (by decide)
                refine r_iconst X 1 dX7_signOf_79 rfl ?_
                refine r_goto X 84 dX7_signOf_80 (by decide) ?_
                exact r_iretE X hr dX7_signOf_84 h
              · replace h := it_f c48 h
                refine r_iconst X 1 dX7_signOf_71 rfl ?_
                refine r_goto X 76 dX7_signOf_72 (by decide) ?_
                refine r_icne X 83 dX7_signOf_76 (by decide) (fun c50 => ?_) (fun c50 => ?_)
                rotate_left
                · exact absurd c50 (by decide)
                refine r_iconst X (-1) dX7_signOf_83 rfl ?_
                exact r_iretE X hr dX7_signOf_84 h
            · replace h := it_f c47 h
              refine r_iconst X 1 dX7_signOf_56 rfl ?_
              refine r_goto X 61 dX7_signOf_57 (by decide) ?_
              refine r_istore X [(4, .int (1 : Int32)), (0, .long p0), (2, .long p1)] dX7_signOf_61 (Nat.le_of_ble_eq_true rfl) rfl ?_
              refine r_iload X 0 dX7_signOf_63 rfl ?_
              refine r_lload_n X 1 dX7_signOf_65 rfl rfl ?_
              refine r_lconst X 0 dX7_signOf_66 rfl ?_
              refine r_lcmp X dX7_signOf_67 ?_
              refine r_ifle X 75 dX7_signOf_68 (by decide) (fun c51 => ?_) (fun c51 => ?_)
              · replace h := it_t c51 h
                refine r_iconst X 0 dX7_signOf_75 rfl ?_
                refine r_icne X 83 dX7_signOf_76 (by decide) (fun c52 => ?_) (fun c52 => ?_)
                rotate_left
                · exact absurd c52 (by decide)
                refine r_iconst X (-1) dX7_signOf_83 rfl ?_
                exact r_iretE X hr dX7_signOf_84 h
              · replace h := it_f c51 h
                refine r_iconst X 1 dX7_signOf_71 rfl ?_
                refine r_goto X 76 dX7_signOf_72 (by decide) ?_
                refine r_icne X 83 dX7_signOf_76 (by decide) (fun c53 => ?_) (fun c53 => ?_)
                · exact absurd c53 (by decide)
                refine r_iconst X 1 dX7_signOf_79 rfl ?_
                refine r_goto X 84 dX7_signOf_80 (by decide) ?_
                exact r_iretE X hr dX7_signOf_84 h
          · replace h := it_f c46 h
            refine r_iconst X (-1) dX7_signOf_40 rfl ?_
            exact r_iretE X hr dX7_signOf_41 h
      · replace h := it_f c37 h
        refine r_lload_n X 1 dX7_signOf_20 rfl rfl ?_
        refine r_lconst X 0 dX7_signOf_21 rfl ?_
        refine r_lcmp X dX7_signOf_22 ?_
        refine r_iflt X 28 dX7_signOf_23 (by decide) (fun c54 => ?_) (fun c54 => ?_)
        · replace h := it_t c54 h
          refine r_lload_n X 0 dX7_signOf_28 rfl rfl ?_
          refine r_lconst X 0 dX7_signOf_29 rfl ?_
          refine r_lcmp X dX7_signOf_30 ?_
          refine r_ifgt X 42 dX7_signOf_31 (by decide) (fun c55 => ?_) (fun c55 => ?_)
          · replace h := it_t c55 h
            refine r_lload_n X 0 dX7_signOf_42 rfl rfl ?_
            refine r_lload_n X 0 dX7_signOf_43 rfl rfl ?_
            refine r_lmul X dX7_signOf_44 ?_
            refine r_ldc2 X w_771 dX7_signOf_45 ?_
            refine r_lload_n X 1 dX7_signOf_48 rfl rfl ?_
            refine r_lmul X dX7_signOf_49 ?_
            refine r_lload_n X 1 dX7_signOf_50 rfl rfl ?_
            refine r_lmul X dX7_signOf_51 ?_
            refine r_lcmp X dX7_signOf_52 ?_
            refine r_ifle X 60 dX7_signOf_53 (by decide) (fun c56 => ?_) (fun c56 => ?_)
            · replace h := it_t c56 h
              refine r_iconst X 0 dX7_signOf_60 rfl ?_
              refine r_istore X [(4, .int (0 : Int32)), (0, .long p0), (2, .long p1)] dX7_signOf_61 (Nat.le_of_ble_eq_true rfl) rfl ?_
              refine r_iload X 0 dX7_signOf_63 rfl ?_
              refine r_lload_n X 1 dX7_signOf_65 rfl rfl ?_
              refine r_lconst X 0 dX7_signOf_66 rfl ?_
              refine r_lcmp X dX7_signOf_67 ?_
              refine r_ifle X 75 dX7_signOf_68 (by decide) (fun c57 => ?_) (fun c57 => ?_)
              · replace h := it_t c57 h
                refine r_iconst X 0 dX7_signOf_75 rfl ?_
                refine r_icne X 83 dX7_signOf_76 (by decide) (fun c58 => ?_) (fun c58 => ?_)
                · exact absurd c58 (by decide)
                refine r_iconst X 1 dX7_signOf_79 rfl ?_
                refine r_goto X 84 dX7_signOf_80 (by decide) ?_
                exact r_iretE X hr dX7_signOf_84 h
              · replace h := it_f c57 h
                refine r_iconst X 1 dX7_signOf_71 rfl ?_
                refine r_goto X 76 dX7_signOf_72 (by decide) ?_
                refine r_icne X 83 dX7_signOf_76 (by decide) (fun c59 => ?_) (fun c59 => ?_)
                rotate_left
                · exact absurd c59 (by decide)
                refine r_iconst X (-1) dX7_signOf_83 rfl ?_
                exact r_iretE X hr dX7_signOf_84 h
            · replace h := it_f c56 h
              refine r_iconst X 1 dX7_signOf_56 rfl ?_
              refine r_goto X 61 dX7_signOf_57 (by decide) ?_
              refine r_istore X [(4, .int (1 : Int32)), (0, .long p0), (2, .long p1)] dX7_signOf_61 (Nat.le_of_ble_eq_true rfl) rfl ?_
              refine r_iload X 0 dX7_signOf_63 rfl ?_
              refine r_lload_n X 1 dX7_signOf_65 rfl rfl ?_
              refine r_lconst X 0 dX7_signOf_66 rfl ?_
              refine r_lcmp X dX7_signOf_67 ?_
              refine r_ifle X 75 dX7_signOf_68 (by decide) (fun c60 => ?_) (fun c60 => ?_)
              · replace h := it_t c60 h
                refine r_iconst X 0 dX7_signOf_75 rfl ?_
                refine r_icne X 83 dX7_signOf_76 (by decide) (fun c61 => ?_) (fun c61 => ?_)
                rotate_left
                · exact absurd c61 (by decide)
                refine r_iconst X (-1) dX7_signOf_83 rfl ?_
                exact r_iretE X hr dX7_signOf_84 h
              · replace h := it_f c60 h
                refine r_iconst X 1 dX7_signOf_71 rfl ?_
                refine r_goto X 76 dX7_signOf_72 (by decide) ?_
                refine r_icne X 83 dX7_signOf_76 (by decide) (fun c62 => ?_) (fun c62 => ?_)
                · exact absurd c62 (by decide)
                refine r_iconst X 1 dX7_signOf_79 rfl ?_
                refine r_goto X 84 dX7_signOf_80 (by decide) ?_
                exact r_iretE X hr dX7_signOf_84 h
          · replace h := it_f c55 h
            refine r_lload_n X 1 dX7_signOf_34 rfl rfl ?_
            refine r_lconst X 0 dX7_signOf_35 rfl ?_
            refine r_lcmp X dX7_signOf_36 ?_
            refine r_ifgt X 42 dX7_signOf_37 (by decide) (fun c63 => ?_) (fun c63 => ?_)
            · replace h := it_t c63 h
              refine r_lload_n X 0 dX7_signOf_42 rfl rfl ?_
              refine r_lload_n X 0 dX7_signOf_43 rfl rfl ?_
              refine r_lmul X dX7_signOf_44 ?_
              refine r_ldc2 X w_771 dX7_signOf_45 ?_
              refine r_lload_n X 1 dX7_signOf_48 rfl rfl ?_
              refine r_lmul X dX7_signOf_49 ?_
              refine r_lload_n X 1 dX7_signOf_50 rfl rfl ?_
              refine r_lmul X dX7_signOf_51 ?_
              refine r_lcmp X dX7_signOf_52 ?_
              refine r_ifle X 60 dX7_signOf_53 (by decide) (fun c64 => ?_) (fun c64 => ?_)
              · replace h := it_t c64 h
                refine r_iconst X 0 dX7_signOf_60 rfl ?_
                refine r_istore X [(4, .int (0 : Int32)), (0, .long p0), (2, .long p1)] dX7_signOf_61 (Nat.le_of_ble_eq_true rfl) rfl ?_
                refine r_iload X 0 dX7_signOf_63 rfl ?_
                refine r_lload_n X 1 dX7_signOf_65 rfl rfl ?_
                refine r_lconst X 0 dX7_signOf_66 rfl ?_
                refine r_lcmp X dX7_signOf_67 ?_
                refine r_ifle X 75 dX7_signOf_68 (by decide) (fun c65 => ?_) (fun c65 => ?_)
                · replace h := it_t c65 h
                  refine r_iconst X 0 dX7_signOf_75 rfl ?_
                  refine r_icne X 83 dX7_signOf_76 (by decide) (fun c66 => ?_) (fun c66 => ?_)
                  · exact absurd c66 (by decide)
                  refine r_iconst X 1 dX7_signOf_79 rfl ?_
                  refine r_goto X 84 dX7_signOf_80 (by decide) ?_
                  exact r_iretE X hr dX7_signOf_84 h
                · replace h := it_f c65 h
                  refine r_iconst X 1 dX7_signOf_71 rfl ?_
                  refine r_goto X 76 dX7_signOf_72 (by decide) ?_
                  refine r_icne X 83 dX7_signOf_76 (by decide) (fun c67 => ?_) (fun c67 => ?_)
                  rotate_left
                  · exact absurd c67 (by decide)
                  refine r_iconst X (-1) dX7_signOf_83 rfl ?_
                  exact r_iretE X hr dX7_signOf_84 h
              · replace h := it_f c64 h
                refine r_iconst X 1 dX7_signOf_56 rfl ?_
                refine r_goto X 61 dX7_signOf_57 (by decide) ?_
                refine r_istore X [(4, .int (1 : Int32)), (0, .long p0), (2, .long p1)] dX7_signOf_61 (Nat.le_of_ble_eq_true rfl) rfl ?_
                refine r_iload X 0 dX7_signOf_63 rfl ?_
                refine r_lload_n X 1 dX7_signOf_65 rfl rfl ?_
                refine r_lconst X 0 dX7_signOf_66 rfl ?_
                refine r_lcmp X dX7_signOf_67 ?_
                refine r_ifle X 75 dX7_signOf_68 (by decide) (fun c68 => ?_) (fun c68 => ?_)
                · replace h := it_t c68 h
                  refine r_iconst X 0 dX7_signOf_75 rfl ?_
                  refine r_icne X 83 dX7_signOf_76 (by decide) (fun c69 => ?_) (fun c69 => ?_)
                  rotate_left
                  · exact absurd c69 (by decide)
                  refine r_iconst X (-1) dX7_signOf_83 rfl ?_
                  exact r_iretE X hr dX7_signOf_84 h
                · replace h := it_f c68 h
                  refine r_iconst X 1 dX7_signOf_71 rfl ?_
                  refine r_goto X 76 dX7_signOf_72 (by decide) ?_
                  refine r_icne X 83 dX7_signOf_76 (by decide) (fun c70 => ?_) (fun c70 => ?_)
                  · exact absurd c70 (by decide)
                  refine r_iconst X 1 dX7_signOf_79 rfl ?_
                  refine r_goto X 84 dX7_signOf_80 (by decide) ?_
                  exact r_iretE X hr dX7_signOf_84 h
            · replace h := it_f c63 h
              refine r_iconst X (-1) dX7_signOf_40 rfl ?_
              exact r_iretE X hr dX7_signOf_41 h
        · replace h := it_f c54 h
          refine r_iconst X 1 dX7_signOf_26 rfl ?_
          exact r_iretE X hr dX7_signOf_27 h
    · replace h := it_t c36 h
      refine r_iconst X 0 dX7_signOf_12 rfl ?_
      exact r_iretE X hr dX7_signOf_13 h
def f_X7_sign (N : Nat) (M : Mem) (p0 : Int32) (p1 : Int32) : Option (Int32 × Mem) :=
  bd2 (f_X7_isPart N M p0) fun r2 M1 =>
  if r2 = 0 then
    (bd2 (f_X7_refuse N M1 (-3 : Int32)) fun r6 M5 =>
    some (r6, M5))
  else
    (bd2 (f_X7_isPart N M1 p1) fun r9 M8 =>
    if r9 = 0 then
      (bd2 (f_X7_refuse N M8 (-3 : Int32)) fun r13 M12 =>
      some (r13, M12))
    else
      (bd2 (f_X7_signOf N M8 (Int32.toInt64 p0) (Int32.toInt64 p1)) fun r16 M15 =>
      some (r16, M15)))
set_option maxRecDepth 100000 in
set_option maxHeartbeats 4000000 in
theorem k_X7_sign (l : Launch) (N : Nat) (nc : Nat) (hnc : 45 ≤ nc) (M : Mem) (p0 : Int32) (p1 : Int32) (r : Int32) (M' : Mem) (h : f_X7_sign N M p0 p1 = some (r, M')) (d : Nat) (hd : 1 ≤ d) : Ct l d yX7_sign cX7_sign 3 (some .int) shp nc [.ref 34, .int p0, .int p1] M (some (.int r)) M' := by
  obtain ⟨d, rfl⟩ : ∃ q, d = q + 1 := ⟨d - 1, by omega⟩
  unfold f_X7_sign at h
  refine Ct.of (by decide +kernel) (Nat.le_of_ble_eq_true rfl) ?_
  intro p e s m args below meth c A ad D cI cJ X hr
  refine r_sub (ls' := [(0, .ref 34), (1, .int p0), (2, .int p1)]) [0, 1, 2] rfl ?_
  refine r_iload_n X 1 dX7_sign_0 rfl rfl ?_
  obtain ⟨r2, M1, h3, h⟩ := bd2_ex h
  refine r_callS X (st := []) (av := [.int p0]) (k_X7_isPart l N _ hnc _ _ _ _ h3 d (by omega)) (fitR_s (Nat.le_of_ble_eq_true rfl)) ⟨Nat.le_refl 0, Nat.le_refl 0⟩ w_765 w_47 w_764 w_763 hy_X7_isPart rfl (Nat.le_of_ble_eq_true rfl) dX7_sign_1 ?_
  refine r_ifeq X 24 dX7_sign_4 (by decide) (fun c4 => ?_) (fun c4 => ?_)
  · replace h := it_t c4 h
    refine r_aload_n X 0 dX7_sign_24 rfl rfl ?_
    refine r_bipush X (-3) dX7_sign_25 rfl ?_
    obtain ⟨r6, M5, h7, h⟩ := bd2_ex h
    refine r_callV X (st := []) (av := [.int (-3 : Int32)]) (k := 34) (ci := 6) (k_X7_refuse l N _ hnc _ _ _ _ h7 d (by omega)) (fitR_s (Nat.le_of_ble_eq_true rfl)) ⟨Nat.le_refl 0, Nat.le_refl 0⟩ rfl (ltn hnc rfl) rfl w_689 w_47 w_688 w_18 w_686 hy_X7_refuse rfl (Nat.le_of_ble_eq_true rfl) dX7_sign_27 ?_
    exact r_iretE X hr dX7_sign_30 h
  · replace h := it_f c4 h
    refine r_iload_n X 2 dX7_sign_7 rfl rfl ?_
    obtain ⟨r9, M8, h10, h⟩ := bd2_ex h
    refine r_callS X (st := []) (av := [.int p1]) (k_X7_isPart l N _ hnc _ _ _ _ h10 d (by omega)) (fitR_s (Nat.le_of_ble_eq_true rfl)) ⟨Nat.le_refl 0, Nat.le_refl 0⟩ w_765 w_47 w_764 w_763 hy_X7_isPart rfl (Nat.le_of_ble_eq_true rfl) dX7_sign_8 ?_
    refine r_ifeq X 24 dX7_sign_11 (by decide) (fun c11 => ?_) (fun c11 => ?_)
    · replace h := it_t c11 h
      refine r_aload_n X 0 dX7_sign_24 rfl rfl ?_
      refine r_bipush X (-3) dX7_sign_25 rfl ?_
      obtain ⟨r13, M12, h14, h⟩ := bd2_ex h
      refine r_callV X (st := []) (av := [.int (-3 : Int32)]) (k := 34) (ci := 6) (k_X7_refuse l N _ hnc _ _ _ _ h14 d (by omega)) (fitR_s (Nat.le_of_ble_eq_true rfl)) ⟨Nat.le_refl 0, Nat.le_refl 0⟩ rfl (ltn hnc rfl) rfl w_689 w_47 w_688 w_18 w_686 hy_X7_refuse rfl (Nat.le_of_ble_eq_true rfl) dX7_sign_27 ?_
      exact r_iretE X hr dX7_sign_30 h
    · replace h := it_f c11 h
      refine r_iload_n X 1 dX7_sign_14 rfl rfl ?_
      refine r_i2l X dX7_sign_15 ?_
      refine r_iload_n X 2 dX7_sign_16 rfl rfl ?_
      refine r_i2l X dX7_sign_17 ?_
      obtain ⟨r16, M15, h17, h⟩ := bd2_ex h
      refine r_callS X (st := []) (av := [.long (Int32.toInt64 p0), .long (Int32.toInt64 p1)]) (k_X7_signOf l N _ hnc _ _ _ _ _ h17 d (by omega)) (fitR_s (Nat.le_of_ble_eq_true rfl)) ⟨Nat.le_refl 0, Nat.le_refl 0⟩ w_770 w_47 w_769 w_768 hy_X7_signOf rfl (Nat.le_of_ble_eq_true rfl) dX7_sign_18 ?_
      refine r_goto X 30 dX7_sign_21 (by decide) ?_
      exact r_iretE X hr dX7_sign_30 h
def f_X2_squareRoot (N : Nat) (M : Mem) (p0 : Int64) : Option (Int64 × Mem) :=
  bd2 (f_X2_part N M p0 (0 : Int32)) fun r2 M1 =>
  bd2 (f_X2_part N M1 p0 (1 : Int32)) fun r5 M4 =>
  nm ((Int32.toInt64 r2) * (Int32.toInt64 r5)) fun x7 =>
  bd2 (f_X2_part N M4 p0 (2 : Int32)) fun r9 M8 =>
  bd2 (f_X2_part N M8 p0 (3 : Int32)) fun r12 M11 =>
  nm ((Int32.toInt64 r9) * (Int32.toInt64 r12)) fun x14 =>
  some ((2 : Int64) * (x7 + x14), M11)
set_option maxRecDepth 100000 in
set_option maxHeartbeats 4000000 in
theorem k_X2_squareRoot (l : Launch) (N : Nat) (nc : Nat) (hnc : 34 ≤ nc) (M : Mem) (p0 : Int64) (r : Int64) (M' : Mem) (h : f_X2_squareRoot N M p0 = some (r, M')) (d : Nat) (hd : 1 ≤ d) : Ct l d yX2_squareRoot cX2_squareRoot 6 (some .long) shp nc [.long p0] M (some (.long r)) M' := by
  obtain ⟨d, rfl⟩ : ∃ q, d = q + 1 := ⟨d - 1, by omega⟩
  unfold f_X2_squareRoot at h
  refine Ct.of (by decide +kernel) (Nat.le_of_ble_eq_true rfl) ?_
  intro p e s m args below meth c A ad D cI cJ X hr
  refine r_sub (ls' := [(0, .long p0)]) [0] rfl ?_
  refine r_lload_n X 0 dX2_squareRoot_0 rfl rfl ?_
  refine r_iconst X 0 dX2_squareRoot_1 rfl ?_
  obtain ⟨r2, M1, h3, h⟩ := bd2_ex h
  refine r_callS X (st := []) (av := [.long p0, .int (0 : Int32)]) (k_X2_part l N _ hnc _ _ _ _ _ h3 d (by omega)) (fitR_s (Nat.le_of_ble_eq_true rfl)) ⟨Nat.le_refl 0, Nat.le_refl 0⟩ w_352 w_46 w_351 w_402 hy_X2_part rfl (Nat.le_of_ble_eq_true rfl) dX2_squareRoot_2 ?_
  refine r_i2l X dX2_squareRoot_5 ?_
  refine r_lload_n X 0 dX2_squareRoot_6 rfl rfl ?_
  refine r_iconst X 1 dX2_squareRoot_7 rfl ?_
  obtain ⟨r5, M4, h6, h⟩ := bd2_ex h
  refine r_callS X (st := [.long (Int32.toInt64 r2)]) (av := [.long p0, .int (1 : Int32)]) (k_X2_part l N _ hnc _ _ _ _ _ h6 d (by omega)) (fitR_s (Nat.le_of_ble_eq_true rfl)) ⟨Nat.le_refl 0, Nat.le_refl 0⟩ w_352 w_46 w_351 w_402 hy_X2_part rfl (Nat.le_of_ble_eq_true rfl) dX2_squareRoot_8 ?_
  refine r_i2l X dX2_squareRoot_11 ?_
  refine r_lmul X dX2_squareRoot_12 ?_
  obtain ⟨x7, ex7, h⟩ := nm_ex h
  refine r_topl ex7 ?_
  refine r_lstore_n X [(2, .long x7), (0, .long p0)] dX2_squareRoot_13 rfl (Nat.le_of_ble_eq_true rfl) rfl ?_
  refine r_lload_n X 1 dX2_squareRoot_14 rfl rfl ?_
  refine r_iconst X 2 dX2_squareRoot_15 rfl ?_
  obtain ⟨r9, M8, h10, h⟩ := bd2_ex h
  refine r_callS X (st := []) (av := [.long p0, .int (2 : Int32)]) (k_X2_part l N _ hnc _ _ _ _ _ h10 d (by omega)) (fitR_s (Nat.le_of_ble_eq_true rfl)) ⟨Nat.le_refl 0, Nat.le_refl 0⟩ w_352 w_46 w_351 w_402 hy_X2_part rfl (Nat.le_of_ble_eq_true rfl) dX2_squareRoot_16 ?_
  refine r_i2l X dX2_squareRoot_19 ?_
  refine r_lload_n X 1 dX2_squareRoot_20 rfl rfl ?_
  refine r_iconst X 3 dX2_squareRoot_21 rfl ?_
  obtain ⟨r12, M11, h13, h⟩ := bd2_ex h
  refine r_callS X (st := [.long (Int32.toInt64 r9)]) (av := [.long p0, .int (3 : Int32)]) (k_X2_part l N _ hnc _ _ _ _ _ h13 d (by omega)) (fitR_s (Nat.le_of_ble_eq_true rfl)) ⟨Nat.le_refl 0, Nat.le_refl 0⟩ w_352 w_46 w_351 w_402 hy_X2_part rfl (Nat.le_of_ble_eq_true rfl) dX2_squareRoot_22 ?_
  refine r_i2l X dX2_squareRoot_25 ?_
  refine r_lmul X dX2_squareRoot_26 ?_
  obtain ⟨x14, ex14, h⟩ := nm_ex h
  refine r_topl ex14 ?_
  refine r_lstore X [(4, .long x14), (2, .long x7), (0, .long p0)] dX2_squareRoot_27 (Nat.le_of_ble_eq_true rfl) rfl ?_
  refine r_ldc2 X w_393 dX2_squareRoot_29 ?_
  refine r_lload_n X 1 dX2_squareRoot_32 rfl rfl ?_
  refine r_lload X 0 dX2_squareRoot_33 rfl ?_
  refine r_ladd X dX2_squareRoot_35 ?_
  refine r_lmul X dX2_squareRoot_36 ?_
  exact r_lretE X hr dX2_squareRoot_37 h
def f_X2_squareWhole (N : Nat) (M : Mem) (p0 : Int64) : Option (Int64 × Mem) :=
  bd2 (f_X2_part N M p0 (0 : Int32)) fun r2 M1 =>
  nm (Int32.toInt64 r2) fun x4 =>
  bd2 (f_X2_part N M1 p0 (1 : Int32)) fun r6 M5 =>
  nm (Int32.toInt64 r6) fun x8 =>
  bd2 (f_X2_part N M5 p0 (2 : Int32)) fun r10 M9 =>
  nm (Int32.toInt64 r10) fun x12 =>
  bd2 (f_X2_part N M9 p0 (3 : Int32)) fun r14 M13 =>
  nm (Int32.toInt64 r14) fun x16 =>
  some (((x4 * x4) + (x12 * x12)) + ((2 : Int64) * ((x8 * x8) + (x16 * x16))), M13)
set_option maxRecDepth 100000 in
set_option maxHeartbeats 4000000 in
theorem k_X2_squareWhole (l : Launch) (N : Nat) (nc : Nat) (hnc : 34 ≤ nc) (M : Mem) (p0 : Int64) (r : Int64) (M' : Mem) (h : f_X2_squareWhole N M p0 = some (r, M')) (d : Nat) (hd : 1 ≤ d) : Ct l d yX2_squareWhole cX2_squareWhole 10 (some .long) shp nc [.long p0] M (some (.long r)) M' := by
  obtain ⟨d, rfl⟩ : ∃ q, d = q + 1 := ⟨d - 1, by omega⟩
  unfold f_X2_squareWhole at h
  refine Ct.of (by decide +kernel) (Nat.le_of_ble_eq_true rfl) ?_
  intro p e s m args below meth c A ad D cI cJ X hr
  refine r_sub (ls' := [(0, .long p0)]) [0] rfl ?_
  refine r_lload_n X 0 dX2_squareWhole_0 rfl rfl ?_
  refine r_iconst X 0 dX2_squareWhole_1 rfl ?_
  obtain ⟨r2, M1, h3, h⟩ := bd2_ex h
  refine r_callS X (st := []) (av := [.long p0, .int (0 : Int32)]) (k_X2_part l N _ hnc _ _ _ _ _ h3 d (by omega)) (fitR_s (Nat.le_of_ble_eq_true rfl)) ⟨Nat.le_refl 0, Nat.le_refl 0⟩ w_352 w_46 w_351 w_402 hy_X2_part rfl (Nat.le_of_ble_eq_true rfl) dX2_squareWhole_2 ?_
  refine r_i2l X dX2_squareWhole_5 ?_
  obtain ⟨x4, ex4, h⟩ := nm_ex h
  refine r_topl ex4 ?_
  refine r_lstore_n X [(2, .long x4), (0, .long p0)] dX2_squareWhole_6 rfl (Nat.le_of_ble_eq_true rfl) rfl ?_
  refine r_lload_n X 1 dX2_squareWhole_7 rfl rfl ?_
  refine r_iconst X 1 dX2_squareWhole_8 rfl ?_
  obtain ⟨r6, M5, h7, h⟩ := bd2_ex h
  refine r_callS X (st := []) (av := [.long p0, .int (1 : Int32)]) (k_X2_part l N _ hnc _ _ _ _ _ h7 d (by omega)) (fitR_s (Nat.le_of_ble_eq_true rfl)) ⟨Nat.le_refl 0, Nat.le_refl 0⟩ w_352 w_46 w_351 w_402 hy_X2_part rfl (Nat.le_of_ble_eq_true rfl) dX2_squareWhole_9 ?_
  refine r_i2l X dX2_squareWhole_12 ?_
  obtain ⟨x8, ex8, h⟩ := nm_ex h
  refine r_topl ex8 ?_
  refine r_lstore X [(4, .long x8), (2, .long x4), (0, .long p0)] dX2_squareWhole_13 (Nat.le_of_ble_eq_true rfl) rfl ?_
  refine r_lload_n X 2 dX2_squareWhole_15 rfl rfl ?_
  refine r_iconst X 2 dX2_squareWhole_16 rfl ?_
  obtain ⟨r10, M9, h11, h⟩ := bd2_ex h
  refine r_callS X (st := []) (av := [.long p0, .int (2 : Int32)]) (k_X2_part l N _ hnc _ _ _ _ _ h11 d (by omega)) (fitR_s (Nat.le_of_ble_eq_true rfl)) ⟨Nat.le_refl 0, Nat.le_refl 0⟩ w_352 w_46 w_351 w_402 hy_X2_part rfl (Nat.le_of_ble_eq_true rfl) dX2_squareWhole_17 ?_
  refine r_i2l X dX2_squareWhole_20 ?_
  obtain ⟨x12, ex12, h⟩ := nm_ex h
  refine r_topl ex12 ?_
  refine r_lstore X [(6, .long x12), (4, .long x8), (2, .long x4), (0, .long p0)] dX2_squareWhole_21 (Nat.le_of_ble_eq_true rfl) rfl ?_
  refine r_lload_n X 3 dX2_squareWhole_23 rfl rfl ?_
  refine r_iconst X 3 dX2_squareWhole_24 rfl ?_
  obtain ⟨r14, M13, h15, h⟩ := bd2_ex h
  refine r_callS X (st := []) (av := [.long p0, .int (3 : Int32)]) (k_X2_part l N _ hnc _ _ _ _ _ h15 d (by omega)) (fitR_s (Nat.le_of_ble_eq_true rfl)) ⟨Nat.le_refl 0, Nat.le_refl 0⟩ w_352 w_46 w_351 w_402 hy_X2_part rfl (Nat.le_of_ble_eq_true rfl) dX2_squareWhole_25 ?_
  refine r_i2l X dX2_squareWhole_28 ?_
  obtain ⟨x16, ex16, h⟩ := nm_ex h
  refine r_topl ex16 ?_
  refine r_lstore X [(8, .long x16), (6, .long x12), (4, .long x8), (2, .long x4), (0, .long p0)] dX2_squareWhole_29 (Nat.le_of_ble_eq_true rfl) rfl ?_
  refine r_lload_n X 3 dX2_squareWhole_31 rfl rfl ?_
  refine r_lload_n X 3 dX2_squareWhole_32 rfl rfl ?_
  refine r_lmul X dX2_squareWhole_33 ?_
  refine r_lload X 1 dX2_squareWhole_34 rfl ?_
  refine r_lload X 1 dX2_squareWhole_36 rfl ?_
  refine r_lmul X dX2_squareWhole_38 ?_
  refine r_ladd X dX2_squareWhole_39 ?_
  refine r_ldc2 X w_393 dX2_squareWhole_40 ?_
  refine r_lload X 2 dX2_squareWhole_43 rfl ?_
  refine r_lload X 2 dX2_squareWhole_45 rfl ?_
  refine r_lmul X dX2_squareWhole_47 ?_
  refine r_lload X 0 dX2_squareWhole_48 rfl ?_
  refine r_lload X 0 dX2_squareWhole_50 rfl ?_
  refine r_lmul X dX2_squareWhole_52 ?_
  refine r_ladd X dX2_squareWhole_53 ?_
  refine r_lmul X dX2_squareWhole_54 ?_
  refine r_ladd X dX2_squareWhole_55 ?_
  exact r_lretE X hr dX2_squareWhole_56 h
