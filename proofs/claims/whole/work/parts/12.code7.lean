/-! Part 12: methods as pure functions (f_..), and their contracts (k_..) -/
def l_X4_rowsOf_5 (N : Nat)   (a0 : Nat) : Nat → Mem → Int32 → Int32 → Int32 → Option (Int32 × Mem)
  | 0, _, _, _, _ => none
  | n + 1, M, v2, v3, v4 =>
    if v2 ≤ v4 then
      (if v2 < (1 : Int32) then
        (some ((0 : Int32), M))
      else
        (if (v3 - v3 / (8 : Int32) * (8 : Int32)) = 0 then
          (bd (f_X6_copyAll shp N M 2 28) fun M4 =>
          bd2 (f_X4_layTurns N 12 M4 (0 : Int32) (imin v2 (6 : Int32)) (0 : Int64) (0 : Int32) a0) fun r7 M6 =>
          some (r7, M6))
        else
          (some ((0 : Int32), M))))
    else
      (bd2 (f_X6_at shp N M a0 v4) fun r10 M9 =>
      l_X4_rowsOf_5 N a0 n M9 v2 (v3 + r10) (v4 + 1))
def f_X4_rowsOf (N : Nat) (M : Mem) (a0 : Nat) (p1 : Int32) : Option (Int32 × Mem) :=
  l_X4_rowsOf_5 N a0 N M p1 (0 : Int32) (0 : Int32)
set_option maxRecDepth 100000 in
set_option maxHeartbeats 4000000 in
theorem k_X4_rowsOf (l : Launch) (N : Nat) (nc : Nat) (hnc : 34 ≤ nc) (M : Mem) (a0 : Nat) (p1 : Int32) (ha0 : a0 < nc ∨ 45 ≤ a0) (r : Int32) (M' : Mem) (h : f_X4_rowsOf N M a0 p1 = some (r, M')) (d : Nat) (hd : 15 ≤ d) : Ct l d yX4_rowsOf cX4_rowsOf 5 (some .int) shp nc [.ref 27, .ref a0, .int p1] M (some (.int r)) M' := by
  obtain ⟨d, rfl⟩ : ∃ q, d = q + 1 := ⟨d - 1, by omega⟩
  unfold f_X4_rowsOf at h
  refine Ct.of (by decide +kernel) (Nat.le_of_ble_eq_true rfl) ?_
  intro p e s m args below meth c A ad D cI cJ X hr
  have hl5 : ∀ (n : Nat) (M : Mem) (v2 : Int32) (v3 : Int32) (v4 : Int32), l_X4_rowsOf_5 N a0 n M v2 v3 v4 = some (r, M') → AW p l e (rmd (d + 1)) s m args below meth c 5 A ad D cI cJ shp nc 0 0 (MQ below (Qq A ad D cI cJ shp nc (some (.int r)) M') args s 0 0 A) M 5 [(0, .ref 27), (1, .ref a0), (2, .int v2), (3, .int v3), (4, .int v4)] [] := by
    intro n
    induction n with
    | zero => intro M v2 v3 v4 h; cases h
    | succ n ih =>
      intro M v2 v3 v4 h
      rw [l_X4_rowsOf_5] at h
      refine r_iload X 4 dX4_rowsOf_5 rfl ?_
      refine r_iload_n X 2 dX4_rowsOf_7 rfl rfl ?_
      refine r_icge X 26 dX4_rowsOf_8 (by decide) (fun c1 => ?_) (fun c1 => ?_)
      · replace h := it_t c1 h
        refine r_iload_n X 2 dX4_rowsOf_26 rfl rfl ?_
        refine r_iconst X 1 dX4_rowsOf_27 rfl ?_
        refine r_iclt X 38 dX4_rowsOf_28 (by decide) (fun c2 => ?_) (fun c2 => ?_)
        · replace h := it_t c2 h
          refine r_iconst X 0 dX4_rowsOf_38 rfl ?_
          exact r_iretE X hr dX4_rowsOf_39 h
        · replace h := it_f c2 h
          refine r_iload_n X 3 dX4_rowsOf_31 rfl rfl ?_
          refine r_bipush X 8 dX4_rowsOf_32 rfl ?_
          refine r_irem X (by decide) dX4_rowsOf_34 ?_
          refine r_ifeq X 40 dX4_rowsOf_35 (by decide) (fun c3 => ?_) (fun c3 => ?_)
          · replace h := it_t c3 h
            refine r_aload_n X 0 dX4_rowsOf_40 rfl rfl ?_
            refine r_getr X 0 1 in_X4 (ci := 3) rfl rfl (ltn hnc rfl) (Nat.le_of_ble_eq_true rfl) rfl w_192 dX4_rowsOf_41 (by decide) ?_
            refine r_getr X 0 2 in_X0 (ci := 0) rfl rfl (ltn hnc rfl) (Nat.le_of_ble_eq_true rfl) rfl w_75 dX4_rowsOf_44 (by decide) ?_
            refine r_aload_n X 0 dX4_rowsOf_47 rfl rfl ?_
            refine r_getr X 2 28 in_X4 (ci := 3) rfl rfl (ltn hnc rfl) (Nat.le_of_ble_eq_true rfl) rfl w_194 dX4_rowsOf_48 (by decide) ?_
            obtain ⟨M4, h5, h⟩ := bd_ex h
            refine r_callSN X (st := []) (av := [.ref 2, .ref 28]) (k_X6_copyAll l N _ _ _ _ _ (Or.inl (ltn hnc rfl)) (Or.inl (ltn hnc rfl)) _ h5 d (by omega)) (fitR_s (Nat.le_of_ble_eq_true rfl)) ⟨Nat.le_refl 0, Nat.le_refl 0⟩ w_68 w_39 w_67 w_543 hy_X6_copyAll rfl (Nat.le_of_ble_eq_true rfl) dX4_rowsOf_51 ?_
            refine r_aload_n X 0 dX4_rowsOf_54 rfl rfl ?_
            refine r_iconst X 0 dX4_rowsOf_55 rfl ?_
            refine r_iload_n X 2 dX4_rowsOf_56 rfl rfl ?_
            refine r_bipush X 6 dX4_rowsOf_57 rfl ?_
            refine r_min X (Nat.succ_le_succ (Nat.zero_le _)) (room21 _) ⟨Nat.le_refl 0, Nat.le_refl 0⟩ w_544 w_545 w_48 w_546 (Nat.le_of_ble_eq_true rfl) dX4_rowsOf_59 ?_
            refine r_lconst X 0 dX4_rowsOf_62 rfl ?_
            refine r_iconst X 0 dX4_rowsOf_63 rfl ?_
            refine r_aload_n X 1 dX4_rowsOf_64 rfl rfl ?_
            obtain ⟨r7, M6, h8, h⟩ := bd2_ex h
            refine r_callS X (st := []) (av := [.ref 27, .int (0 : Int32), .int (imin v2 (6 : Int32)), .long (0 : Int64), .int (0 : Int32), .ref a0]) (k_X4_layTurns l N _ hnc 12 _ _ _ _ _ _ ha0 _ _ h8 d (by omega)) (fitR_s (Nat.le_of_ble_eq_true rfl)) ⟨Nat.le_refl 0, Nat.le_refl 0⟩ w_577 w_44 w_576 w_575 hy_X4_layTurns rfl (Nat.le_of_ble_eq_true rfl) dX4_rowsOf_65 ?_
            exact r_iretE X hr dX4_rowsOf_68 h
          · replace h := it_f c3 h
            refine r_iconst X 0 dX4_rowsOf_38 rfl ?_
            exact r_iretE X hr dX4_rowsOf_39 h
      · replace h := it_f c1 h
        refine r_iload_n X 3 dX4_rowsOf_11 rfl rfl ?_
        refine r_aload_n X 1 dX4_rowsOf_12 rfl rfl ?_
        refine r_iload X 4 dX4_rowsOf_13 rfl ?_
        obtain ⟨r10, M9, h11, h⟩ := bd2_ex h
        refine r_callSN X (st := [.int v3]) (av := [.ref a0, .int v4]) (k_X6_at l N _ _ _ _ _ ha0 _ _ h11 d (by omega)) (fitR_s (Nat.le_of_ble_eq_true rfl)) ⟨Nat.le_refl 0, Nat.le_refl 0⟩ w_71 w_39 w_70 w_551 hy_X6_at rfl (Nat.le_of_ble_eq_true rfl) dX4_rowsOf_15 ?_
        refine r_iadd X dX4_rowsOf_18 ?_
        refine r_istore_n X [(3, .int (v3 + r10)), (0, .ref 27), (1, .ref a0), (2, .int v2), (4, .int v4)] dX4_rowsOf_19 rfl (Nat.le_of_ble_eq_true rfl) rfl ?_
        refine r_iinc X [(4, .int (v4 + 1)), (3, .int (v3 + r10)), (0, .ref 27), (1, .ref a0), (2, .int v2)] 4 (v4 + 1) dX4_rowsOf_20 rfl rfl (Nat.le_of_ble_eq_true rfl) rfl ?_
        refine r_goto X 5 dX4_rowsOf_23 (by decide) ?_
        refine r_sub (ls' := [(0, .ref 27), (1, .ref a0), (2, .int v2), (3, .int (v3 + r10)), (4, .int (v4 + 1))]) [2, 3, 4, 1, 0] rfl ?_
        exact ih M9 v2 (v3 + r10) (v4 + 1) h
  refine r_sub (ls' := [(0, .ref 27), (1, .ref a0), (2, .int p1)]) [0, 1, 2] rfl ?_
  refine r_iconst X 0 dX4_rowsOf_0 rfl ?_
  refine r_istore_n X [(3, .int (0 : Int32)), (0, .ref 27), (1, .ref a0), (2, .int p1)] dX4_rowsOf_1 rfl (Nat.le_of_ble_eq_true rfl) rfl ?_
  refine r_iconst X 0 dX4_rowsOf_2 rfl ?_
  refine r_istore X [(4, .int (0 : Int32)), (3, .int (0 : Int32)), (0, .ref 27), (1, .ref a0), (2, .int p1)] dX4_rowsOf_3 (Nat.le_of_ble_eq_true rfl) rfl ?_
  refine r_sub (ls' := [(0, .ref 27), (1, .ref a0), (2, .int p1), (3, .int (0 : Int32)), (4, .int (0 : Int32))]) [2, 3, 4, 1, 0] rfl ?_
  exact hl5  N M p1 (0 : Int32) (0 : Int32) h
def f_X6_photo (N : Nat) (M : Mem)  : Option (Int32 × Mem) :=
  nm (seI M 0 10 (0 : Int32)) fun M1 =>
  bd2 (f_X4_rowsOf N M1 32 (M.1 0 10)) fun r3 M2 =>
  some (r3, M2)
set_option maxRecDepth 100000 in
set_option maxHeartbeats 4000000 in
theorem k_X6_photo (l : Launch) (N : Nat) (nc : Nat) (hnc : 34 ≤ nc) (M : Mem)  (r : Int32) (M' : Mem) (h : f_X6_photo N M  = some (r, M')) (d : Nat) (hd : 16 ≤ d) : Ct l d yX6_photo cX6_photo 2 (some .int) shp nc [.ref 0] M (some (.int r)) M' := by
  obtain ⟨d, rfl⟩ : ∃ q, d = q + 1 := ⟨d - 1, by omega⟩
  unfold f_X6_photo at h
  refine Ct.of (by decide +kernel) (Nat.le_of_ble_eq_true rfl) ?_
  intro p e s m args below meth c A ad D cI cJ X hr
  refine r_sub (ls' := [(0, .ref 0)]) [0] rfl ?_
  refine r_aload_n X 0 dX6_photo_0 rfl rfl ?_
  refine r_geti X 10 in_X6 (ci := 5) rfl rfl (ltn hnc rfl) (Nat.le_of_ble_eq_true rfl) rfl w_250 dX6_photo_1 ?_
  refine r_istore_n X [(1, .int (M.1 0 10)), (0, .ref 0)] dX6_photo_4 rfl (Nat.le_of_ble_eq_true rfl) rfl ?_
  refine r_aload_n X 1 dX6_photo_5 rfl rfl ?_
  refine r_iconst X 0 dX6_photo_6 rfl ?_
  obtain ⟨M1, eM1, h⟩ := nm_ex h
  refine r_puti X 10 in_X6 (ci := 5) rfl tyX6_ok nmX6 rfl (ltn hnc rfl) (Nat.le_of_ble_eq_true rfl) rfl w_250 rfl (ty := .int) rfl rfl rfl dX6_photo_7 ?_
  refine r_mem eM1 ?_
  refine r_aload_n X 1 dX6_photo_10 rfl rfl ?_
  refine r_getr X 6 27 in_X6 (ci := 5) rfl rfl (ltn hnc rfl) (Nat.le_of_ble_eq_true rfl) rfl w_246 dX6_photo_11 (by decide) ?_
  refine r_aload_n X 1 dX6_photo_14 rfl rfl ?_
  refine r_getr X 9 32 in_X6 (ci := 5) rfl rfl (ltn hnc rfl) (Nat.le_of_ble_eq_true rfl) rfl w_249 dX6_photo_15 (by decide) ?_
  refine r_iload_n X 0 dX6_photo_18 rfl rfl ?_
  obtain ⟨r3, M2, h4, h⟩ := bd2_ex h
  refine r_callV X (st := []) (av := [.ref 32, .int (M.1 0 10)]) (k := 27) (ci := 3) (k_X4_rowsOf l N _ hnc _ _ _ (Or.inl (ltn hnc rfl)) _ _ h4 d (by omega)) (fitR_s (Nat.le_of_ble_eq_true rfl)) ⟨Nat.le_refl 0, Nat.le_refl 0⟩ rfl (ltn hnc rfl) rfl w_574 w_44 w_572 w_573 w_571 hy_X4_rowsOf rfl (Nat.le_of_ble_eq_true rfl) dX6_photo_19 ?_
  exact r_iretE X hr dX6_photo_22 h
def f_X7_photo (N : Nat) (M : Mem)  : Option (Int32 × Mem) :=
  nm (seI M 34 21 (0 : Int32)) fun M1 =>
  if (M.1 34 21) = 0 then
    (some ((0 : Int32), M1))
  else
    (bd (f_X7_begins N M1 (M.1 34 21)) fun M3 =>
    nm (seI M3 34 18 (0 : Int32)) fun M5 =>
    bd (f_X7_goesOn N 12 M5 (0 : Int32) (2 : Int32)) fun M6 =>
    some (M6.1 34 18, M6))
set_option maxRecDepth 100000 in
set_option maxHeartbeats 4000000 in
theorem k_X7_photo (l : Launch) (N : Nat) (nc : Nat) (hnc : 45 ≤ nc) (M : Mem)  (r : Int32) (M' : Mem) (h : f_X7_photo N M  = some (r, M')) (d : Nat) (hd : 18 ≤ d) : Ct l d yX7_photo cX7_photo 2 (some .int) shp nc [.ref 34] M (some (.int r)) M' := by
  obtain ⟨d, rfl⟩ : ∃ q, d = q + 1 := ⟨d - 1, by omega⟩
  unfold f_X7_photo at h
  refine Ct.of (by decide +kernel) (Nat.le_of_ble_eq_true rfl) ?_
  intro p e s m args below meth c A ad D cI cJ X hr
  refine r_sub (ls' := [(0, .ref 34)]) [0] rfl ?_
  refine r_aload_n X 0 dX7_photo_0 rfl rfl ?_
  refine r_geti X 21 in_X7 (ci := 6) rfl rfl (ltn hnc rfl) (Nat.le_of_ble_eq_true rfl) rfl w_630 dX7_photo_1 ?_
  refine r_istore_n X [(1, .int (M.1 34 21)), (0, .ref 34)] dX7_photo_4 rfl (Nat.le_of_ble_eq_true rfl) rfl ?_
  refine r_aload_n X 1 dX7_photo_5 rfl rfl ?_
  refine r_iconst X 0 dX7_photo_6 rfl ?_
  obtain ⟨M1, eM1, h⟩ := nm_ex h
  refine r_puti X 21 in_X7 (ci := 6) rfl tyX7_ok nmX7 rfl (ltn hnc rfl) (Nat.le_of_ble_eq_true rfl) rfl w_630 rfl (ty := .int) rfl rfl rfl dX7_photo_7 ?_
  refine r_mem eM1 ?_
  refine r_iload_n X 0 dX7_photo_10 rfl rfl ?_
  refine r_ifne X 16 dX7_photo_11 (by decide) (fun c2 => ?_) (fun c2 => ?_)
  · replace h := it_f c2 h
    refine r_aload_n X 1 dX7_photo_16 rfl rfl ?_
    refine r_iload_n X 0 dX7_photo_17 rfl rfl ?_
    obtain ⟨M3, h4, h⟩ := bd_ex h
    refine r_callV X (st := []) (av := [.int (M.1 34 21)]) (k := 34) (ci := 6) (k_X7_begins l N _ hnc _ _ _ h4 d (by omega)) (fitR_s (Nat.le_of_ble_eq_true rfl)) ⟨Nat.le_refl 0, Nat.le_refl 0⟩ rfl (ltn hnc rfl) rfl w_835 w_47 w_834 w_32 w_832 hy_X7_begins rfl (Nat.le_of_ble_eq_true rfl) dX7_photo_18 ?_
    refine r_aload_n X 1 dX7_photo_21 rfl rfl ?_
    refine r_iconst X 0 dX7_photo_22 rfl ?_
    obtain ⟨M5, eM5, h⟩ := nm_ex h
    refine r_puti X 18 in_X7 (ci := 6) rfl tyX7_ok nmX7 rfl (ltn hnc rfl) (Nat.le_of_ble_eq_true rfl) rfl w_627 rfl (ty := .int) rfl rfl rfl dX7_photo_23 ?_
    refine r_mem eM5 ?_
    refine r_aload_n X 1 dX7_photo_26 rfl rfl ?_
    refine r_iconst X 0 dX7_photo_27 rfl ?_
    refine r_iconst X 2 dX7_photo_28 rfl ?_
    obtain ⟨M6, h7, h⟩ := bd_ex h
    refine r_callV X (st := []) (av := [.int (0 : Int32), .int (2 : Int32)]) (k := 34) (ci := 6) (k_X7_goesOn l N _ hnc 12 _ _ _ _ h7 d (by omega)) (fitR_s (Nat.le_of_ble_eq_true rfl)) ⟨Nat.le_refl 0, Nat.le_refl 0⟩ rfl (ltn hnc rfl) rfl w_839 w_47 w_838 w_33 w_836 hy_X7_goesOn rfl (Nat.le_of_ble_eq_true rfl) dX7_photo_29 ?_
    refine r_aload_n X 1 dX7_photo_32 rfl rfl ?_
    refine r_geti X 18 in_X7 (ci := 6) rfl rfl (ltn hnc rfl) (Nat.le_of_ble_eq_true rfl) rfl w_627 dX7_photo_33 ?_
    exact r_iretE X hr dX7_photo_36 h
  · replace h := it_t c2 h
    refine r_iconst X 0 dX7_photo_14 rfl ?_
    exact r_iretE X hr dX7_photo_15 h
def l_X0_becomes_8_2 (N : Nat)   (a0 : Nat) : Nat → Mem → Int32 → Int32 → Option Mem
  | 0, _, _, _ => none
  | n + 1, M, v2, v3 =>
    if v2 ≤ v3 then
      (nm (seI M 8 3 v2) fun M2 =>
      some M2)
    else
      (bd2 (f_X6_at shp N M a0 v3) fun r4 M3 =>
      bd (f_X6_put shp N M3 11 v3 r4) fun M6 =>
      l_X0_becomes_8_2 N a0 n M6 v2 (v3 + 1))
def f_X0_becomes_8 (N : Nat) (M : Mem) (a0 : Nat) (p1 : Int32) : Option Mem :=
  l_X0_becomes_8_2 N a0 N M p1 (0 : Int32)
set_option maxRecDepth 100000 in
set_option maxHeartbeats 4000000 in
theorem k_X0_becomes_8 (l : Launch) (N : Nat) (nc : Nat) (hnc : 34 ≤ nc) (M : Mem) (a0 : Nat) (p1 : Int32) (ha0 : a0 < nc ∨ 45 ≤ a0) (M' : Mem) (h : f_X0_becomes_8 N M a0 p1 = some M') (d : Nat) (hd : 1 ≤ d) : Ct l d yX0_becomes cX0_becomes 4 none shp nc [.ref 8, .ref a0, .int p1] M none M' := by
  obtain ⟨d, rfl⟩ : ∃ q, d = q + 1 := ⟨d - 1, by omega⟩
  unfold f_X0_becomes_8 at h
  refine Ct.of (by decide +kernel) (Nat.le_of_ble_eq_true rfl) ?_
  intro p e s m args below meth c A ad D cI cJ X hr
  have hl2 : ∀ (n : Nat) (M : Mem) (v2 : Int32) (v3 : Int32), l_X0_becomes_8_2 N a0 n M v2 v3 = some M' → AW p l e (rmd (d + 1)) s m args below meth c 4 A ad D cI cJ shp nc 0 0 (MQ below (Qq A ad D cI cJ shp nc none M') args s 0 0 A) M 2 [(0, .ref 8), (1, .ref a0), (2, .int v2), (3, .int v3)] [] := by
    intro n
    induction n with
    | zero => intro M v2 v3 h; cases h
    | succ n ih =>
      intro M v2 v3 h
      rw [l_X0_becomes_8_2] at h
      refine r_iload_n X 3 dX0_becomes_2 rfl rfl ?_
      refine r_iload_n X 2 dX0_becomes_3 rfl rfl ?_
      refine r_icge X 26 dX0_becomes_4 (by decide) (fun c1 => ?_) (fun c1 => ?_)
      · replace h := it_t c1 h
        refine r_aload_n X 0 dX0_becomes_26 rfl rfl ?_
        refine r_iload_n X 2 dX0_becomes_27 rfl rfl ?_
        obtain ⟨M2, eM2, h⟩ := nm_ex h
        refine r_puti X 3 in_X0 (ci := 0) rfl tyX0_ok nmX0 rfl (ltn hnc rfl) (Nat.le_of_ble_eq_true rfl) rfl w_81 rfl (ty := .int) rfl rfl rfl dX0_becomes_28 ?_
        refine r_mem eM2 ?_
        exact r_vretE X hr dX0_becomes_31 h
      · replace h := it_f c1 h
        refine r_aload_n X 0 dX0_becomes_7 rfl rfl ?_
        refine r_getr X 2 11 in_X0 (ci := 0) rfl rfl (ltn hnc rfl) (Nat.le_of_ble_eq_true rfl) rfl w_79 dX0_becomes_8 (by decide) ?_
        refine r_iload_n X 3 dX0_becomes_11 rfl rfl ?_
        refine r_aload_n X 1 dX0_becomes_12 rfl rfl ?_
        refine r_iload_n X 3 dX0_becomes_13 rfl rfl ?_
        obtain ⟨r4, M3, h5, h⟩ := bd2_ex h
        refine r_callSN X (st := [.int v3, .ref 11]) (av := [.ref a0, .int v3]) (k_X6_at l N _ _ _ _ _ ha0 _ _ h5 d (by omega)) (fitR_s (Nat.le_of_ble_eq_true rfl)) ⟨Nat.le_refl 0, Nat.le_refl 0⟩ w_71 w_39 w_70 w_301 hy_X6_at rfl (Nat.le_of_ble_eq_true rfl) dX0_becomes_14 ?_
        obtain ⟨M6, h7, h⟩ := bd_ex h
        refine r_callSN X (st := []) (av := [.ref 11, .int v3, .int r4]) (k_X6_put l N _ _ _ _ _ _ (Or.inl (ltn hnc rfl)) _ h7 d (by omega)) (fitR_s (Nat.le_of_ble_eq_true rfl)) ⟨Nat.le_refl 0, Nat.le_refl 0⟩ w_287 w_39 w_286 w_302 hy_X6_put rfl (Nat.le_of_ble_eq_true rfl) dX0_becomes_17 ?_
        refine r_iinc X [(3, .int (v3 + 1)), (0, .ref 8), (1, .ref a0), (2, .int v2)] 3 (v3 + 1) dX0_becomes_20 rfl rfl (Nat.le_of_ble_eq_true rfl) rfl ?_
        refine r_goto X 2 dX0_becomes_23 (by decide) ?_
        refine r_sub (ls' := [(0, .ref 8), (1, .ref a0), (2, .int v2), (3, .int (v3 + 1))]) [1, 2, 3, 0] rfl ?_
        exact ih M6 v2 (v3 + 1) h
  refine r_sub (ls' := [(0, .ref 8), (1, .ref a0), (2, .int p1)]) [0, 1, 2] rfl ?_
  refine r_iconst X 0 dX0_becomes_0 rfl ?_
  refine r_istore_n X [(3, .int (0 : Int32)), (0, .ref 8), (1, .ref a0), (2, .int p1)] dX0_becomes_1 rfl (Nat.le_of_ble_eq_true rfl) rfl ?_
  refine r_sub (ls' := [(0, .ref 8), (1, .ref a0), (2, .int p1), (3, .int (0 : Int32))]) [1, 2, 3, 0] rfl ?_
  exact hl2  N M p1 (0 : Int32) h
def f_X0_copy (N : Nat) (M : Mem)  : Option Mem :=
  bd (f_X6_copyAll shp N M 2 9) fun M1 =>
  bd (f_X6_copyAll shp N M1 3 10) fun M3 =>
  bd (f_X0_becomes_8 N M3 4 (M3.1 1 3)) fun M5 =>
  bd (f_X6_copyAll shp N M5 5 12) fun M7 =>
  bd (f_X6_copyAll shp N M7 6 13) fun M9 =>
  bd (f_X6_copyAll shp N M9 7 14) fun M11 =>
  nm (seI M11 8 7 (M11.1 1 7)) fun M13 =>
  some M13
set_option maxRecDepth 100000 in
set_option maxHeartbeats 4000000 in
theorem k_X0_copy (l : Launch) (N : Nat) (nc : Nat) (hnc : 34 ≤ nc) (M : Mem)  (M' : Mem) (h : f_X0_copy N M  = some M') (d : Nat) (hd : 2 ≤ d) : Ct l d yX0_copy cX0_copy 2 none shp nc [.ref 8, .ref 1] M none M' := by
  obtain ⟨d, rfl⟩ : ∃ q, d = q + 1 := ⟨d - 1, by omega⟩
  unfold f_X0_copy at h
  refine Ct.of (by decide +kernel) (Nat.le_of_ble_eq_true rfl) ?_
  intro p e s m args below meth c A ad D cI cJ X hr
  refine r_sub (ls' := [(0, .ref 8), (1, .ref 1)]) [0, 1] rfl ?_
  refine r_aload_n X 1 dX0_copy_0 rfl rfl ?_
  refine r_getr X 0 2 in_X0 (ci := 0) rfl rfl (ltn hnc rfl) (Nat.le_of_ble_eq_true rfl) rfl w_74 dX0_copy_1 (by decide) ?_
  refine r_aload_n X 0 dX0_copy_4 rfl rfl ?_
  refine r_getr X 0 9 in_X0 (ci := 0) rfl rfl (ltn hnc rfl) (Nat.le_of_ble_eq_true rfl) rfl w_74 dX0_copy_5 (by decide) ?_
  obtain ⟨M1, h2, h⟩ := bd_ex h
  refine r_callSN X (st := []) (av := [.ref 2, .ref 9]) (k_X6_copyAll l N _ _ _ _ _ (Or.inl (ltn hnc rfl)) (Or.inl (ltn hnc rfl)) _ h2 d (by omega)) (fitR_s (Nat.le_of_ble_eq_true rfl)) ⟨Nat.le_refl 0, Nat.le_refl 0⟩ w_68 w_39 w_67 w_66 hy_X6_copyAll rfl (Nat.le_of_ble_eq_true rfl) dX0_copy_8 ?_
  refine r_aload_n X 1 dX0_copy_11 rfl rfl ?_
  refine r_getr X 1 3 in_X0 (ci := 0) rfl rfl (ltn hnc rfl) (Nat.le_of_ble_eq_true rfl) rfl w_77 dX0_copy_12 (by decide) ?_
  refine r_aload_n X 0 dX0_copy_15 rfl rfl ?_
  refine r_getr X 1 10 in_X0 (ci := 0) rfl rfl (ltn hnc rfl) (Nat.le_of_ble_eq_true rfl) rfl w_77 dX0_copy_16 (by decide) ?_
  obtain ⟨M3, h4, h⟩ := bd_ex h
  refine r_callSN X (st := []) (av := [.ref 3, .ref 10]) (k_X6_copyAll l N _ _ _ _ _ (Or.inl (ltn hnc rfl)) (Or.inl (ltn hnc rfl)) _ h4 d (by omega)) (fitR_s (Nat.le_of_ble_eq_true rfl)) ⟨Nat.le_refl 0, Nat.le_refl 0⟩ w_68 w_39 w_67 w_66 hy_X6_copyAll rfl (Nat.le_of_ble_eq_true rfl) dX0_copy_19 ?_
  refine r_aload_n X 0 dX0_copy_22 rfl rfl ?_
  refine r_aload_n X 1 dX0_copy_23 rfl rfl ?_
  refine r_getr X 2 4 in_X0 (ci := 0) rfl rfl (ltn hnc rfl) (Nat.le_of_ble_eq_true rfl) rfl w_79 dX0_copy_24 (by decide) ?_
  refine r_aload_n X 1 dX0_copy_27 rfl rfl ?_
  refine r_geti X 3 in_X0 (ci := 0) rfl rfl (ltn hnc rfl) (Nat.le_of_ble_eq_true rfl) rfl w_81 dX0_copy_28 ?_
  obtain ⟨M5, h6, h⟩ := bd_ex h
  refine r_callV X (st := []) (av := [.ref 4, .int (M3.1 1 3)]) (k := 8) (ci := 0) (k_X0_becomes_8 l N _ hnc _ _ _ (Or.inl (ltn hnc rfl)) _ h6 d (by omega)) (fitR_s (Nat.le_of_ble_eq_true rfl)) ⟨Nat.le_refl 0, Nat.le_refl 0⟩ rfl (ltn hnc rfl) rfl w_300 w_40 w_298 w_299 w_586 hy_X0_becomes rfl (Nat.le_of_ble_eq_true rfl) dX0_copy_31 ?_
  refine r_aload_n X 1 dX0_copy_34 rfl rfl ?_
  refine r_getr X 4 5 in_X0 (ci := 0) rfl rfl (ltn hnc rfl) (Nat.le_of_ble_eq_true rfl) rfl w_83 dX0_copy_35 (by decide) ?_
  refine r_aload_n X 0 dX0_copy_38 rfl rfl ?_
  refine r_getr X 4 12 in_X0 (ci := 0) rfl rfl (ltn hnc rfl) (Nat.le_of_ble_eq_true rfl) rfl w_83 dX0_copy_39 (by decide) ?_
  obtain ⟨M7, h8, h⟩ := bd_ex h
  refine r_callSN X (st := []) (av := [.ref 5, .ref 12]) (k_X6_copyAll l N _ _ _ _ _ (Or.inl (ltn hnc rfl)) (Or.inl (ltn hnc rfl)) _ h8 d (by omega)) (fitR_s (Nat.le_of_ble_eq_true rfl)) ⟨Nat.le_refl 0, Nat.le_refl 0⟩ w_68 w_39 w_67 w_66 hy_X6_copyAll rfl (Nat.le_of_ble_eq_true rfl) dX0_copy_42 ?_
  refine r_aload_n X 1 dX0_copy_45 rfl rfl ?_
  refine r_getr X 5 6 in_X0 (ci := 0) rfl rfl (ltn hnc rfl) (Nat.le_of_ble_eq_true rfl) rfl w_85 dX0_copy_46 (by decide) ?_
  refine r_aload_n X 0 dX0_copy_49 rfl rfl ?_
  refine r_getr X 5 13 in_X0 (ci := 0) rfl rfl (ltn hnc rfl) (Nat.le_of_ble_eq_true rfl) rfl w_85 dX0_copy_50 (by decide) ?_
  obtain ⟨M9, h10, h⟩ := bd_ex h
  refine r_callSN X (st := []) (av := [.ref 6, .ref 13]) (k_X6_copyAll l N _ _ _ _ _ (Or.inl (ltn hnc rfl)) (Or.inl (ltn hnc rfl)) _ h10 d (by omega)) (fitR_s (Nat.le_of_ble_eq_true rfl)) ⟨Nat.le_refl 0, Nat.le_refl 0⟩ w_68 w_39 w_67 w_66 hy_X6_copyAll rfl (Nat.le_of_ble_eq_true rfl) dX0_copy_53 ?_
  refine r_aload_n X 1 dX0_copy_56 rfl rfl ?_
  refine r_getr X 6 7 in_X0 (ci := 0) rfl rfl (ltn hnc rfl) (Nat.le_of_ble_eq_true rfl) rfl w_87 dX0_copy_57 (by decide) ?_
  refine r_aload_n X 0 dX0_copy_60 rfl rfl ?_
  refine r_getr X 6 14 in_X0 (ci := 0) rfl rfl (ltn hnc rfl) (Nat.le_of_ble_eq_true rfl) rfl w_87 dX0_copy_61 (by decide) ?_
  obtain ⟨M11, h12, h⟩ := bd_ex h
  refine r_callSN X (st := []) (av := [.ref 7, .ref 14]) (k_X6_copyAll l N _ _ _ _ _ (Or.inl (ltn hnc rfl)) (Or.inl (ltn hnc rfl)) _ h12 d (by omega)) (fitR_s (Nat.le_of_ble_eq_true rfl)) ⟨Nat.le_refl 0, Nat.le_refl 0⟩ w_68 w_39 w_67 w_66 hy_X6_copyAll rfl (Nat.le_of_ble_eq_true rfl) dX0_copy_64 ?_
  refine r_aload_n X 0 dX0_copy_67 rfl rfl ?_
  refine r_aload_n X 1 dX0_copy_68 rfl rfl ?_
  refine r_geti X 7 in_X0 (ci := 0) rfl rfl (ltn hnc rfl) (Nat.le_of_ble_eq_true rfl) rfl w_89 dX0_copy_69 ?_
  obtain ⟨M13, eM13, h⟩ := nm_ex h
  refine r_puti X 7 in_X0 (ci := 0) rfl tyX0_ok nmX0 rfl (ltn hnc rfl) (Nat.le_of_ble_eq_true rfl) rfl w_89 rfl (ty := .int) rfl rfl rfl dX0_copy_72 ?_
  refine r_mem eM13 ?_
  exact r_vretE X hr dX0_copy_75 h
def f_X6_image (N : Nat) (M : Mem)  : Option (Int32 × Mem) :=
  bd (f_X0_copy N M ) fun M1 =>
  nm (seI M1 0 2 (1 : Int32)) fun M3 =>
  some (M3.1 1 3, M3)
set_option maxRecDepth 100000 in
set_option maxHeartbeats 4000000 in
theorem k_X6_image (l : Launch) (N : Nat) (nc : Nat) (hnc : 34 ≤ nc) (M : Mem)  (r : Int32) (M' : Mem) (h : f_X6_image N M  = some (r, M')) (d : Nat) (hd : 3 ≤ d) : Ct l d yX6_image cX6_image 1 (some .int) shp nc [.ref 0] M (some (.int r)) M' := by
  obtain ⟨d, rfl⟩ : ∃ q, d = q + 1 := ⟨d - 1, by omega⟩
  unfold f_X6_image at h
  refine Ct.of (by decide +kernel) (Nat.le_of_ble_eq_true rfl) ?_
  intro p e s m args below meth c A ad D cI cJ X hr
  refine r_sub (ls' := [(0, .ref 0)]) [0] rfl ?_
  refine r_aload_n X 0 dX6_image_0 rfl rfl ?_
  refine r_getr X 1 8 in_X6 (ci := 5) rfl rfl (ltn hnc rfl) (Nat.le_of_ble_eq_true rfl) rfl w_241 dX6_image_1 (by decide) ?_
  refine r_aload_n X 0 dX6_image_4 rfl rfl ?_
  refine r_getr X 0 1 in_X6 (ci := 5) rfl rfl (ltn hnc rfl) (Nat.le_of_ble_eq_true rfl) rfl w_240 dX6_image_5 (by decide) ?_
  obtain ⟨M1, h2, h⟩ := bd_ex h
  refine r_callV X (st := []) (av := [.ref 1]) (k := 8) (ci := 0) (k_X0_copy l N _ hnc _  _ h2 d (by omega)) (fitR_s (Nat.le_of_ble_eq_true rfl)) ⟨Nat.le_refl 0, Nat.le_refl 0⟩ rfl (ltn hnc rfl) rfl w_585 w_40 w_583 w_584 w_582 hy_X0_copy rfl (Nat.le_of_ble_eq_true rfl) dX6_image_8 ?_
  refine r_aload_n X 0 dX6_image_11 rfl rfl ?_
  refine r_iconst X 1 dX6_image_12 rfl ?_
  obtain ⟨M3, eM3, h⟩ := nm_ex h
  refine r_puti X 2 in_X6 (ci := 5) rfl tyX6_ok nmX6 rfl (ltn hnc rfl) (Nat.le_of_ble_eq_true rfl) rfl w_242 rfl (ty := .boolean) rfl rfl rfl dX6_image_13 ?_
  refine r_mem eM3 ?_
  refine r_aload_n X 0 dX6_image_16 rfl rfl ?_
  refine r_getr X 0 1 in_X6 (ci := 5) rfl rfl (ltn hnc rfl) (Nat.le_of_ble_eq_true rfl) rfl w_240 dX6_image_17 (by decide) ?_
  refine r_geti X 3 in_X0 (ci := 0) rfl rfl (ltn hnc rfl) (Nat.le_of_ble_eq_true rfl) rfl w_82 dX6_image_20 ?_
  exact r_iretE X hr dX6_image_23 h
def l_X7_image_2 (N : Nat)    : Nat → Mem → Int32 → Option (Int32 × Mem)
  | 0, _, _ => none
  | n + 1, M, v1 =>
    if (56 : Int32) ≤ v1 then
      (nm (seI M 34 3 (1 : Int32)) fun M2 =>
      some (M2.1 36 (ix (55 : Int32)), M2))
    else
      (ck (inb v1 56) <|
      ck (inb v1 56) <|
      nm (seI M 37 (ix v1) (M.1 36 (ix v1))) fun M5 =>
      l_X7_image_2 N n M5 (v1 + 1))
def f_X7_image (N : Nat) (M : Mem)  : Option (Int32 × Mem) :=
  l_X7_image_2 N N M (0 : Int32)
set_option maxRecDepth 100000 in
set_option maxHeartbeats 4000000 in
theorem k_X7_image (l : Launch) (N : Nat) (nc : Nat) (hnc : 45 ≤ nc) (M : Mem)  (r : Int32) (M' : Mem) (h : f_X7_image N M  = some (r, M')) (d : Nat) (hd : 0 ≤ d) : Ct l d yX7_image cX7_image 2 (some .int) shp nc [.ref 34] M (some (.int r)) M' := by
  unfold f_X7_image at h
  refine Ct.of (by decide +kernel) (Nat.le_of_ble_eq_true rfl) ?_
  intro p e s m args below meth c A ad D cI cJ X hr
  have hl2 : ∀ (n : Nat) (M : Mem) (v1 : Int32), l_X7_image_2 N n M v1 = some (r, M') → AW p l e (rmd d) s m args below meth c 2 A ad D cI cJ shp nc 0 0 (MQ below (Qq A ad D cI cJ shp nc (some (.int r)) M') args s 0 0 A) M 2 [(0, .ref 34), (1, .int v1)] [] := by
    intro n
    induction n with
    | zero => intro M v1 h; cases h
    | succ n ih =>
      intro M v1 h
      rw [l_X7_image_2] at h
      refine r_iload_n X 1 dX7_image_2 rfl rfl ?_
      refine r_bipush X 56 dX7_image_3 rfl ?_
      refine r_icge X 26 dX7_image_5 (by decide) (fun c1 => ?_) (fun c1 => ?_)
      · replace h := it_t c1 h
        refine r_aload_n X 0 dX7_image_26 rfl rfl ?_
        refine r_iconst X 1 dX7_image_27 rfl ?_
        obtain ⟨M2, eM2, h⟩ := nm_ex h
        refine r_puti X 3 in_X7 (ci := 6) rfl tyX7_ok nmX7 rfl (ltn hnc rfl) (Nat.le_of_ble_eq_true rfl) rfl w_612 rfl (ty := .boolean) rfl rfl rfl dX7_image_28 ?_
        refine r_mem eM2 ?_
        refine r_aload_n X 0 dX7_image_31 rfl rfl ?_
        refine r_getr X 1 36 in_X7 (ci := 6) rfl rfl (ltn hnc rfl) (Nat.le_of_ble_eq_true rfl) rfl w_610 dX7_image_32 (by decide) ?_
        refine r_bipush X 55 dX7_image_35 rfl ?_
        refine r_iald X (n := 56) rfl (Or.inl (ltn hnc rfl)) (by decide) dX7_image_37 ?_
        exact r_iretE X hr dX7_image_38 h
      · replace h := it_f c1 h
        refine r_aload_n X 0 dX7_image_8 rfl rfl ?_
        refine r_getr X 2 37 in_X7 (ci := 6) rfl rfl (ltn hnc rfl) (Nat.le_of_ble_eq_true rfl) rfl w_611 dX7_image_9 (by decide) ?_
        refine r_iload_n X 1 dX7_image_12 rfl rfl ?_
        refine r_aload_n X 0 dX7_image_13 rfl rfl ?_
        refine r_getr X 1 36 in_X7 (ci := 6) rfl rfl (ltn hnc rfl) (Nat.le_of_ble_eq_true rfl) rfl w_610 dX7_image_14 (by decide) ?_
        refine r_iload_n X 1 dX7_image_17 rfl rfl ?_
        obtain ⟨c3, h⟩ := ck_ex h
        refine r_iald X (n := 56) rfl (Or.inl (ltn hnc rfl)) c3 dX7_image_18 ?_
        obtain ⟨c4, h⟩ := ck_ex h
        obtain ⟨M5, eM5, h⟩ := nm_ex h
        refine r_iast X (n := 56) rfl (ltn hnc rfl) c4 dX7_image_19 ?_
        refine r_mem eM5 ?_
        refine r_iinc X [(1, .int (v1 + 1)), (0, .ref 34)] 1 (v1 + 1) dX7_image_20 rfl rfl (Nat.le_of_ble_eq_true rfl) rfl ?_
        refine r_goto X 2 dX7_image_23 (by decide) ?_
        refine r_sub (ls' := [(0, .ref 34), (1, .int (v1 + 1))]) [1, 0] rfl ?_
        exact ih M5 (v1 + 1) h
  refine r_sub (ls' := [(0, .ref 34)]) [0] rfl ?_
  refine r_iconst X 0 dX7_image_0 rfl ?_
  refine r_istore_n X [(1, .int (0 : Int32)), (0, .ref 34)] dX7_image_1 rfl (Nat.le_of_ble_eq_true rfl) rfl ?_
  refine r_sub (ls' := [(0, .ref 34), (1, .int (0 : Int32))]) [1, 0] rfl ?_
  exact hl2  N M (0 : Int32) h
def f_X0_copy_1_8 (N : Nat) (M : Mem)  : Option Mem :=
  bd (f_X6_copyAll shp N M 9 2) fun M1 =>
  bd (f_X6_copyAll shp N M1 10 3) fun M3 =>
  bd (f_X0_becomes N M3 11 (M3.1 8 3)) fun M5 =>
  bd (f_X6_copyAll shp N M5 12 5) fun M7 =>
  bd (f_X6_copyAll shp N M7 13 6) fun M9 =>
  bd (f_X6_copyAll shp N M9 14 7) fun M11 =>
  nm (seI M11 1 7 (M11.1 8 7)) fun M13 =>
  some M13
set_option maxRecDepth 100000 in
set_option maxHeartbeats 4000000 in
theorem k_X0_copy_1_8 (l : Launch) (N : Nat) (nc : Nat) (hnc : 34 ≤ nc) (M : Mem)  (M' : Mem) (h : f_X0_copy_1_8 N M  = some M') (d : Nat) (hd : 2 ≤ d) : Ct l d yX0_copy cX0_copy 2 none shp nc [.ref 1, .ref 8] M none M' := by
  obtain ⟨d, rfl⟩ : ∃ q, d = q + 1 := ⟨d - 1, by omega⟩
  unfold f_X0_copy_1_8 at h
  refine Ct.of (by decide +kernel) (Nat.le_of_ble_eq_true rfl) ?_
  intro p e s m args below meth c A ad D cI cJ X hr
  refine r_sub (ls' := [(0, .ref 1), (1, .ref 8)]) [0, 1] rfl ?_
  refine r_aload_n X 1 dX0_copy_0 rfl rfl ?_
  refine r_getr X 0 9 in_X0 (ci := 0) rfl rfl (ltn hnc rfl) (Nat.le_of_ble_eq_true rfl) rfl w_74 dX0_copy_1 (by decide) ?_
  refine r_aload_n X 0 dX0_copy_4 rfl rfl ?_
  refine r_getr X 0 2 in_X0 (ci := 0) rfl rfl (ltn hnc rfl) (Nat.le_of_ble_eq_true rfl) rfl w_74 dX0_copy_5 (by decide) ?_
  obtain ⟨M1, h2, h⟩ := bd_ex h
  refine r_callSN X (st := []) (av := [.ref 9, .ref 2]) (k_X6_copyAll l N _ _ _ _ _ (Or.inl (ltn hnc rfl)) (Or.inl (ltn hnc rfl)) _ h2 d (by omega)) (fitR_s (Nat.le_of_ble_eq_true rfl)) ⟨Nat.le_refl 0, Nat.le_refl 0⟩ w_68 w_39 w_67 w_66 hy_X6_copyAll rfl (Nat.le_of_ble_eq_true rfl) dX0_copy_8 ?_
  refine r_aload_n X 1 dX0_copy_11 rfl rfl ?_
  refine r_getr X 1 10 in_X0 (ci := 0) rfl rfl (ltn hnc rfl) (Nat.le_of_ble_eq_true rfl) rfl w_77 dX0_copy_12 (by decide) ?_
  refine r_aload_n X 0 dX0_copy_15 rfl rfl ?_
  refine r_getr X 1 3 in_X0 (ci := 0) rfl rfl (ltn hnc rfl) (Nat.le_of_ble_eq_true rfl) rfl w_77 dX0_copy_16 (by decide) ?_
  obtain ⟨M3, h4, h⟩ := bd_ex h
  refine r_callSN X (st := []) (av := [.ref 10, .ref 3]) (k_X6_copyAll l N _ _ _ _ _ (Or.inl (ltn hnc rfl)) (Or.inl (ltn hnc rfl)) _ h4 d (by omega)) (fitR_s (Nat.le_of_ble_eq_true rfl)) ⟨Nat.le_refl 0, Nat.le_refl 0⟩ w_68 w_39 w_67 w_66 hy_X6_copyAll rfl (Nat.le_of_ble_eq_true rfl) dX0_copy_19 ?_
  refine r_aload_n X 0 dX0_copy_22 rfl rfl ?_
  refine r_aload_n X 1 dX0_copy_23 rfl rfl ?_
  refine r_getr X 2 11 in_X0 (ci := 0) rfl rfl (ltn hnc rfl) (Nat.le_of_ble_eq_true rfl) rfl w_79 dX0_copy_24 (by decide) ?_
  refine r_aload_n X 1 dX0_copy_27 rfl rfl ?_
  refine r_geti X 3 in_X0 (ci := 0) rfl rfl (ltn hnc rfl) (Nat.le_of_ble_eq_true rfl) rfl w_81 dX0_copy_28 ?_
  obtain ⟨M5, h6, h⟩ := bd_ex h
  refine r_callV X (st := []) (av := [.ref 11, .int (M3.1 8 3)]) (k := 1) (ci := 0) (k_X0_becomes l N _ hnc _ _ _ (Or.inl (ltn hnc rfl)) _ h6 d (by omega)) (fitR_s (Nat.le_of_ble_eq_true rfl)) ⟨Nat.le_refl 0, Nat.le_refl 0⟩ rfl (ltn hnc rfl) rfl w_300 w_40 w_298 w_299 w_586 hy_X0_becomes rfl (Nat.le_of_ble_eq_true rfl) dX0_copy_31 ?_
  refine r_aload_n X 1 dX0_copy_34 rfl rfl ?_
  refine r_getr X 4 12 in_X0 (ci := 0) rfl rfl (ltn hnc rfl) (Nat.le_of_ble_eq_true rfl) rfl w_83 dX0_copy_35 (by decide) ?_
  refine r_aload_n X 0 dX0_copy_38 rfl rfl ?_
  refine r_getr X 4 5 in_X0 (ci := 0) rfl rfl (ltn hnc rfl) (Nat.le_of_ble_eq_true rfl) rfl w_83 dX0_copy_39 (by decide) ?_
  obtain ⟨M7, h8, h⟩ := bd_ex h
  refine r_callSN X (st := []) (av := [.ref 12, .ref 5]) (k_X6_copyAll l N _ _ _ _ _ (Or.inl (ltn hnc rfl)) (Or.inl (ltn hnc rfl)) _ h8 d (by omega)) (fitR_s (Nat.le_of_ble_eq_true rfl)) ⟨Nat.le_refl 0, Nat.le_refl 0⟩ w_68 w_39 w_67 w_66 hy_X6_copyAll rfl (Nat.le_of_ble_eq_true rfl) dX0_copy_42 ?_
  refine r_aload_n X 1 dX0_copy_45 rfl rfl ?_
  refine r_getr X 5 13 in_X0 (ci := 0) rfl rfl (ltn hnc rfl) (Nat.le_of_ble_eq_true rfl) rfl w_85 dX0_copy_46 (by decide) ?_
  refine r_aload_n X 0 dX0_copy_49 rfl rfl ?_
  refine r_getr X 5 6 in_X0 (ci := 0) rfl rfl (ltn hnc rfl) (Nat.le_of_ble_eq_true rfl) rfl w_85 dX0_copy_50 (by decide) ?_
  obtain ⟨M9, h10, h⟩ := bd_ex h
  refine r_callSN X (st := []) (av := [.ref 13, .ref 6]) (k_X6_copyAll l N _ _ _ _ _ (Or.inl (ltn hnc rfl)) (Or.inl (ltn hnc rfl)) _ h10 d (by omega)) (fitR_s (Nat.le_of_ble_eq_true rfl)) ⟨Nat.le_refl 0, Nat.le_refl 0⟩ w_68 w_39 w_67 w_66 hy_X6_copyAll rfl (Nat.le_of_ble_eq_true rfl) dX0_copy_53 ?_
  refine r_aload_n X 1 dX0_copy_56 rfl rfl ?_
  refine r_getr X 6 14 in_X0 (ci := 0) rfl rfl (ltn hnc rfl) (Nat.le_of_ble_eq_true rfl) rfl w_87 dX0_copy_57 (by decide) ?_
  refine r_aload_n X 0 dX0_copy_60 rfl rfl ?_
  refine r_getr X 6 7 in_X0 (ci := 0) rfl rfl (ltn hnc rfl) (Nat.le_of_ble_eq_true rfl) rfl w_87 dX0_copy_61 (by decide) ?_
  obtain ⟨M11, h12, h⟩ := bd_ex h
  refine r_callSN X (st := []) (av := [.ref 14, .ref 7]) (k_X6_copyAll l N _ _ _ _ _ (Or.inl (ltn hnc rfl)) (Or.inl (ltn hnc rfl)) _ h12 d (by omega)) (fitR_s (Nat.le_of_ble_eq_true rfl)) ⟨Nat.le_refl 0, Nat.le_refl 0⟩ w_68 w_39 w_67 w_66 hy_X6_copyAll rfl (Nat.le_of_ble_eq_true rfl) dX0_copy_64 ?_
  refine r_aload_n X 0 dX0_copy_67 rfl rfl ?_
  refine r_aload_n X 1 dX0_copy_68 rfl rfl ?_
  refine r_geti X 7 in_X0 (ci := 0) rfl rfl (ltn hnc rfl) (Nat.le_of_ble_eq_true rfl) rfl w_89 dX0_copy_69 ?_
  obtain ⟨M13, eM13, h⟩ := nm_ex h
  refine r_puti X 7 in_X0 (ci := 0) rfl tyX0_ok nmX0 rfl (ltn hnc rfl) (Nat.le_of_ble_eq_true rfl) rfl w_89 rfl (ty := .int) rfl rfl rfl dX0_copy_72 ?_
  refine r_mem eM13 ?_
  exact r_vretE X hr dX0_copy_75 h
def f_X6_on (N : Nat) (M : Mem)  : Option (Int32 × Mem) :=
  if (M.1 0 2) = 0 then
    (bd2 (f_X6_refuse N M (-3 : Int32)) fun r7 M6 =>
    some (r7, M6))
  else
    (bd (f_X0_copy_1_8 N M ) fun M2 =>
    bd (f_X6_measureAnew N M2 ) fun M4 =>
    some (M4.1 1 3, M4))
set_option maxRecDepth 100000 in
set_option maxHeartbeats 4000000 in
theorem k_X6_on (l : Launch) (N : Nat) (nc : Nat) (hnc : 34 ≤ nc) (M : Mem)  (r : Int32) (M' : Mem) (h : f_X6_on N M  = some (r, M')) (d : Nat) (hd : 4 ≤ d) : Ct l d yX6_on cX6_on 1 (some .int) shp nc [.ref 0] M (some (.int r)) M' := by
  obtain ⟨d, rfl⟩ : ∃ q, d = q + 1 := ⟨d - 1, by omega⟩
  unfold f_X6_on at h
  refine Ct.of (by decide +kernel) (Nat.le_of_ble_eq_true rfl) ?_
  intro p e s m args below meth c A ad D cI cJ X hr
  refine r_sub (ls' := [(0, .ref 0)]) [0] rfl ?_
  refine r_aload_n X 0 dX6_on_0 rfl rfl ?_
  refine r_geti X 2 in_X6 (ci := 5) rfl rfl (ltn hnc rfl) (Nat.le_of_ble_eq_true rfl) rfl w_242 dX6_on_1 ?_
  refine r_ifne X 14 dX6_on_4 (by decide) (fun c1 => ?_) (fun c1 => ?_)
  · replace h := it_f c1 h
    refine r_aload_n X 0 dX6_on_14 rfl rfl ?_
    refine r_getr X 0 1 in_X6 (ci := 5) rfl rfl (ltn hnc rfl) (Nat.le_of_ble_eq_true rfl) rfl w_240 dX6_on_15 (by decide) ?_
    refine r_aload_n X 0 dX6_on_18 rfl rfl ?_
    refine r_getr X 1 8 in_X6 (ci := 5) rfl rfl (ltn hnc rfl) (Nat.le_of_ble_eq_true rfl) rfl w_241 dX6_on_19 (by decide) ?_
    obtain ⟨M2, h3, h⟩ := bd_ex h
    refine r_callV X (st := []) (av := [.ref 8]) (k := 1) (ci := 0) (k_X0_copy_1_8 l N _ hnc _  _ h3 d (by omega)) (fitR_s (Nat.le_of_ble_eq_true rfl)) ⟨Nat.le_refl 0, Nat.le_refl 0⟩ rfl (ltn hnc rfl) rfl w_585 w_40 w_583 w_584 w_582 hy_X0_copy rfl (Nat.le_of_ble_eq_true rfl) dX6_on_22 ?_
    refine r_aload_n X 0 dX6_on_25 rfl rfl ?_
    obtain ⟨M4, h5, h⟩ := bd_ex h
    refine r_callV X (st := []) (av := []) (k := 0) (ci := 5) (k_X6_measureAnew l N _ hnc _  _ h5 d (by omega)) (fitR_s (Nat.le_of_ble_eq_true rfl)) ⟨Nat.le_refl 0, Nat.le_refl 0⟩ rfl (ltn hnc rfl) rfl w_314 w_39 w_313 w_2 w_311 hy_X6_measureAnew rfl (Nat.le_of_ble_eq_true rfl) dX6_on_26 ?_
    refine r_aload_n X 0 dX6_on_29 rfl rfl ?_
    refine r_getr X 0 1 in_X6 (ci := 5) rfl rfl (ltn hnc rfl) (Nat.le_of_ble_eq_true rfl) rfl w_240 dX6_on_30 (by decide) ?_
    refine r_geti X 3 in_X0 (ci := 0) rfl rfl (ltn hnc rfl) (Nat.le_of_ble_eq_true rfl) rfl w_82 dX6_on_33 ?_
    exact r_iretE X hr dX6_on_36 h
  · replace h := it_t c1 h
    refine r_aload_n X 0 dX6_on_7 rfl rfl ?_
    refine r_bipush X (-3) dX6_on_8 rfl ?_
    obtain ⟨r7, M6, h8, h⟩ := bd2_ex h
    refine r_callV X (st := []) (av := [.int (-3 : Int32)]) (k := 0) (ci := 5) (k_X6_refuse l N _ hnc _ _ _ _ h8 d (by omega)) (fitR_s (Nat.le_of_ble_eq_true rfl)) ⟨Nat.le_refl 0, Nat.le_refl 0⟩ rfl (ltn hnc rfl) rfl w_284 w_39 w_283 w_1 w_281 hy_X6_refuse rfl (Nat.le_of_ble_eq_true rfl) dX6_on_10 ?_
    exact r_iretE X hr dX6_on_13 h
def l_X7_on_16 (N : Nat)    : Nat → Mem → Int32 → Option (Int32 × Mem)
  | 0, _, _ => none
  | n + 1, M, v1 =>
    if (56 : Int32) ≤ v1 then
      (some (M.1 36 (ix (55 : Int32)), M))
    else
      (ck (inb v1 56) <|
      ck (inb v1 56) <|
      nm (seI M 36 (ix v1) (M.1 37 (ix v1))) fun M5 =>
      l_X7_on_16 N n M5 (v1 + 1))
def f_X7_on (N : Nat) (M : Mem)  : Option (Int32 × Mem) :=
  if (M.1 34 3) = 0 then
    (bd2 (f_X7_refuse N M (-3 : Int32)) fun r7 M6 =>
    some (r7, M6))
  else
    (l_X7_on_16 N N M (0 : Int32))
set_option maxRecDepth 100000 in
set_option maxHeartbeats 4000000 in
theorem k_X7_on (l : Launch) (N : Nat) (nc : Nat) (hnc : 45 ≤ nc) (M : Mem)  (r : Int32) (M' : Mem) (h : f_X7_on N M  = some (r, M')) (d : Nat) (hd : 1 ≤ d) : Ct l d yX7_on cX7_on 2 (some .int) shp nc [.ref 34] M (some (.int r)) M' := by
  obtain ⟨d, rfl⟩ : ∃ q, d = q + 1 := ⟨d - 1, by omega⟩
  unfold f_X7_on at h
  refine Ct.of (by decide +kernel) (Nat.le_of_ble_eq_true rfl) ?_
  intro p e s m args below meth c A ad D cI cJ X hr
  have hl16 : ∀ (n : Nat) (M : Mem) (v1 : Int32), l_X7_on_16 N n M v1 = some (r, M') → AW p l e (rmd (d + 1)) s m args below meth c 2 A ad D cI cJ shp nc 0 0 (MQ below (Qq A ad D cI cJ shp nc (some (.int r)) M') args s 0 0 A) M 16 [(0, .ref 34), (1, .int v1)] [] := by
    intro n
    induction n with
    | zero => intro M v1 h; cases h
    | succ n ih =>
      intro M v1 h
      rw [l_X7_on_16] at h
      refine r_iload_n X 1 dX7_on_16 rfl rfl ?_
      refine r_bipush X 56 dX7_on_17 rfl ?_
      refine r_icge X 40 dX7_on_19 (by decide) (fun c2 => ?_) (fun c2 => ?_)
      · replace h := it_t c2 h
        refine r_aload_n X 0 dX7_on_40 rfl rfl ?_
        refine r_getr X 1 36 in_X7 (ci := 6) rfl rfl (ltn hnc rfl) (Nat.le_of_ble_eq_true rfl) rfl w_610 dX7_on_41 (by decide) ?_
        refine r_bipush X 55 dX7_on_44 rfl ?_
        refine r_iald X (n := 56) rfl (Or.inl (ltn hnc rfl)) (by decide) dX7_on_46 ?_
        exact r_iretE X hr dX7_on_47 h
      · replace h := it_f c2 h
        refine r_aload_n X 0 dX7_on_22 rfl rfl ?_
        refine r_getr X 1 36 in_X7 (ci := 6) rfl rfl (ltn hnc rfl) (Nat.le_of_ble_eq_true rfl) rfl w_610 dX7_on_23 (by decide) ?_
        refine r_iload_n X 1 dX7_on_26 rfl rfl ?_
        refine r_aload_n X 0 dX7_on_27 rfl rfl ?_
        refine r_getr X 2 37 in_X7 (ci := 6) rfl rfl (ltn hnc rfl) (Nat.le_of_ble_eq_true rfl) rfl w_611 dX7_on_28 (by decide) ?_
        refine r_iload_n X 1 dX7_on_31 rfl rfl ?_
        obtain ⟨c3, h⟩ := ck_ex h
        refine r_iald X (n := 56) rfl (Or.inl (ltn hnc rfl)) c3 dX7_on_32 ?_
        obtain ⟨c4, h⟩ := ck_ex h
        obtain ⟨M5, eM5, h⟩ := nm_ex h
        refine r_iast X (n := 56) rfl (ltn hnc rfl) c4 dX7_on_33 ?_
        refine r_mem eM5 ?_
        refine r_iinc X [(1, .int (v1 + 1)), (0, .ref 34)] 1 (v1 + 1) dX7_on_34 rfl rfl (Nat.le_of_ble_eq_true rfl) rfl ?_
        refine r_goto X 16 dX7_on_37 (by decide) ?_
        refine r_sub (ls' := [(0, .ref 34), (1, .int (v1 + 1))]) [1, 0] rfl ?_
        exact ih M5 (v1 + 1) h
  refine r_sub (ls' := [(0, .ref 34)]) [0] rfl ?_
  refine r_aload_n X 0 dX7_on_0 rfl rfl ?_
  refine r_geti X 3 in_X7 (ci := 6) rfl rfl (ltn hnc rfl) (Nat.le_of_ble_eq_true rfl) rfl w_612 dX7_on_1 ?_
  refine r_ifne X 14 dX7_on_4 (by decide) (fun c1 => ?_) (fun c1 => ?_)
  · replace h := it_f c1 h
    refine r_iconst X 0 dX7_on_14 rfl ?_
    refine r_istore_n X [(1, .int (0 : Int32)), (0, .ref 34)] dX7_on_15 rfl (Nat.le_of_ble_eq_true rfl) rfl ?_
    refine r_sub (ls' := [(0, .ref 34), (1, .int (0 : Int32))]) [1, 0] rfl ?_
    exact hl16  N M (0 : Int32) h
  · replace h := it_t c1 h
    refine r_aload_n X 0 dX7_on_7 rfl rfl ?_
    refine r_bipush X (-3) dX7_on_8 rfl ?_
    obtain ⟨r7, M6, h8, h⟩ := bd2_ex h
    refine r_callV X (st := []) (av := [.int (-3 : Int32)]) (k := 34) (ci := 6) (k_X7_refuse l N _ hnc _ _ _ _ h8 d (by omega)) (fitR_s (Nat.le_of_ble_eq_true rfl)) ⟨Nat.le_refl 0, Nat.le_refl 0⟩ rfl (ltn hnc rfl) rfl w_689 w_47 w_688 w_18 w_686 hy_X7_refuse rfl (Nat.le_of_ble_eq_true rfl) dX7_on_10 ?_
    exact r_iretE X hr dX7_on_13 h
def l_X0_inBox_4 (N : Nat)    : Nat → Mem → Int32 → Int32 → Option (Int32 × Mem)
  | 0, _, _, _ => none
  | n + 1, M, v1, v2 =>
    if (7 : Int32) ≤ v2 then
      (some (v1, M))
    else
      (ck (inb v2 7) <|
      nm (v1 + (M.1 2 (ix v2))) fun x3 =>
      l_X0_inBox_4 N n M x3 (v2 + 1))
def f_X0_inBox (N : Nat) (M : Mem)  : Option (Int32 × Mem) :=
  l_X0_inBox_4 N N M (0 : Int32) (0 : Int32)
set_option maxRecDepth 100000 in
set_option maxHeartbeats 4000000 in
theorem k_X0_inBox (l : Launch) (N : Nat) (nc : Nat) (hnc : 34 ≤ nc) (M : Mem)  (r : Int32) (M' : Mem) (h : f_X0_inBox N M  = some (r, M')) (d : Nat) (hd : 0 ≤ d) : Ct l d yX0_inBox cX0_inBox 3 (some .int) shp nc [.ref 1] M (some (.int r)) M' := by
  unfold f_X0_inBox at h
  refine Ct.of (by decide +kernel) (Nat.le_of_ble_eq_true rfl) ?_
  intro p e s m args below meth c A ad D cI cJ X hr
  have hl4 : ∀ (n : Nat) (M : Mem) (v1 : Int32) (v2 : Int32), l_X0_inBox_4 N n M v1 v2 = some (r, M') → AW p l e (rmd d) s m args below meth c 3 A ad D cI cJ shp nc 0 0 (MQ below (Qq A ad D cI cJ shp nc (some (.int r)) M') args s 0 0 A) M 4 [(0, .ref 1), (1, .int v1), (2, .int v2)] [] := by
    intro n
    induction n with
    | zero => intro M v1 v2 h; cases h
    | succ n ih =>
      intro M v1 v2 h
      rw [l_X0_inBox_4] at h
      refine r_iload_n X 2 dX0_inBox_4 rfl rfl ?_
      refine r_aload_n X 0 dX0_inBox_5 rfl rfl ?_
      refine r_getr X 0 2 in_X0 (ci := 0) rfl rfl (ltn hnc rfl) (Nat.le_of_ble_eq_true rfl) rfl w_74 dX0_inBox_6 (by decide) ?_
      refine r_alen X (n := 7) rfl (Or.inl (ltn hnc rfl)) rfl dX0_inBox_9 ?_
      refine r_icge X 28 dX0_inBox_10 (by decide) (fun c1 => ?_) (fun c1 => ?_)
      · replace h := it_t c1 h
        refine r_iload_n X 1 dX0_inBox_28 rfl rfl ?_
        exact r_iretE X hr dX0_inBox_29 h
      · replace h := it_f c1 h
        refine r_iload_n X 1 dX0_inBox_13 rfl rfl ?_
        refine r_aload_n X 0 dX0_inBox_14 rfl rfl ?_
        refine r_getr X 0 2 in_X0 (ci := 0) rfl rfl (ltn hnc rfl) (Nat.le_of_ble_eq_true rfl) rfl w_74 dX0_inBox_15 (by decide) ?_
        refine r_iload_n X 2 dX0_inBox_18 rfl rfl ?_
        obtain ⟨c2, h⟩ := ck_ex h
        refine r_iald X (n := 7) rfl (Or.inl (ltn hnc rfl)) c2 dX0_inBox_19 ?_
        refine r_iadd X dX0_inBox_20 ?_
        obtain ⟨x3, ex3, h⟩ := nm_ex h
        refine r_top ex3 ?_
        refine r_istore_n X [(1, .int x3), (0, .ref 1), (2, .int v2)] dX0_inBox_21 rfl (Nat.le_of_ble_eq_true rfl) rfl ?_
        refine r_iinc X [(2, .int (v2 + 1)), (1, .int x3), (0, .ref 1)] 2 (v2 + 1) dX0_inBox_22 rfl rfl (Nat.le_of_ble_eq_true rfl) rfl ?_
        refine r_goto X 4 dX0_inBox_25 (by decide) ?_
        refine r_sub (ls' := [(0, .ref 1), (1, .int x3), (2, .int (v2 + 1))]) [2, 1, 0] rfl ?_
        exact ih M x3 (v2 + 1) h
  refine r_sub (ls' := [(0, .ref 1)]) [0] rfl ?_
  refine r_iconst X 0 dX0_inBox_0 rfl ?_
  refine r_istore_n X [(1, .int (0 : Int32)), (0, .ref 1)] dX0_inBox_1 rfl (Nat.le_of_ble_eq_true rfl) rfl ?_
  refine r_iconst X 0 dX0_inBox_2 rfl ?_
  refine r_istore_n X [(2, .int (0 : Int32)), (1, .int (0 : Int32)), (0, .ref 1)] dX0_inBox_3 rfl (Nat.le_of_ble_eq_true rfl) rfl ?_
  refine r_sub (ls' := [(0, .ref 1), (1, .int (0 : Int32)), (2, .int (0 : Int32))]) [2, 1, 0] rfl ?_
  exact hl4  N M (0 : Int32) (0 : Int32) h
def f_X6_count (N : Nat) (M : Mem) (p0 : Int32) : Option (Int32 × Mem) :=
  if p0 ≤ (10 : Int32) then
    (if p0 = 0 then (
      some (M.1 1 3, M))
    else if p0 = 1 then (
      bd2 (f_X0_inBox N M ) fun r5 M4 =>
      some (r5, M4))
    else if p0 = 2 then (
      some (M.1 1 7, M))
    else if p0 = 3 then (
      some (M.1 0 8, M))
    else if p0 = 4 then (
      some (M.1 0 10, M))
    else (
      some ((-9 : Int32), M)))
  else
    (if (16 : Int32) < p0 then
      (if p0 = 0 then (
        some (M.1 1 3, M))
      else if p0 = 1 then (
        bd2 (f_X0_inBox N M ) fun r14 M13 =>
        some (r14, M13))
      else if p0 = 2 then (
        some (M.1 1 7, M))
      else if p0 = 3 then (
        some (M.1 0 8, M))
      else if p0 = 4 then (
        some (M.1 0 10, M))
      else (
        some ((-9 : Int32), M)))
    else
      (bd2 (f_X6_at shp N M 33 (p0 - (10 : Int32))) fun r20 M19 =>
      some (r20, M19)))
set_option maxRecDepth 100000 in
set_option maxHeartbeats 4000000 in
theorem k_X6_count (l : Launch) (N : Nat) (nc : Nat) (hnc : 34 ≤ nc) (M : Mem) (p0 : Int32) (r : Int32) (M' : Mem) (h : f_X6_count N M p0 = some (r, M')) (d : Nat) (hd : 1 ≤ d) : Ct l d yX6_count cX6_count 2 (some .int) shp nc [.ref 0, .int p0] M (some (.int r)) M' := by
  obtain ⟨d, rfl⟩ : ∃ q, d = q + 1 := ⟨d - 1, by omega⟩
  unfold f_X6_count at h
  refine Ct.of (by decide +kernel) (Nat.le_of_ble_eq_true rfl) ?_
  intro p e s m args below meth c A ad D cI cJ X hr
  refine r_sub (ls' := [(0, .ref 0), (1, .int p0)]) [0, 1] rfl ?_
  refine r_iload_n X 1 dX6_count_0 rfl rfl ?_
  refine r_bipush X 10 dX6_count_1 rfl ?_
  refine r_icle X 24 dX6_count_3 (by decide) (fun c1 => ?_) (fun c1 => ?_)
  · replace h := it_t c1 h
    refine r_iload_n X 1 dX6_count_24 rfl rfl ?_
    by_cases c2 : p0 = 0
    · replace h := it_t c2 h
      refine r_swIn X 0 c2 60 dX6_count_25 (by decide) (by decide) rfl (by decide) ?_
      refine r_aload_n X 0 dX6_count_60 rfl rfl ?_
      refine r_getr X 0 1 in_X6 (ci := 5) rfl rfl (ltn hnc rfl) (Nat.le_of_ble_eq_true rfl) rfl w_240 dX6_count_61 (by decide) ?_
      refine r_geti X 3 in_X0 (ci := 0) rfl rfl (ltn hnc rfl) (Nat.le_of_ble_eq_true rfl) rfl w_82 dX6_count_64 ?_
      exact r_iretE X hr dX6_count_67 h
    replace h := it_f c2 h
    by_cases c3 : p0 = 1
    · replace h := it_t c3 h
      refine r_swIn X 1 c3 68 dX6_count_25 (by decide) (by decide) rfl (by decide) ?_
      refine r_aload_n X 0 dX6_count_68 rfl rfl ?_
      refine r_getr X 0 1 in_X6 (ci := 5) rfl rfl (ltn hnc rfl) (Nat.le_of_ble_eq_true rfl) rfl w_240 dX6_count_69 (by decide) ?_
      obtain ⟨r5, M4, h6, h⟩ := bd2_ex h
      refine r_callV X (st := []) (av := []) (k := 1) (ci := 0) (k_X0_inBox l N _ hnc _  _ _ h6 d (by omega)) (fitR_s (Nat.le_of_ble_eq_true rfl)) ⟨Nat.le_refl 0, Nat.le_refl 0⟩ rfl (ltn hnc rfl) rfl w_598 w_40 w_596 w_597 w_595 hy_X0_inBox rfl (Nat.le_of_ble_eq_true rfl) dX6_count_72 ?_
      exact r_iretE X hr dX6_count_75 h
    replace h := it_f c3 h
    by_cases c7 : p0 = 2
    · replace h := it_t c7 h
      refine r_swIn X 2 c7 76 dX6_count_25 (by decide) (by decide) rfl (by decide) ?_
      refine r_aload_n X 0 dX6_count_76 rfl rfl ?_
      refine r_getr X 0 1 in_X6 (ci := 5) rfl rfl (ltn hnc rfl) (Nat.le_of_ble_eq_true rfl) rfl w_240 dX6_count_77 (by decide) ?_
      refine r_geti X 7 in_X0 (ci := 0) rfl rfl (ltn hnc rfl) (Nat.le_of_ble_eq_true rfl) rfl w_90 dX6_count_80 ?_
      exact r_iretE X hr dX6_count_83 h
    replace h := it_f c7 h
    by_cases c8 : p0 = 3
    · replace h := it_t c8 h
      refine r_swIn X 3 c8 84 dX6_count_25 (by decide) (by decide) rfl (by decide) ?_
      refine r_aload_n X 0 dX6_count_84 rfl rfl ?_
      refine r_geti X 8 in_X6 (ci := 5) rfl rfl (ltn hnc rfl) (Nat.le_of_ble_eq_true rfl) rfl w_248 dX6_count_85 ?_
      exact r_iretE X hr dX6_count_88 h
    replace h := it_f c8 h
    by_cases c9 : p0 = 4
    · replace h := it_t c9 h
      refine r_swIn X 4 c9 89 dX6_count_25 (by decide) (by decide) rfl (by decide) ?_
      refine r_aload_n X 0 dX6_count_89 rfl rfl ?_
      refine r_geti X 10 in_X6 (ci := 5) rfl rfl (ltn hnc rfl) (Nat.le_of_ble_eq_true rfl) rfl w_250 dX6_count_90 ?_
      exact r_iretE X hr dX6_count_93 h
    replace h := it_f c9 h
    have hsw : Int32.toInt p0 < 0 ∨ 4 < Int32.toInt p0 := sw_out (fun v9 h1 h2 h3 => by
      rcases (show v9 = 0 ∨ v9 = 1 ∨ v9 = 2 ∨ v9 = 3 ∨ v9 = 4 by omega) with rfl | rfl | rfl | rfl | rfl
      · exact c2 (Int32.toInt_inj.mp (h3.trans (by decide)))
      · exact c3 (Int32.toInt_inj.mp (h3.trans (by decide)))
      · exact c7 (Int32.toInt_inj.mp (h3.trans (by decide)))
      · exact c8 (Int32.toInt_inj.mp (h3.trans (by decide)))
      · exact c9 (Int32.toInt_inj.mp (h3.trans (by decide))))
    refine r_swOut X 94 dX6_count_25 hsw (by decide) ?_
    refine r_bipush X (-9) dX6_count_94 rfl ?_
    exact r_iretE X hr dX6_count_96 h
  · replace h := it_f c1 h
    refine r_iload_n X 1 dX6_count_6 rfl rfl ?_
    refine r_bipush X 16 dX6_count_7 rfl ?_
    refine r_icgt X 24 dX6_count_9 (by decide) (fun c10 => ?_) (fun c10 => ?_)
    · replace h := it_t c10 h
      refine r_iload_n X 1 dX6_count_24 rfl rfl ?_
      by_cases c11 : p0 = 0
      · replace h := it_t c11 h
        refine r_swIn X 0 c11 60 dX6_count_25 (by decide) (by decide) rfl (by decide) ?_
        refine r_aload_n X 0 dX6_count_60 rfl rfl ?_
        refine r_getr X 0 1 in_X6 (ci := 5) rfl rfl (ltn hnc rfl) (Nat.le_of_ble_eq_true rfl) rfl w_240 dX6_count_61 (by decide) ?_
        refine r_geti X 3 in_X0 (ci := 0) rfl rfl (ltn hnc rfl) (Nat.le_of_ble_eq_true rfl) rfl w_82 dX6_count_64 ?_
        exact r_iretE X hr dX6_count_67 h
      replace h := it_f c11 h
      by_cases c12 : p0 = 1
      · replace h := it_t c12 h
        refine r_swIn X 1 c12 68 dX6_count_25 (by decide) (by decide) rfl (by decide) ?_
        refine r_aload_n X 0 dX6_count_68 rfl rfl ?_
        refine r_getr X 0 1 in_X6 (ci := 5) rfl rfl (ltn hnc rfl) (Nat.le_of_ble_eq_true rfl) rfl w_240 dX6_count_69 (by decide) ?_
        obtain ⟨r14, M13, h15, h⟩ := bd2_ex h
        refine r_callV X (st := []) (av := []) (k := 1) (ci := 0) (k_X0_inBox l N _ hnc _  _ _ h15 d (by omega)) (fitR_s (Nat.le_of_ble_eq_true rfl)) ⟨Nat.le_refl 0, Nat.le_refl 0⟩ rfl (ltn hnc rfl) rfl w_598 w_40 w_596 w_597 w_595 hy_X0_inBox rfl (Nat.le_of_ble_eq_true rfl) dX6_count_72 ?_
        exact r_iretE X hr dX6_count_75 h
      replace h := it_f c12 h
      by_cases c16 : p0 = 2
      · replace h := it_t c16 h
        refine r_swIn X 2 c16 76 dX6_count_25 (by decide) (by decide) rfl (by decide) ?_
        refine r_aload_n X 0 dX6_count_76 rfl rfl ?_
        refine r_getr X 0 1 in_X6 (ci := 5) rfl rfl (ltn hnc rfl) (Nat.le_of_ble_eq_true rfl) rfl w_240 dX6_count_77 (by decide) ?_
        refine r_geti X 7 in_X0 (ci := 0) rfl rfl (ltn hnc rfl) (Nat.le_of_ble_eq_true rfl) rfl w_90 dX6_count_80 ?_
        exact r_iretE X hr dX6_count_83 h
      replace h := it_f c16 h
      by_cases c17 : p0 = 3
      · replace h := it_t c17 h
        refine r_swIn X 3 c17 84 dX6_count_25 (by decide) (by decide) rfl (by decide) ?_
        refine r_aload_n X 0 dX6_count_84 rfl rfl ?_
        refine r_geti X 8 in_X6 (ci := 5) rfl rfl (ltn hnc rfl) (Nat.le_of_ble_eq_true rfl) rfl w_248 dX6_count_85 ?_
        exact r_iretE X hr dX6_count_88 h
      replace h := it_f c17 h
      by_cases c18 : p0 = 4
      · replace h := it_t c18 h
        refine r_swIn X 4 c18 89 dX6_count_25 (by decide) (by decide) rfl (by decide) ?_
        refine r_aload_n X 0 dX6_count_89 rfl rfl ?_
        refine r_geti X 10 in_X6 (ci := 5) rfl rfl (ltn hnc rfl) (Nat.le_of_ble_eq_true rfl) rfl w_250 dX6_count_90 ?_
        exact r_iretE X hr dX6_count_93 h
      replace h := it_f c18 h
      have hsw : Int32.toInt p0 < 0 ∨ 4 < Int32.toInt p0 := sw_out (fun v9 h1 h2 h3 => by
        rcases (show v9 = 0 ∨ v9 = 1 ∨ v9 = 2 ∨ v9 = 3 ∨ v9 = 4 by omega) with rfl | rfl | rfl | rfl | rfl
        · exact c11 (Int32.toInt_inj.mp (h3.trans (by decide)))
        · exact c12 (Int32.toInt_inj.mp (h3.trans (by decide)))
        · exact c16 (Int32.toInt_inj.mp (h3.trans (by decide)))
        · exact c17 (Int32.toInt_inj.mp (h3.trans (by decide)))
        · exact c18 (Int32.toInt_inj.mp (h3.trans (by decide))))
      refine r_swOut X 94 dX6_count_25 hsw (by decide) ?_
      refine r_bipush X (-9) dX6_count_94 rfl ?_
      exact r_iretE X hr dX6_count_96 h
    · replace h := it_f c10 h
      refine r_aload_n X 0 dX6_count_12 rfl rfl ?_
      refine r_getr X 11 33 in_X6 (ci := 5) rfl rfl (ltn hnc rfl) (Nat.le_of_ble_eq_true rfl) rfl w_251 dX6_count_13 (by decide) ?_
      refine r_iload_n X 1 dX6_count_16 rfl rfl ?_
      refine r_bipush X 10 dX6_count_17 rfl ?_
      refine r_isub X dX6_count_19 ?_
      obtain ⟨r20, M19, h21, h⟩ := bd2_ex h
      refine r_callS X (st := []) (av := [.ref 33, .int (p0 - (10 : Int32))]) (k_X6_at l N _ _ _ _ _ (Or.inl (ltn hnc rfl)) _ _ h21 d (by omega)) (fitR_s (Nat.le_of_ble_eq_true rfl)) ⟨Nat.le_refl 0, Nat.le_refl 0⟩ w_71 w_39 w_70 w_69 hy_X6_at rfl (Nat.le_of_ble_eq_true rfl) dX6_count_20 ?_
      exact r_iretE X hr dX6_count_23 h
def l_X7_count_70 (N : Nat)    : Nat → Mem → Int32 → Int32 → Option (Int32 × Mem)
  | 0, _, _, _ => none
  | n + 1, M, v2, v3 =>
    if (7 : Int32) ≤ v3 then
      (some (v2, M))
    else
      (ck (inb v3 56) <|
      nm (v2 + (M.1 36 (ix v3))) fun x6 =>
      l_X7_count_70 N n M x6 (v3 + 1))
def f_X7_count (N : Nat) (M : Mem) (p0 : Int32) : Option (Int32 × Mem) :=
  if p0 ≤ (10 : Int32) then
    (if p0 = 0 then (
      some (M.1 36 (ix (55 : Int32)), M))
    else if p0 = 1 then (
      l_X7_count_70 N N M (0 : Int32) (0 : Int32))
    else if p0 = 2 then (
      some (M.1 36 (ix (30 : Int32)), M))
    else if p0 = 3 then (
      some (M.1 34 5, M))
    else if p0 = 4 then (
      some (M.1 34 21, M))
    else (
      some ((-9 : Int32), M)))
  else
    (if (17 : Int32) ≤ p0 then
      (if p0 = 0 then (
        some (M.1 36 (ix (55 : Int32)), M))
      else if p0 = 1 then (
        l_X7_count_70 N N M (0 : Int32) (0 : Int32))
      else if p0 = 2 then (
        some (M.1 36 (ix (30 : Int32)), M))
      else if p0 = 3 then (
        some (M.1 34 5, M))
      else if p0 = 4 then (
        some (M.1 34 21, M))
      else (
        some ((-9 : Int32), M)))
    else
      (ck (inb (p0 - (10 : Int32)) 7) <|
      some (M.1 35 (ix (p0 - (10 : Int32))), M)))
set_option maxRecDepth 100000 in
set_option maxHeartbeats 4000000 in
theorem k_X7_count (l : Launch) (N : Nat) (nc : Nat) (hnc : 45 ≤ nc) (M : Mem) (p0 : Int32) (r : Int32) (M' : Mem) (h : f_X7_count N M p0 = some (r, M')) (d : Nat) (hd : 0 ≤ d) : Ct l d yX7_count cX7_count 4 (some .int) shp nc [.ref 34, .int p0] M (some (.int r)) M' := by
  unfold f_X7_count at h
  refine Ct.of (by decide +kernel) (Nat.le_of_ble_eq_true rfl) ?_
  intro p e s m args below meth c A ad D cI cJ X hr
  have hl70 : ∀ (n : Nat) (M : Mem) (v2 : Int32) (v3 : Int32), l_X7_count_70 N n M v2 v3 = some (r, M') → AW p l e (rmd d) s m args below meth c 4 A ad D cI cJ shp nc 0 0 (MQ below (Qq A ad D cI cJ shp nc (some (.int r)) M') args s 0 0 A) M 70 [(0, .ref 34), (2, .int v2), (3, .int v3)] [] := by
    intro n
    induction n with
    | zero => intro M v2 v3 h; cases h
    | succ n ih =>
      intro M v2 v3 h
      rw [l_X7_count_70] at h
      refine r_iload_n X 2 dX7_count_70 rfl rfl ?_
      refine r_bipush X 7 dX7_count_71 rfl ?_
      refine r_icge X 91 dX7_count_73 (by decide) (fun c4 => ?_) (fun c4 => ?_)
      · replace h := it_t c4 h
        refine r_iload_n X 1 dX7_count_91 rfl rfl ?_
        exact r_iretE X hr dX7_count_92 h
      · replace h := it_f c4 h
        refine r_iload_n X 1 dX7_count_76 rfl rfl ?_
        refine r_aload_n X 0 dX7_count_77 rfl rfl ?_
        refine r_getr X 1 36 in_X7 (ci := 6) rfl rfl (ltn hnc rfl) (Nat.le_of_ble_eq_true rfl) rfl w_610 dX7_count_78 (by decide) ?_
        refine r_iload_n X 2 dX7_count_81 rfl rfl ?_
        obtain ⟨c5, h⟩ := ck_ex h
        refine r_iald X (n := 56) rfl (Or.inl (ltn hnc rfl)) c5 dX7_count_82 ?_
        refine r_iadd X dX7_count_83 ?_
        obtain ⟨x6, ex6, h⟩ := nm_ex h
        refine r_top ex6 ?_
        refine r_istore_n X [(2, .int x6), (0, .ref 34), (3, .int v3)] dX7_count_84 rfl (Nat.le_of_ble_eq_true rfl) rfl ?_
        refine r_iinc X [(3, .int (v3 + 1)), (2, .int x6), (0, .ref 34)] 2 (v3 + 1) dX7_count_85 rfl rfl (Nat.le_of_ble_eq_true rfl) rfl ?_
        refine r_goto X 70 dX7_count_88 (by decide) ?_
        refine r_sub (ls' := [(0, .ref 34), (2, .int x6), (3, .int (v3 + 1))]) [2, 1, 0] rfl ?_
        exact ih M x6 (v3 + 1) h
  refine r_sub (ls' := [(0, .ref 34), (1, .int p0)]) [0, 1] rfl ?_
  refine r_iload_n X 1 dX7_count_0 rfl rfl ?_
  refine r_bipush X 10 dX7_count_1 rfl ?_
  refine r_icle X 22 dX7_count_3 (by decide) (fun c1 => ?_) (fun c1 => ?_)
  · replace h := it_t c1 h
    refine r_iconst X 0 dX7_count_22 rfl ?_
    refine r_istore_n X [(2, .int (0 : Int32)), (0, .ref 34), (1, .int p0)] dX7_count_23 rfl (Nat.le_of_ble_eq_true rfl) rfl ?_
    refine r_iload_n X 2 dX7_count_24 rfl rfl ?_
    by_cases c2 : p0 = 0
    · replace h := it_t c2 h
      refine r_swIn X 0 c2 60 dX7_count_25 (by decide) (by decide) rfl (by decide) ?_
      refine r_aload_n X 1 dX7_count_60 rfl rfl ?_
      refine r_getr X 1 36 in_X7 (ci := 6) rfl rfl (ltn hnc rfl) (Nat.le_of_ble_eq_true rfl) rfl w_610 dX7_count_61 (by decide) ?_
      refine r_bipush X 55 dX7_count_64 rfl ?_
      refine r_iald X (n := 56) rfl (Or.inl (ltn hnc rfl)) (by decide) dX7_count_66 ?_
      exact r_iretE X hr dX7_count_67 h
    replace h := it_f c2 h
    by_cases c3 : p0 = 1
    · replace h := it_t c3 h
      refine r_swIn X 1 c3 68 dX7_count_25 (by decide) (by decide) rfl (by decide) ?_
      refine r_iconst X 0 dX7_count_68 rfl ?_
      refine r_istore_n X [(3, .int (0 : Int32)), (2, .int (0 : Int32)), (0, .ref 34), (1, .int p0)] dX7_count_69 rfl (Nat.le_of_ble_eq_true rfl) rfl ?_
      refine r_sub (ls' := [(0, .ref 34), (2, .int (0 : Int32)), (3, .int (0 : Int32))]) [2, 1, 0] rfl ?_
      exact hl70  N M (0 : Int32) (0 : Int32) h
    replace h := it_f c3 h
    by_cases c7 : p0 = 2
    · replace h := it_t c7 h
      refine r_swIn X 2 c7 93 dX7_count_25 (by decide) (by decide) rfl (by decide) ?_
      refine r_aload_n X 1 dX7_count_93 rfl rfl ?_
      refine r_getr X 1 36 in_X7 (ci := 6) rfl rfl (ltn hnc rfl) (Nat.le_of_ble_eq_true rfl) rfl w_610 dX7_count_94 (by decide) ?_
      refine r_bipush X 30 dX7_count_97 rfl ?_
      refine r_iald X (n := 56) rfl (Or.inl (ltn hnc rfl)) (by decide) dX7_count_99 ?_
      exact r_iretE X hr dX7_count_100 h
    replace h := it_f c7 h
    by_cases c8 : p0 = 3
    · replace h := it_t c8 h
      refine r_swIn X 3 c8 101 dX7_count_25 (by decide) (by decide) rfl (by decide) ?_
      refine r_aload_n X 1 dX7_count_101 rfl rfl ?_
      refine r_geti X 5 in_X7 (ci := 6) rfl rfl (ltn hnc rfl) (Nat.le_of_ble_eq_true rfl) rfl w_614 dX7_count_102 ?_
      exact r_iretE X hr dX7_count_105 h
    replace h := it_f c8 h
    by_cases c9 : p0 = 4
    · replace h := it_t c9 h
      refine r_swIn X 4 c9 106 dX7_count_25 (by decide) (by decide) rfl (by decide) ?_
      refine r_aload_n X 1 dX7_count_106 rfl rfl ?_
      refine r_geti X 21 in_X7 (ci := 6) rfl rfl (ltn hnc rfl) (Nat.le_of_ble_eq_true rfl) rfl w_630 dX7_count_107 ?_
      exact r_iretE X hr dX7_count_110 h
    replace h := it_f c9 h
    have hsw : Int32.toInt p0 < 0 ∨ 4 < Int32.toInt p0 := sw_out (fun v9 h1 h2 h3 => by
      rcases (show v9 = 0 ∨ v9 = 1 ∨ v9 = 2 ∨ v9 = 3 ∨ v9 = 4 by omega) with rfl | rfl | rfl | rfl | rfl
      · exact c2 (Int32.toInt_inj.mp (h3.trans (by decide)))
      · exact c3 (Int32.toInt_inj.mp (h3.trans (by decide)))
      · exact c7 (Int32.toInt_inj.mp (h3.trans (by decide)))
      · exact c8 (Int32.toInt_inj.mp (h3.trans (by decide)))
      · exact c9 (Int32.toInt_inj.mp (h3.trans (by decide))))
    refine r_swOut X 111 dX7_count_25 hsw (by decide) ?_
    refine r_bipush X (-9) dX7_count_111 rfl ?_
    exact r_iretE X hr dX7_count_113 h
  · replace h := it_f c1 h
    refine r_iload_n X 1 dX7_count_6 rfl rfl ?_
    refine r_bipush X 17 dX7_count_7 rfl ?_
    refine r_icge X 22 dX7_count_9 (by decide) (fun c10 => ?_) (fun c10 => ?_)
    · replace h := it_t c10 h
      refine r_iconst X 0 dX7_count_22 rfl ?_
      refine r_istore_n X [(2, .int (0 : Int32)), (0, .ref 34), (1, .int p0)] dX7_count_23 rfl (Nat.le_of_ble_eq_true rfl) rfl ?_
      refine r_iload_n X 2 dX7_count_24 rfl rfl ?_
      by_cases c11 : p0 = 0
      · replace h := it_t c11 h
        refine r_swIn X 0 c11 60 dX7_count_25 (by decide) (by decide) rfl (by decide) ?_
        refine r_aload_n X 1 dX7_count_60 rfl rfl ?_
        refine r_getr X 1 36 in_X7 (ci := 6) rfl rfl (ltn hnc rfl) (Nat.le_of_ble_eq_true rfl) rfl w_610 dX7_count_61 (by decide) ?_
        refine r_bipush X 55 dX7_count_64 rfl ?_
        refine r_iald X (n := 56) rfl (Or.inl (ltn hnc rfl)) (by decide) dX7_count_66 ?_
        exact r_iretE X hr dX7_count_67 h
      replace h := it_f c11 h
      by_cases c12 : p0 = 1
      · replace h := it_t c12 h
        refine r_swIn X 1 c12 68 dX7_count_25 (by decide) (by decide) rfl (by decide) ?_
        refine r_iconst X 0 dX7_count_68 rfl ?_
        refine r_istore_n X [(3, .int (0 : Int32)), (2, .int (0 : Int32)), (0, .ref 34), (1, .int p0)] dX7_count_69 rfl (Nat.le_of_ble_eq_true rfl) rfl ?_
        refine r_sub (ls' := [(0, .ref 34), (2, .int (0 : Int32)), (3, .int (0 : Int32))]) [2, 1, 0] rfl ?_
        exact hl70  N M (0 : Int32) (0 : Int32) h
      replace h := it_f c12 h
      by_cases c13 : p0 = 2
      · replace h := it_t c13 h
        refine r_swIn X 2 c13 93 dX7_count_25 (by decide) (by decide) rfl (by decide) ?_
        refine r_aload_n X 1 dX7_count_93 rfl rfl ?_
        refine r_getr X 1 36 in_X7 (ci := 6) rfl rfl (ltn hnc rfl) (Nat.le_of_ble_eq_true rfl) rfl w_610 dX7_count_94 (by decide) ?_
        refine r_bipush X 30 dX7_count_97 rfl ?_
        refine r_iald X (n := 56) rfl (Or.inl (ltn hnc rfl)) (by decide) dX7_count_99 ?_
        exact r_iretE X hr dX7_count_100 h
      replace h := it_f c13 h
      by_cases c14 : p0 = 3
      · replace h := it_t c14 h
        refine r_swIn X 3 c14 101 dX7_count_25 (by decide) (by decide) rfl (by decide) ?_
        refine r_aload_n X 1 dX7_count_101 rfl rfl ?_
        refine r_geti X 5 in_X7 (ci := 6) rfl rfl (ltn hnc rfl) (Nat.le_of_ble_eq_true rfl) rfl w_614 dX7_count_102 ?_
        exact r_iretE X hr dX7_count_105 h
      replace h := it_f c14 h
      by_cases c15 : p0 = 4
      · replace h := it_t c15 h
        refine r_swIn X 4 c15 106 dX7_count_25 (by decide) (by decide) rfl (by decide) ?_
        refine r_aload_n X 1 dX7_count_106 rfl rfl ?_
        refine r_geti X 21 in_X7 (ci := 6) rfl rfl (ltn hnc rfl) (Nat.le_of_ble_eq_true rfl) rfl w_630 dX7_count_107 ?_
        exact r_iretE X hr dX7_count_110 h
      replace h := it_f c15 h
      have hsw : Int32.toInt p0 < 0 ∨ 4 < Int32.toInt p0 := sw_out (fun v9 h1 h2 h3 => by
        rcases (show v9 = 0 ∨ v9 = 1 ∨ v9 = 2 ∨ v9 = 3 ∨ v9 = 4 by omega) with rfl | rfl | rfl | rfl | rfl
        · exact c11 (Int32.toInt_inj.mp (h3.trans (by decide)))
        · exact c12 (Int32.toInt_inj.mp (h3.trans (by decide)))
        · exact c13 (Int32.toInt_inj.mp (h3.trans (by decide)))
        · exact c14 (Int32.toInt_inj.mp (h3.trans (by decide)))
        · exact c15 (Int32.toInt_inj.mp (h3.trans (by decide))))
      refine r_swOut X 111 dX7_count_25 hsw (by decide) ?_
      refine r_bipush X (-9) dX7_count_111 rfl ?_
      exact r_iretE X hr dX7_count_113 h
    · replace h := it_f c10 h
      refine r_aload_n X 0 dX7_count_12 rfl rfl ?_
      refine r_getr X 0 35 in_X7 (ci := 6) rfl rfl (ltn hnc rfl) (Nat.le_of_ble_eq_true rfl) rfl w_609 dX7_count_13 (by decide) ?_
      refine r_iload_n X 1 dX7_count_16 rfl rfl ?_
      refine r_bipush X 10 dX7_count_17 rfl ?_
      refine r_isub X dX7_count_19 ?_
      obtain ⟨c16, h⟩ := ck_ex h
      refine r_iald X (n := 7) rfl (Or.inl (ltn hnc rfl)) c16 dX7_count_20 ?_
      exact r_iretE X hr dX7_count_21 h
