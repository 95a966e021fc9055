/-! Part 08: methods as pure functions (f_..), and their contracts (k_..) -/
def f_X6_gap (N : Nat) (M : Mem) (p0 : Int32) : Option (Int32 × Mem) :=
  if p0 = 0 then
    (bd (f_X5_follow N M 4 (M.1 1 3)) fun M2 =>
    bd2 (f_X5_end N M2 ) fun r5 M4 =>
    if p0 = 0 then
      (bd2 (f_X2_squareWhole N M4 r5) fun r12 M11 =>
      some (Int64.toInt32 r12, M11))
    else
      (bd2 (f_X2_squareRoot N M4 r5) fun r9 M8 =>
      some (Int64.toInt32 r9, M8)))
  else
    (if p0 = (1 : Int32) then
      (bd (f_X5_follow N M 4 (M.1 1 3)) fun M15 =>
      bd2 (f_X5_end N M15 ) fun r18 M17 =>
      if p0 = 0 then
        (bd2 (f_X2_squareWhole N M17 r18) fun r25 M24 =>
        some (Int64.toInt32 r25, M24))
      else
        (bd2 (f_X2_squareRoot N M17 r18) fun r22 M21 =>
        some (Int64.toInt32 r22, M21)))
    else
      (bd2 (f_X6_refuseFar N M (-2 : Int32)) fun r28 M27 =>
      some (r28, M27)))
set_option maxRecDepth 100000 in
set_option maxHeartbeats 4000000 in
theorem k_X6_gap (l : Launch) (N : Nat) (nc : Nat) (hnc : 34 ≤ nc) (M : Mem) (p0 : Int32) (r : Int32) (M' : Mem) (h : f_X6_gap N M p0 = some (r, M')) (d : Nat) (hd : 3 ≤ d) : Ct l d yX6_gap cX6_gap 4 (some .int) shp nc [.ref 0, .int p0] M (some (.int r)) M' := by
  obtain ⟨d, rfl⟩ : ∃ q, d = q + 1 := ⟨d - 1, by omega⟩
  unfold f_X6_gap at h
  refine Ct.of (by decide +kernel) (Nat.le_of_ble_eq_true rfl) ?_
  intro p e s m args below meth c A ad D cI cJ X hr
  refine r_sub (ls' := [(0, .ref 0), (1, .int p0)]) [0, 1] rfl ?_
  refine r_iload_n X 1 dX6_gap_0 rfl rfl ?_
  refine r_ifeq X 16 dX6_gap_1 (by decide) (fun c1 => ?_) (fun c1 => ?_)
  · replace h := it_t c1 h
    refine r_aload_n X 0 dX6_gap_16 rfl rfl ?_
    refine r_getr X 4 17 in_X6 (ci := 5) rfl rfl (ltn hnc rfl) (Nat.le_of_ble_eq_true rfl) rfl w_244 dX6_gap_17 (by decide) ?_
    refine r_aload_n X 0 dX6_gap_20 rfl rfl ?_
    refine r_getr X 0 1 in_X6 (ci := 5) rfl rfl (ltn hnc rfl) (Nat.le_of_ble_eq_true rfl) rfl w_240 dX6_gap_21 (by decide) ?_
    refine r_getr X 2 4 in_X0 (ci := 0) rfl rfl (ltn hnc rfl) (Nat.le_of_ble_eq_true rfl) rfl w_80 dX6_gap_24 (by decide) ?_
    refine r_aload_n X 0 dX6_gap_27 rfl rfl ?_
    refine r_getr X 0 1 in_X6 (ci := 5) rfl rfl (ltn hnc rfl) (Nat.le_of_ble_eq_true rfl) rfl w_240 dX6_gap_28 (by decide) ?_
    refine r_geti X 3 in_X0 (ci := 0) rfl rfl (ltn hnc rfl) (Nat.le_of_ble_eq_true rfl) rfl w_82 dX6_gap_31 ?_
    obtain ⟨M2, h3, h⟩ := bd_ex h
    refine r_callV X (st := []) (av := [.ref 4, .int (M.1 1 3)]) (k := 17) (ci := 4) (k_X5_follow l N _ hnc _ _ _ (Or.inl (ltn hnc rfl)) _ h3 d (by omega)) (fitR_s (Nat.le_of_ble_eq_true rfl)) ⟨Nat.le_refl 0, Nat.le_refl 0⟩ rfl (ltn hnc rfl) rfl w_335 w_42 w_333 w_334 w_332 hy_X5_follow rfl (Nat.le_of_ble_eq_true rfl) dX6_gap_34 ?_
    refine r_aload_n X 0 dX6_gap_37 rfl rfl ?_
    refine r_getr X 4 17 in_X6 (ci := 5) rfl rfl (ltn hnc rfl) (Nat.le_of_ble_eq_true rfl) rfl w_244 dX6_gap_38 (by decide) ?_
    obtain ⟨r5, M4, h6, h⟩ := bd2_ex h
    refine r_callV X (st := []) (av := []) (k := 17) (ci := 4) (k_X5_end l N _ hnc _  _ _ h6 d (by omega)) (fitR_s (Nat.le_of_ble_eq_true rfl)) ⟨Nat.le_refl 0, Nat.le_refl 0⟩ rfl (ltn hnc rfl) rfl w_364 w_42 w_362 w_363 w_398 hy_X5_end rfl (Nat.le_of_ble_eq_true rfl) dX6_gap_41 ?_
    refine r_lstore_n X [(2, .long r5), (0, .ref 0), (1, .int p0)] dX6_gap_44 rfl (Nat.le_of_ble_eq_true rfl) rfl ?_
    refine r_iload_n X 2 dX6_gap_45 rfl rfl ?_
    refine r_ifne X 56 dX6_gap_46 (by decide) (fun c7 => ?_) (fun c7 => ?_)
    · replace h := it_f c7 h
      refine r_lload_n X 0 dX6_gap_56 rfl rfl ?_
      obtain ⟨r9, M8, h10, h⟩ := bd2_ex h
      refine r_callS X (st := []) (av := [.long r5]) (k_X2_squareRoot l N _ hnc _ _ _ _ h10 d (by omega)) (fitR_s (Nat.le_of_ble_eq_true rfl)) ⟨Nat.le_refl 0, Nat.le_refl 0⟩ w_405 w_46 w_404 w_403 hy_X2_squareRoot rfl (Nat.le_of_ble_eq_true rfl) dX6_gap_57 ?_
      refine r_l2i X dX6_gap_60 ?_
      exact r_iretE X hr dX6_gap_61 h
    · replace h := it_t c7 h
      refine r_lload_n X 0 dX6_gap_49 rfl rfl ?_
      obtain ⟨r12, M11, h13, h⟩ := bd2_ex h
      refine r_callS X (st := []) (av := [.long r5]) (k_X2_squareWhole l N _ hnc _ _ _ _ h13 d (by omega)) (fitR_s (Nat.le_of_ble_eq_true rfl)) ⟨Nat.le_refl 0, Nat.le_refl 0⟩ w_401 w_46 w_400 w_399 hy_X2_squareWhole rfl (Nat.le_of_ble_eq_true rfl) dX6_gap_50 ?_
      refine r_goto X 60 dX6_gap_53 (by decide) ?_
      refine r_l2i X dX6_gap_60 ?_
      exact r_iretE X hr dX6_gap_61 h
  · replace h := it_f c1 h
    refine r_iload_n X 1 dX6_gap_4 rfl rfl ?_
    refine r_iconst X 1 dX6_gap_5 rfl ?_
    refine r_iceq X 16 dX6_gap_6 (by decide) (fun c14 => ?_) (fun c14 => ?_)
    · replace h := it_t c14 h
      refine r_aload_n X 0 dX6_gap_16 rfl rfl ?_
      refine r_getr X 4 17 in_X6 (ci := 5) rfl rfl (ltn hnc rfl) (Nat.le_of_ble_eq_true rfl) rfl w_244 dX6_gap_17 (by decide) ?_
      refine r_aload_n X 0 dX6_gap_20 rfl rfl ?_
      refine r_getr X 0 1 in_X6 (ci := 5) rfl rfl (ltn hnc rfl) (Nat.le_of_ble_eq_true rfl) rfl w_240 dX6_gap_21 (by decide) ?_
      refine r_getr X 2 4 in_X0 (ci := 0) rfl rfl (ltn hnc rfl) (Nat.le_of_ble_eq_true rfl) rfl w_80 dX6_gap_24 (by decide) ?_
      refine r_aload_n X 0 dX6_gap_27 rfl rfl ?_
      refine r_getr X 0 1 in_X6 (ci := 5) rfl rfl (ltn hnc rfl) (Nat.le_of_ble_eq_true rfl) rfl w_240 dX6_gap_28 (by decide) ?_
      refine r_geti X 3 in_X0 (ci := 0) rfl rfl (ltn hnc rfl) (Nat.le_of_ble_eq_true rfl) rfl w_82 dX6_gap_31 ?_
      obtain ⟨M15, h16, h⟩ := bd_ex h
      refine r_callV X (st := []) (av := [.ref 4, .int (M.1 1 3)]) (k := 17) (ci := 4) (k_X5_follow l N _ hnc _ _ _ (Or.inl (ltn hnc rfl)) _ h16 d (by omega)) (fitR_s (Nat.le_of_ble_eq_true rfl)) ⟨Nat.le_refl 0, Nat.le_refl 0⟩ rfl (ltn hnc rfl) rfl w_335 w_42 w_333 w_334 w_332 hy_X5_follow rfl (Nat.le_of_ble_eq_true rfl) dX6_gap_34 ?_
      refine r_aload_n X 0 dX6_gap_37 rfl rfl ?_
      refine r_getr X 4 17 in_X6 (ci := 5) rfl rfl (ltn hnc rfl) (Nat.le_of_ble_eq_true rfl) rfl w_244 dX6_gap_38 (by decide) ?_
      obtain ⟨r18, M17, h19, h⟩ := bd2_ex h
      refine r_callV X (st := []) (av := []) (k := 17) (ci := 4) (k_X5_end l N _ hnc _  _ _ h19 d (by omega)) (fitR_s (Nat.le_of_ble_eq_true rfl)) ⟨Nat.le_refl 0, Nat.le_refl 0⟩ rfl (ltn hnc rfl) rfl w_364 w_42 w_362 w_363 w_398 hy_X5_end rfl (Nat.le_of_ble_eq_true rfl) dX6_gap_41 ?_
      refine r_lstore_n X [(2, .long r18), (0, .ref 0), (1, .int p0)] dX6_gap_44 rfl (Nat.le_of_ble_eq_true rfl) rfl ?_
      refine r_iload_n X 2 dX6_gap_45 rfl rfl ?_
      refine r_ifne X 56 dX6_gap_46 (by decide) (fun c20 => ?_) (fun c20 => ?_)
      · replace h := it_f c20 h
        refine r_lload_n X 0 dX6_gap_56 rfl rfl ?_
        obtain ⟨r22, M21, h23, h⟩ := bd2_ex h
        refine r_callS X (st := []) (av := [.long r18]) (k_X2_squareRoot l N _ hnc _ _ _ _ h23 d (by omega)) (fitR_s (Nat.le_of_ble_eq_true rfl)) ⟨Nat.le_refl 0, Nat.le_refl 0⟩ w_405 w_46 w_404 w_403 hy_X2_squareRoot rfl (Nat.le_of_ble_eq_true rfl) dX6_gap_57 ?_
        refine r_l2i X dX6_gap_60 ?_
        exact r_iretE X hr dX6_gap_61 h
      · replace h := it_t c20 h
        refine r_lload_n X 0 dX6_gap_49 rfl rfl ?_
        obtain ⟨r25, M24, h26, h⟩ := bd2_ex h
        refine r_callS X (st := []) (av := [.long r18]) (k_X2_squareWhole l N _ hnc _ _ _ _ h26 d (by omega)) (fitR_s (Nat.le_of_ble_eq_true rfl)) ⟨Nat.le_refl 0, Nat.le_refl 0⟩ w_401 w_46 w_400 w_399 hy_X2_squareWhole rfl (Nat.le_of_ble_eq_true rfl) dX6_gap_50 ?_
        refine r_goto X 60 dX6_gap_53 (by decide) ?_
        refine r_l2i X dX6_gap_60 ?_
        exact r_iretE X hr dX6_gap_61 h
    · replace h := it_f c14 h
      refine r_aload_n X 0 dX6_gap_9 rfl rfl ?_
      refine r_bipush X (-2) dX6_gap_10 rfl ?_
      obtain ⟨r28, M27, h29, h⟩ := bd2_ex h
      refine r_callV X (st := []) (av := [.int (-2 : Int32)]) (k := 0) (ci := 5) (k_X6_refuseFar l N _ hnc _ _ _ _ h29 d (by omega)) (fitR_s (Nat.le_of_ble_eq_true rfl)) ⟨Nat.le_refl 0, Nat.le_refl 0⟩ rfl (ltn hnc rfl) rfl w_330 w_39 w_329 w_3 w_327 hy_X6_refuseFar rfl (Nat.le_of_ble_eq_true rfl) dX6_gap_12 ?_
      exact r_iretE X hr dX6_gap_15 h
def f_X7_gapOf (N : Nat) (M : Mem) (p0 : Int32) : Option (Int32 × Mem) :=
  nm ((5 : Int32) * (M.1 34 8)) fun x1 =>
  ck (inb x1 125) <|
  ck (inb (x1 + (1 : Int32)) 125) <|
  nm (M.1 39 (ix (x1 + (1 : Int32)))) fun x4 =>
  ck (inb (x1 + (2 : Int32)) 125) <|
  nm (M.1 39 (ix (x1 + (2 : Int32)))) fun x6 =>
  ck (inb (x1 + (3 : Int32)) 125) <|
  nm (M.1 39 (ix (x1 + (3 : Int32)))) fun x8 =>
  if p0 = 0 then
    (some (((((M.1 39 (ix x1)) * (M.1 39 (ix x1))) + (((2 : Int32) * x4) * x4)) + (x6 * x6)) + (((2 : Int32) * x8) * x8), M))
  else
    (some ((((2 : Int32) * (M.1 39 (ix x1))) * x4) + (((2 : Int32) * x6) * x8), M))
set_option maxRecDepth 100000 in
set_option maxHeartbeats 4000000 in
theorem k_X7_gapOf (l : Launch) (N : Nat) (nc : Nat) (hnc : 45 ≤ nc) (M : Mem) (p0 : Int32) (r : Int32) (M' : Mem) (h : f_X7_gapOf N M p0 = some (r, M')) (d : Nat) (hd : 0 ≤ d) : Ct l d yX7_gapOf cX7_gapOf 7 (some .int) shp nc [.ref 34, .int p0] M (some (.int r)) M' := by
  unfold f_X7_gapOf at h
  refine Ct.of (by decide +kernel) (Nat.le_of_ble_eq_true rfl) ?_
  intro p e s m args below meth c A ad D cI cJ X hr
  refine r_sub (ls' := [(0, .ref 34), (1, .int p0)]) [0, 1] rfl ?_
  refine r_iconst X 5 dX7_gapOf_0 rfl ?_
  refine r_aload_n X 0 dX7_gapOf_1 rfl rfl ?_
  refine r_geti X 8 in_X7 (ci := 6) rfl rfl (ltn hnc rfl) (Nat.le_of_ble_eq_true rfl) rfl w_617 dX7_gapOf_2 ?_
  refine r_imul X dX7_gapOf_5 ?_
  obtain ⟨x1, ex1, h⟩ := nm_ex h
  refine r_top ex1 ?_
  refine r_istore_n X [(2, .int x1), (0, .ref 34), (1, .int p0)] dX7_gapOf_6 rfl (Nat.le_of_ble_eq_true rfl) rfl ?_
  refine r_aload_n X 1 dX7_gapOf_7 rfl rfl ?_
  refine r_getr X 6 39 in_X7 (ci := 6) rfl rfl (ltn hnc rfl) (Nat.le_of_ble_eq_true rfl) rfl w_615 dX7_gapOf_8 (by decide) ?_
  refine r_iload_n X 0 dX7_gapOf_11 rfl rfl ?_
  obtain ⟨c2, h⟩ := ck_ex h
  refine r_iald X (n := 125) rfl (Or.inl (ltn hnc rfl)) c2 dX7_gapOf_12 ?_
  refine r_istore_n X [(3, .int (M.1 39 (ix x1))), (2, .int x1), (0, .ref 34), (1, .int p0)] dX7_gapOf_13 rfl (Nat.le_of_ble_eq_true rfl) rfl ?_
  refine r_aload_n X 2 dX7_gapOf_14 rfl rfl ?_
  refine r_getr X 6 39 in_X7 (ci := 6) rfl rfl (ltn hnc rfl) (Nat.le_of_ble_eq_true rfl) rfl w_615 dX7_gapOf_15 (by decide) ?_
  refine r_iload_n X 1 dX7_gapOf_18 rfl rfl ?_
  refine r_iconst X 1 dX7_gapOf_19 rfl ?_
  refine r_iadd X dX7_gapOf_20 ?_
  obtain ⟨c3, h⟩ := ck_ex h
  refine r_iald X (n := 125) rfl (Or.inl (ltn hnc rfl)) c3 dX7_gapOf_21 ?_
  obtain ⟨x4, ex4, h⟩ := nm_ex h
  refine r_top ex4 ?_
  refine r_istore X [(4, .int x4), (3, .int (M.1 39 (ix x1))), (2, .int x1), (0, .ref 34), (1, .int p0)] dX7_gapOf_22 (Nat.le_of_ble_eq_true rfl) rfl ?_
  refine r_aload_n X 3 dX7_gapOf_24 rfl rfl ?_
  refine r_getr X 6 39 in_X7 (ci := 6) rfl rfl (ltn hnc rfl) (Nat.le_of_ble_eq_true rfl) rfl w_615 dX7_gapOf_25 (by decide) ?_
  refine r_iload_n X 2 dX7_gapOf_28 rfl rfl ?_
  refine r_iconst X 2 dX7_gapOf_29 rfl ?_
  refine r_iadd X dX7_gapOf_30 ?_
  obtain ⟨c5, h⟩ := ck_ex h
  refine r_iald X (n := 125) rfl (Or.inl (ltn hnc rfl)) c5 dX7_gapOf_31 ?_
  obtain ⟨x6, ex6, h⟩ := nm_ex h
  refine r_top ex6 ?_
  refine r_istore X [(5, .int x6), (4, .int x4), (3, .int (M.1 39 (ix x1))), (2, .int x1), (0, .ref 34), (1, .int p0)] dX7_gapOf_32 (Nat.le_of_ble_eq_true rfl) rfl ?_
  refine r_aload_n X 4 dX7_gapOf_34 rfl rfl ?_
  refine r_getr X 6 39 in_X7 (ci := 6) rfl rfl (ltn hnc rfl) (Nat.le_of_ble_eq_true rfl) rfl w_615 dX7_gapOf_35 (by decide) ?_
  refine r_iload_n X 3 dX7_gapOf_38 rfl rfl ?_
  refine r_iconst X 3 dX7_gapOf_39 rfl ?_
  refine r_iadd X dX7_gapOf_40 ?_
  obtain ⟨c7, h⟩ := ck_ex h
  refine r_iald X (n := 125) rfl (Or.inl (ltn hnc rfl)) c7 dX7_gapOf_41 ?_
  obtain ⟨x8, ex8, h⟩ := nm_ex h
  refine r_top ex8 ?_
  refine r_istore X [(6, .int x8), (5, .int x6), (4, .int x4), (3, .int (M.1 39 (ix x1))), (2, .int x1), (0, .ref 34), (1, .int p0)] dX7_gapOf_42 (Nat.le_of_ble_eq_true rfl) rfl ?_
  refine r_iload_n X 6 dX7_gapOf_44 rfl rfl ?_
  refine r_ifne X 76 dX7_gapOf_45 (by decide) (fun c9 => ?_) (fun c9 => ?_)
  · replace h := it_f c9 h
    refine r_iconst X 2 dX7_gapOf_76 rfl ?_
    refine r_iload_n X 3 dX7_gapOf_77 rfl rfl ?_
    refine r_imul X dX7_gapOf_78 ?_
    refine r_iload X 2 dX7_gapOf_79 rfl ?_
    refine r_imul X dX7_gapOf_81 ?_
    refine r_iconst X 2 dX7_gapOf_82 rfl ?_
    refine r_iload X 1 dX7_gapOf_83 rfl ?_
    refine r_imul X dX7_gapOf_85 ?_
    refine r_iload X 0 dX7_gapOf_86 rfl ?_
    refine r_imul X dX7_gapOf_88 ?_
    refine r_iadd X dX7_gapOf_89 ?_
    exact r_iretE X hr dX7_gapOf_90 h
  · replace h := it_t c9 h
    refine r_iload_n X 3 dX7_gapOf_48 rfl rfl ?_
    refine r_iload_n X 3 dX7_gapOf_49 rfl rfl ?_
    refine r_imul X dX7_gapOf_50 ?_
    refine r_iconst X 2 dX7_gapOf_51 rfl ?_
    refine r_iload X 2 dX7_gapOf_52 rfl ?_
    refine r_imul X dX7_gapOf_54 ?_
    refine r_iload X 2 dX7_gapOf_55 rfl ?_
    refine r_imul X dX7_gapOf_57 ?_
    refine r_iadd X dX7_gapOf_58 ?_
    refine r_iload X 1 dX7_gapOf_59 rfl ?_
    refine r_iload X 1 dX7_gapOf_61 rfl ?_
    refine r_imul X dX7_gapOf_63 ?_
    refine r_iadd X dX7_gapOf_64 ?_
    refine r_iconst X 2 dX7_gapOf_65 rfl ?_
    refine r_iload X 0 dX7_gapOf_66 rfl ?_
    refine r_imul X dX7_gapOf_68 ?_
    refine r_iload X 0 dX7_gapOf_69 rfl ?_
    refine r_imul X dX7_gapOf_71 ?_
    refine r_iadd X dX7_gapOf_72 ?_
    refine r_goto X 90 dX7_gapOf_73 (by decide) ?_
    exact r_iretE X hr dX7_gapOf_90 h
def f_X7_gap (N : Nat) (M : Mem) (p0 : Int32) : Option (Int32 × Mem) :=
  bd2 (f_X7_isIn N M p0 (2 : Int32)) fun r2 M1 =>
  if r2 = 0 then
    (bd2 (f_X7_refuse N M1 (-2 : Int32)) fun r11 M10 =>
    some ((1000000000 : Int32) - r11, M10))
  else
    (bd (f_X7_takes N M1 ) fun M5 =>
    bd2 (f_X7_gapOf N M5 p0) fun r8 M7 =>
    some (r8, M7))
set_option maxRecDepth 100000 in
set_option maxHeartbeats 4000000 in
theorem k_X7_gap (l : Launch) (N : Nat) (nc : Nat) (hnc : 45 ≤ nc) (M : Mem) (p0 : Int32) (r : Int32) (M' : Mem) (h : f_X7_gap N M p0 = some (r, M')) (d : Nat) (hd : 4 ≤ d) : Ct l d yX7_gap cX7_gap 2 (some .int) shp nc [.ref 34, .int p0] M (some (.int r)) M' := by
  obtain ⟨d, rfl⟩ : ∃ q, d = q + 1 := ⟨d - 1, by omega⟩
  unfold f_X7_gap at h
  refine Ct.of (by decide +kernel) (Nat.le_of_ble_eq_true rfl) ?_
  intro p e s m args below meth c A ad D cI cJ X hr
  refine r_sub (ls' := [(0, .ref 34), (1, .int p0)]) [0, 1] rfl ?_
  refine r_iload_n X 1 dX7_gap_0 rfl rfl ?_
  refine r_iconst X 2 dX7_gap_1 rfl ?_
  obtain ⟨r2, M1, h3, h⟩ := bd2_ex h
  refine r_callS X (st := []) (av := [.int p0, .int (2 : Int32)]) (k_X7_isIn l N _ hnc _ _ _ _ _ h3 d (by omega)) (fitR_s (Nat.le_of_ble_eq_true rfl)) ⟨Nat.le_refl 0, Nat.le_refl 0⟩ w_704 w_47 w_703 w_702 hy_X7_isIn rfl (Nat.le_of_ble_eq_true rfl) dX7_gap_2 ?_
  refine r_ifne X 18 dX7_gap_5 (by decide) (fun c4 => ?_) (fun c4 => ?_)
  · replace h := it_f c4 h
    refine r_aload_n X 0 dX7_gap_18 rfl rfl ?_
    obtain ⟨M5, h6, h⟩ := bd_ex h
    refine r_callV X (st := []) (av := []) (k := 34) (ci := 6) (k_X7_takes l N _ hnc _  _ h6 d (by omega)) (fitR_s (Nat.le_of_ble_eq_true rfl)) ⟨Nat.le_refl 0, Nat.le_refl 0⟩ rfl (ltn hnc rfl) rfl w_724 w_47 w_723 w_19 w_721 hy_X7_takes rfl (Nat.le_of_ble_eq_true rfl) dX7_gap_19 ?_
    refine r_aload_n X 0 dX7_gap_22 rfl rfl ?_
    refine r_iload_n X 1 dX7_gap_23 rfl rfl ?_
    obtain ⟨r8, M7, h9, h⟩ := bd2_ex h
    refine r_callV X (st := []) (av := [.int p0]) (k := 34) (ci := 6) (k_X7_gapOf l N _ hnc _ _ _ _ h9 d (by omega)) (fitR_s (Nat.le_of_ble_eq_true rfl)) ⟨Nat.le_refl 0, Nat.le_refl 0⟩ rfl (ltn hnc rfl) rfl w_779 w_47 w_778 w_25 w_776 hy_X7_gapOf rfl (Nat.le_of_ble_eq_true rfl) dX7_gap_24 ?_
    exact r_iretE X hr dX7_gap_27 h
  · replace h := it_t c4 h
    refine r_ldc X w_720 dX7_gap_8 ?_
    refine r_aload_n X 0 dX7_gap_10 rfl rfl ?_
    refine r_bipush X (-2) dX7_gap_11 rfl ?_
    obtain ⟨r11, M10, h12, h⟩ := bd2_ex h
    refine r_callV X (st := [.int (1000000000 : Int32)]) (av := [.int (-2 : Int32)]) (k := 34) (ci := 6) (k_X7_refuse l N _ hnc _ _ _ _ h12 d (by omega)) (fitR_s (Nat.le_of_ble_eq_true rfl)) ⟨Nat.le_refl 0, Nat.le_refl 0⟩ rfl (ltn hnc rfl) rfl w_689 w_47 w_688 w_18 w_686 hy_X7_refuse rfl (Nat.le_of_ble_eq_true rfl) dX7_gap_13 ?_
    refine r_isub X dX7_gap_16 ?_
    exact r_iretE X hr dX7_gap_17 h
def f_X6_nearer (N : Nat) (M : Mem) (p0 : Int32) (p1 : Int32) : Option (Int32 × Mem) :=
  if p0 < (-1000000 : Int32) then
    (bd2 (f_X6_refuse N M (-4 : Int32)) fun r3 M2 =>
    some (r3, M2))
  else
    (if (-1000000 : Int32) ≤ p1 then
      (if (1000000 : Int32) < p0 then
        (bd2 (f_X6_refuse N M (-6 : Int32)) fun r8 M7 =>
        some (r8, M7))
      else
        (if p1 ≤ (1000000 : Int32) then
          (bd (f_X5_follow N M 4 (M.1 1 3)) fun M11 =>
          bd2 (f_X5_end N M11 ) fun r14 M13 =>
          bd2 (f_X2_squareWhole N M13 r14) fun r17 M16 =>
          nm (r17 - (Int32.toInt64 p0)) fun x19 =>
          bd2 (f_X2_squareRoot N M16 r14) fun r21 M20 =>
          nm (r21 - (Int32.toInt64 p1)) fun x23 =>
          bd2 (f_X2_signOf N M20 x19 x23) fun r25 M24 =>
          if 0 ≤ r25 then
            (bd2 (f_X6_yes N M24 (0 : Int32)) fun r29 M28 =>
            some (r29, M28))
          else
            (bd2 (f_X6_yes N M24 (1 : Int32)) fun r32 M31 =>
            some (r32, M31)))
        else
          (bd2 (f_X6_refuse N M (-6 : Int32)) fun r35 M34 =>
          some (r35, M34))))
    else
      (bd2 (f_X6_refuse N M (-4 : Int32)) fun r38 M37 =>
      some (r38, M37)))
set_option maxRecDepth 100000 in
set_option maxHeartbeats 4000000 in
theorem k_X6_nearer (l : Launch) (N : Nat) (nc : Nat) (hnc : 34 ≤ nc) (M : Mem) (p0 : Int32) (p1 : Int32) (r : Int32) (M' : Mem) (h : f_X6_nearer N M p0 p1 = some (r, M')) (d : Nat) (hd : 3 ≤ d) : Ct l d yX6_nearer cX6_nearer 9 (some .int) shp nc [.ref 0, .int p0, .int p1] M (some (.int r)) M' := by
  obtain ⟨d, rfl⟩ : ∃ q, d = q + 1 := ⟨d - 1, by omega⟩
  unfold f_X6_nearer at h
  refine Ct.of (by decide +kernel) (Nat.le_of_ble_eq_true rfl) ?_
  intro p e s m args below meth c A ad D cI cJ X hr
  refine r_sub (ls' := [(0, .ref 0), (1, .int p0), (2, .int p1)]) [0, 1, 2] rfl ?_
  refine r_iload_n X 1 dX6_nearer_0 rfl rfl ?_
  refine r_ldc X w_388 dX6_nearer_1 ?_
  refine r_iclt X 12 dX6_nearer_3 (by decide) (fun c1 => ?_) (fun c1 => ?_)
  · replace h := it_t c1 h
    refine r_aload_n X 0 dX6_nearer_12 rfl rfl ?_
    refine r_bipush X (-4) dX6_nearer_13 rfl ?_
    obtain ⟨r3, M2, h4, h⟩ := bd2_ex h
    refine r_callV X (st := []) (av := [.int (-4 : Int32)]) (k := 0) (ci := 5) (k_X6_refuse l N _ hnc _ _ _ _ h4 d (by omega)) (fitR_s (Nat.le_of_ble_eq_true rfl)) ⟨Nat.le_refl 0, Nat.le_refl 0⟩ rfl (ltn hnc rfl) rfl w_284 w_39 w_283 w_1 w_281 hy_X6_refuse rfl (Nat.le_of_ble_eq_true rfl) dX6_nearer_15 ?_
    exact r_iretE X hr dX6_nearer_18 h
  · replace h := it_f c1 h
    refine r_iload_n X 2 dX6_nearer_6 rfl rfl ?_
    refine r_ldc X w_388 dX6_nearer_7 ?_
    refine r_icge X 19 dX6_nearer_9 (by decide) (fun c5 => ?_) (fun c5 => ?_)
    · replace h := it_t c5 h
      refine r_iload_n X 1 dX6_nearer_19 rfl rfl ?_
      refine r_ldc X w_389 dX6_nearer_20 ?_
      refine r_icgt X 31 dX6_nearer_22 (by decide) (fun c6 => ?_) (fun c6 => ?_)
      · replace h := it_t c6 h
        refine r_aload_n X 0 dX6_nearer_31 rfl rfl ?_
        refine r_bipush X (-6) dX6_nearer_32 rfl ?_
        obtain ⟨r8, M7, h9, h⟩ := bd2_ex h
        refine r_callV X (st := []) (av := [.int (-6 : Int32)]) (k := 0) (ci := 5) (k_X6_refuse l N _ hnc _ _ _ _ h9 d (by omega)) (fitR_s (Nat.le_of_ble_eq_true rfl)) ⟨Nat.le_refl 0, Nat.le_refl 0⟩ rfl (ltn hnc rfl) rfl w_284 w_39 w_283 w_1 w_281 hy_X6_refuse rfl (Nat.le_of_ble_eq_true rfl) dX6_nearer_34 ?_
        exact r_iretE X hr dX6_nearer_37 h
      · replace h := it_f c6 h
        refine r_iload_n X 2 dX6_nearer_25 rfl rfl ?_
        refine r_ldc X w_389 dX6_nearer_26 ?_
        refine r_icle X 38 dX6_nearer_28 (by decide) (fun c10 => ?_) (fun c10 => ?_)
        · replace h := it_t c10 h
          refine r_aload_n X 0 dX6_nearer_38 rfl rfl ?_
          refine r_getr X 4 17 in_X6 (ci := 5) rfl rfl (ltn hnc rfl) (Nat.le_of_ble_eq_true rfl) rfl w_244 dX6_nearer_39 (by decide) ?_
          refine r_aload_n X 0 dX6_nearer_42 rfl rfl ?_
          refine r_getr X 0 1 in_X6 (ci := 5) rfl rfl (ltn hnc rfl) (Nat.le_of_ble_eq_true rfl) rfl w_240 dX6_nearer_43 (by decide) ?_
          refine r_getr X 2 4 in_X0 (ci := 0) rfl rfl (ltn hnc rfl) (Nat.le_of_ble_eq_true rfl) rfl w_80 dX6_nearer_46 (by decide) ?_
          refine r_aload_n X 0 dX6_nearer_49 rfl rfl ?_
          refine r_getr X 0 1 in_X6 (ci := 5) rfl rfl (ltn hnc rfl) (Nat.le_of_ble_eq_true rfl) rfl w_240 dX6_nearer_50 (by decide) ?_
          refine r_geti X 3 in_X0 (ci := 0) rfl rfl (ltn hnc rfl) (Nat.le_of_ble_eq_true rfl) rfl w_82 dX6_nearer_53 ?_
          obtain ⟨M11, h12, h⟩ := bd_ex h
          refine r_callV X (st := []) (av := [.ref 4, .int (M.1 1 3)]) (k := 17) (ci := 4) (k_X5_follow l N _ hnc _ _ _ (Or.inl (ltn hnc rfl)) _ h12 d (by omega)) (fitR_s (Nat.le_of_ble_eq_true rfl)) ⟨Nat.le_refl 0, Nat.le_refl 0⟩ rfl (ltn hnc rfl) rfl w_335 w_42 w_333 w_334 w_332 hy_X5_follow rfl (Nat.le_of_ble_eq_true rfl) dX6_nearer_56 ?_
          refine r_aload_n X 0 dX6_nearer_59 rfl rfl ?_
          refine r_getr X 4 17 in_X6 (ci := 5) rfl rfl (ltn hnc rfl) (Nat.le_of_ble_eq_true rfl) rfl w_244 dX6_nearer_60 (by decide) ?_
          obtain ⟨r14, M13, h15, h⟩ := bd2_ex h
          refine r_callV X (st := []) (av := []) (k := 17) (ci := 4) (k_X5_end l N _ hnc _  _ _ h15 d (by omega)) (fitR_s (Nat.le_of_ble_eq_true rfl)) ⟨Nat.le_refl 0, Nat.le_refl 0⟩ rfl (ltn hnc rfl) rfl w_364 w_42 w_362 w_363 w_398 hy_X5_end rfl (Nat.le_of_ble_eq_true rfl) dX6_nearer_63 ?_
          refine r_lstore_n X [(3, .long r14), (0, .ref 0), (1, .int p0), (2, .int p1)] dX6_nearer_66 rfl (Nat.le_of_ble_eq_true rfl) rfl ?_
          refine r_lload_n X 0 dX6_nearer_67 rfl rfl ?_
          obtain ⟨r17, M16, h18, h⟩ := bd2_ex h
          refine r_callS X (st := []) (av := [.long r14]) (k_X2_squareWhole l N _ hnc _ _ _ _ h18 d (by omega)) (fitR_s (Nat.le_of_ble_eq_true rfl)) ⟨Nat.le_refl 0, Nat.le_refl 0⟩ w_401 w_46 w_400 w_399 hy_X2_squareWhole rfl (Nat.le_of_ble_eq_true rfl) dX6_nearer_68 ?_
          refine r_iload_n X 2 dX6_nearer_71 rfl rfl ?_
          refine r_i2l X dX6_nearer_72 ?_
          refine r_lsub X dX6_nearer_73 ?_
          obtain ⟨x19, ex19, h⟩ := nm_ex h
          refine r_topl ex19 ?_
          refine r_lstore X [(5, .long x19), (3, .long r14), (0, .ref 0), (1, .int p0), (2, .int p1)] dX6_nearer_74 (Nat.le_of_ble_eq_true rfl) rfl ?_
          refine r_lload_n X 1 dX6_nearer_76 rfl rfl ?_
          obtain ⟨r21, M20, h22, h⟩ := bd2_ex h
          refine r_callS X (st := []) (av := [.long r14]) (k_X2_squareRoot l N _ hnc _ _ _ _ h22 d (by omega)) (fitR_s (Nat.le_of_ble_eq_true rfl)) ⟨Nat.le_refl 0, Nat.le_refl 0⟩ w_405 w_46 w_404 w_403 hy_X2_squareRoot rfl (Nat.le_of_ble_eq_true rfl) dX6_nearer_77 ?_
          refine r_iload_n X 4 dX6_nearer_80 rfl rfl ?_
          refine r_i2l X dX6_nearer_81 ?_
          refine r_lsub X dX6_nearer_82 ?_
          obtain ⟨x23, ex23, h⟩ := nm_ex h
          refine r_topl ex23 ?_
          refine r_lstore X [(7, .long x23), (5, .long x19), (3, .long r14), (0, .ref 0), (1, .int p0), (2, .int p1)] dX6_nearer_83 (Nat.le_of_ble_eq_true rfl) rfl ?_
          refine r_lload X 1 dX6_nearer_85 rfl ?_
          refine r_lload X 0 dX6_nearer_87 rfl ?_
          obtain ⟨r25, M24, h26, h⟩ := bd2_ex h
          refine r_callS X (st := []) (av := [.long x19, .long x23]) (k_X2_signOf l N _ hnc _ _ _ _ _ h26 d (by omega)) (fitR_s (Nat.le_of_ble_eq_true rfl)) ⟨Nat.le_refl 0, Nat.le_refl 0⟩ w_392 w_46 w_391 w_390 hy_X2_signOf rfl (Nat.le_of_ble_eq_true rfl) dX6_nearer_89 ?_
          refine r_ifge X 99 dX6_nearer_92 (by decide) (fun c27 => ?_) (fun c27 => ?_)
          · replace h := it_t c27 h
            refine r_iconst X 0 dX6_nearer_99 rfl ?_
            obtain ⟨r29, M28, h30, h⟩ := bd2_ex h
            refine r_callS X (st := []) (av := [.int (0 : Int32)]) (k_X6_yes l N _ hnc _ _ _ _ h30 d (by omega)) (fitR_s (Nat.le_of_ble_eq_true rfl)) ⟨Nat.le_refl 0, Nat.le_refl 0⟩ w_368 w_39 w_367 w_366 hy_X6_yes rfl (Nat.le_of_ble_eq_true rfl) dX6_nearer_100 ?_
            exact r_iretE X hr dX6_nearer_103 h
          · replace h := it_f c27 h
            refine r_iconst X 1 dX6_nearer_95 rfl ?_
            refine r_goto X 100 dX6_nearer_96 (by decide) ?_
            obtain ⟨r32, M31, h33, h⟩ := bd2_ex h
            refine r_callS X (st := []) (av := [.int (1 : Int32)]) (k_X6_yes l N _ hnc _ _ _ _ h33 d (by omega)) (fitR_s (Nat.le_of_ble_eq_true rfl)) ⟨Nat.le_refl 0, Nat.le_refl 0⟩ w_368 w_39 w_367 w_366 hy_X6_yes rfl (Nat.le_of_ble_eq_true rfl) dX6_nearer_100 ?_
            exact r_iretE X hr dX6_nearer_103 h
        · replace h := it_f c10 h
          refine r_aload_n X 0 dX6_nearer_31 rfl rfl ?_
          refine r_bipush X (-6) dX6_nearer_32 rfl ?_
          obtain ⟨r35, M34, h36, h⟩ := bd2_ex h
          refine r_callV X (st := []) (av := [.int (-6 : Int32)]) (k := 0) (ci := 5) (k_X6_refuse l N _ hnc _ _ _ _ h36 d (by omega)) (fitR_s (Nat.le_of_ble_eq_true rfl)) ⟨Nat.le_refl 0, Nat.le_refl 0⟩ rfl (ltn hnc rfl) rfl w_284 w_39 w_283 w_1 w_281 hy_X6_refuse rfl (Nat.le_of_ble_eq_true rfl) dX6_nearer_34 ?_
          exact r_iretE X hr dX6_nearer_37 h
    · replace h := it_f c5 h
      refine r_aload_n X 0 dX6_nearer_12 rfl rfl ?_
      refine r_bipush X (-4) dX6_nearer_13 rfl ?_
      obtain ⟨r38, M37, h39, h⟩ := bd2_ex h
      refine r_callV X (st := []) (av := [.int (-4 : Int32)]) (k := 0) (ci := 5) (k_X6_refuse l N _ hnc _ _ _ _ h39 d (by omega)) (fitR_s (Nat.le_of_ble_eq_true rfl)) ⟨Nat.le_refl 0, Nat.le_refl 0⟩ rfl (ltn hnc rfl) rfl w_284 w_39 w_283 w_1 w_281 hy_X6_refuse rfl (Nat.le_of_ble_eq_true rfl) dX6_nearer_15 ?_
      exact r_iretE X hr dX6_nearer_18 h
def f_X7_nearer (N : Nat) (M : Mem) (p0 : Int32) (p1 : Int32) : Option (Int32 × Mem) :=
  if p0 < (-1000000 : Int32) then
    (bd2 (f_X7_refuse N M (-4 : Int32)) fun r3 M2 =>
    some (r3, M2))
  else
    (if (-1000000 : Int32) ≤ p1 then
      (if (1000000 : Int32) < p0 then
        (bd2 (f_X7_refuse N M (-6 : Int32)) fun r8 M7 =>
        some (r8, M7))
      else
        (if p1 ≤ (1000000 : Int32) then
          (bd (f_X7_takes N M ) fun M11 =>
          bd2 (f_X7_gapOf N M11 (0 : Int32)) fun r14 M13 =>
          bd2 (f_X7_gapOf N M13 (1 : Int32)) fun r17 M16 =>
          bd2 (f_X7_signOf N M16 ((Int32.toInt64 r14) - (Int32.toInt64 p0)) ((Int32.toInt64 r17) - (Int32.toInt64 p1))) fun r20 M19 =>
          if 0 ≤ r20 then
            (some ((0 : Int32), M19))
          else
            (some ((1 : Int32), M19)))
        else
          (bd2 (f_X7_refuse N M (-6 : Int32)) fun r24 M23 =>
          some (r24, M23))))
    else
      (bd2 (f_X7_refuse N M (-4 : Int32)) fun r27 M26 =>
      some (r27, M26)))
set_option maxRecDepth 100000 in
set_option maxHeartbeats 4000000 in
theorem k_X7_nearer (l : Launch) (N : Nat) (nc : Nat) (hnc : 45 ≤ nc) (M : Mem) (p0 : Int32) (p1 : Int32) (r : Int32) (M' : Mem) (h : f_X7_nearer N M p0 p1 = some (r, M')) (d : Nat) (hd : 4 ≤ d) : Ct l d yX7_nearer cX7_nearer 3 (some .int) shp nc [.ref 34, .int p0, .int p1] M (some (.int r)) M' := by
  obtain ⟨d, rfl⟩ : ∃ q, d = q + 1 := ⟨d - 1, by omega⟩
  unfold f_X7_nearer at h
  refine Ct.of (by decide +kernel) (Nat.le_of_ble_eq_true rfl) ?_
  intro p e s m args below meth c A ad D cI cJ X hr
  refine r_sub (ls' := [(0, .ref 34), (1, .int p0), (2, .int p1)]) [0, 1, 2] rfl ?_
  refine r_iload_n X 1 dX7_nearer_0 rfl rfl ?_
  refine r_ldc X w_766 dX7_nearer_1 ?_
  refine r_iclt X 12 dX7_nearer_3 (by decide) (fun c1 => ?_) (fun c1 => ?_)
  · replace h := it_t c1 h
    refine r_aload_n X 0 dX7_nearer_12 rfl rfl ?_
    refine r_bipush X (-4) dX7_nearer_13 rfl ?_
    obtain ⟨r3, M2, h4, h⟩ := bd2_ex h
    refine r_callV X (st := []) (av := [.int (-4 : Int32)]) (k := 34) (ci := 6) (k_X7_refuse l N _ hnc _ _ _ _ h4 d (by omega)) (fitR_s (Nat.le_of_ble_eq_true rfl)) ⟨Nat.le_refl 0, Nat.le_refl 0⟩ rfl (ltn hnc rfl) rfl w_689 w_47 w_688 w_18 w_686 hy_X7_refuse rfl (Nat.le_of_ble_eq_true rfl) dX7_nearer_15 ?_
    exact r_iretE X hr dX7_nearer_18 h
  · replace h := it_f c1 h
    refine r_iload_n X 2 dX7_nearer_6 rfl rfl ?_
    refine r_ldc X w_766 dX7_nearer_7 ?_
    refine r_icge X 19 dX7_nearer_9 (by decide) (fun c5 => ?_) (fun c5 => ?_)
    · replace h := it_t c5 h
      refine r_iload_n X 1 dX7_nearer_19 rfl rfl ?_
      refine r_ldc X w_767 dX7_nearer_20 ?_
      refine r_icgt X 31 dX7_nearer_22 (by decide) (fun c6 => ?_) (fun c6 => ?_)
      · replace h := it_t c6 h
        refine r_aload_n X 0 dX7_nearer_31 rfl rfl ?_
        refine r_bipush X (-6) dX7_nearer_32 rfl ?_
        obtain ⟨r8, M7, h9, h⟩ := bd2_ex h
        refine r_callV X (st := []) (av := [.int (-6 : Int32)]) (k := 34) (ci := 6) (k_X7_refuse l N _ hnc _ _ _ _ h9 d (by omega)) (fitR_s (Nat.le_of_ble_eq_true rfl)) ⟨Nat.le_refl 0, Nat.le_refl 0⟩ rfl (ltn hnc rfl) rfl w_689 w_47 w_688 w_18 w_686 hy_X7_refuse rfl (Nat.le_of_ble_eq_true rfl) dX7_nearer_34 ?_
        exact r_iretE X hr dX7_nearer_37 h
      · replace h := it_f c6 h
        refine r_iload_n X 2 dX7_nearer_25 rfl rfl ?_
        refine r_ldc X w_767 dX7_nearer_26 ?_
        refine r_icle X 38 dX7_nearer_28 (by decide) (fun c10 => ?_) (fun c10 => ?_)
        · replace h := it_t c10 h
          refine r_aload_n X 0 dX7_nearer_38 rfl rfl ?_
          obtain ⟨M11, h12, h⟩ := bd_ex h
          refine r_callV X (st := []) (av := []) (k := 34) (ci := 6) (k_X7_takes l N _ hnc _  _ h12 d (by omega)) (fitR_s (Nat.le_of_ble_eq_true rfl)) ⟨Nat.le_refl 0, Nat.le_refl 0⟩ rfl (ltn hnc rfl) rfl w_724 w_47 w_723 w_19 w_721 hy_X7_takes rfl (Nat.le_of_ble_eq_true rfl) dX7_nearer_39 ?_
          refine r_aload_n X 0 dX7_nearer_42 rfl rfl ?_
          refine r_iconst X 0 dX7_nearer_43 rfl ?_
          obtain ⟨r14, M13, h15, h⟩ := bd2_ex h
          refine r_callV X (st := []) (av := [.int (0 : Int32)]) (k := 34) (ci := 6) (k_X7_gapOf l N _ hnc _ _ _ _ h15 d (by omega)) (fitR_s (Nat.le_of_ble_eq_true rfl)) ⟨Nat.le_refl 0, Nat.le_refl 0⟩ rfl (ltn hnc rfl) rfl w_779 w_47 w_778 w_25 w_776 hy_X7_gapOf rfl (Nat.le_of_ble_eq_true rfl) dX7_nearer_44 ?_
          refine r_i2l X dX7_nearer_47 ?_
          refine r_iload_n X 1 dX7_nearer_48 rfl rfl ?_
          refine r_i2l X dX7_nearer_49 ?_
          refine r_lsub X dX7_nearer_50 ?_
          refine r_aload_n X 0 dX7_nearer_51 rfl rfl ?_
          refine r_iconst X 1 dX7_nearer_52 rfl ?_
          obtain ⟨r17, M16, h18, h⟩ := bd2_ex h
          refine r_callV X (st := [.long ((Int32.toInt64 r14) - (Int32.toInt64 p0))]) (av := [.int (1 : Int32)]) (k := 34) (ci := 6) (k_X7_gapOf l N _ hnc _ _ _ _ h18 d (by omega)) (fitR_s (Nat.le_of_ble_eq_true rfl)) ⟨Nat.le_refl 0, Nat.le_refl 0⟩ rfl (ltn hnc rfl) rfl w_779 w_47 w_778 w_25 w_776 hy_X7_gapOf rfl (Nat.le_of_ble_eq_true rfl) dX7_nearer_53 ?_
          refine r_i2l X dX7_nearer_56 ?_
          refine r_iload_n X 2 dX7_nearer_57 rfl rfl ?_
          refine r_i2l X dX7_nearer_58 ?_
          refine r_lsub X dX7_nearer_59 ?_
          obtain ⟨r20, M19, h21, h⟩ := bd2_ex h
          refine r_callS X (st := []) (av := [.long ((Int32.toInt64 r14) - (Int32.toInt64 p0)), .long ((Int32.toInt64 r17) - (Int32.toInt64 p1))]) (k_X7_signOf l N _ hnc _ _ _ _ _ h21 d (by omega)) (fitR_s (Nat.le_of_ble_eq_true rfl)) ⟨Nat.le_refl 0, Nat.le_refl 0⟩ w_770 w_47 w_769 w_768 hy_X7_signOf rfl (Nat.le_of_ble_eq_true rfl) dX7_nearer_60 ?_
          refine r_ifge X 70 dX7_nearer_63 (by decide) (fun c22 => ?_) (fun c22 => ?_)
          · replace h := it_t c22 h
            refine r_iconst X 0 dX7_nearer_70 rfl ?_
            exact r_iretE X hr dX7_nearer_71 h
          · replace h := it_f c22 h
            refine r_iconst X 1 dX7_nearer_66 rfl ?_
            refine r_goto X 71 dX7_nearer_67 (by decide) ?_
            exact r_iretE X hr dX7_nearer_71 h
        · replace h := it_f c10 h
          refine r_aload_n X 0 dX7_nearer_31 rfl rfl ?_
          refine r_bipush X (-6) dX7_nearer_32 rfl ?_
          obtain ⟨r24, M23, h25, h⟩ := bd2_ex h
          refine r_callV X (st := []) (av := [.int (-6 : Int32)]) (k := 34) (ci := 6) (k_X7_refuse l N _ hnc _ _ _ _ h25 d (by omega)) (fitR_s (Nat.le_of_ble_eq_true rfl)) ⟨Nat.le_refl 0, Nat.le_refl 0⟩ rfl (ltn hnc rfl) rfl w_689 w_47 w_688 w_18 w_686 hy_X7_refuse rfl (Nat.le_of_ble_eq_true rfl) dX7_nearer_34 ?_
          exact r_iretE X hr dX7_nearer_37 h
    · replace h := it_f c5 h
      refine r_aload_n X 0 dX7_nearer_12 rfl rfl ?_
      refine r_bipush X (-4) dX7_nearer_13 rfl ?_
      obtain ⟨r27, M26, h28, h⟩ := bd2_ex h
      refine r_callV X (st := []) (av := [.int (-4 : Int32)]) (k := 34) (ci := 6) (k_X7_refuse l N _ hnc _ _ _ _ h28 d (by omega)) (fitR_s (Nat.le_of_ble_eq_true rfl)) ⟨Nat.le_refl 0, Nat.le_refl 0⟩ rfl (ltn hnc rfl) rfl w_689 w_47 w_688 w_18 w_686 hy_X7_refuse rfl (Nat.le_of_ble_eq_true rfl) dX7_nearer_15 ?_
      exact r_iretE X hr dX7_nearer_18 h
def f_X6_table (N : Nat) (M : Mem) (p0 : Int32) (p1 : Int32) : Option (Int32 × Mem) :=
  if p0 < 0 then
    (bd2 (f_X6_refuseFar N M (-2 : Int32)) fun r3 M2 =>
    some (r3, M2))
  else
    (if p0 ≤ (3 : Int32) then
      (if (-400 : Int32) ≤ p1 then
        (if p1 ≤ (400 : Int32) then
          (bd2 (f_X6_at shp N M 5 p0) fun r9 M8 =>
          bd (f_X6_put shp N M8 5 p0 p1) fun M11 =>
          some (r9, M11))
        else
          (bd2 (f_X6_refuseFar N M (-6 : Int32)) fun r14 M13 =>
          some (r14, M13)))
      else
        (bd2 (f_X6_refuseFar N M (-4 : Int32)) fun r17 M16 =>
        some (r17, M16)))
    else
      (bd2 (f_X6_refuseFar N M (-2 : Int32)) fun r20 M19 =>
      some (r20, M19)))
set_option maxRecDepth 100000 in
set_option maxHeartbeats 4000000 in
theorem k_X6_table (l : Launch) (N : Nat) (nc : Nat) (hnc : 34 ≤ nc) (M : Mem) (p0 : Int32) (p1 : Int32) (r : Int32) (M' : Mem) (h : f_X6_table N M p0 p1 = some (r, M')) (d : Nat) (hd : 3 ≤ d) : Ct l d yX6_table cX6_table 4 (some .int) shp nc [.ref 0, .int p0, .int p1] M (some (.int r)) M' := by
  obtain ⟨d, rfl⟩ : ∃ q, d = q + 1 := ⟨d - 1, by omega⟩
  unfold f_X6_table at h
  refine Ct.of (by decide +kernel) (Nat.le_of_ble_eq_true rfl) ?_
  intro p e s m args below meth c A ad D cI cJ X hr
  refine r_sub (ls' := [(0, .ref 0), (1, .int p0), (2, .int p1)]) [0, 1, 2] rfl ?_
  refine r_iload_n X 1 dX6_table_0 rfl rfl ?_
  refine r_iflt X 9 dX6_table_1 (by decide) (fun c1 => ?_) (fun c1 => ?_)
  · replace h := it_t c1 h
    refine r_aload_n X 0 dX6_table_9 rfl rfl ?_
    refine r_bipush X (-2) dX6_table_10 rfl ?_
    obtain ⟨r3, M2, h4, h⟩ := bd2_ex h
    refine r_callV X (st := []) (av := [.int (-2 : Int32)]) (k := 0) (ci := 5) (k_X6_refuseFar l N _ hnc _ _ _ _ h4 d (by omega)) (fitR_s (Nat.le_of_ble_eq_true rfl)) ⟨Nat.le_refl 0, Nat.le_refl 0⟩ rfl (ltn hnc rfl) rfl w_330 w_39 w_329 w_3 w_327 hy_X6_refuseFar rfl (Nat.le_of_ble_eq_true rfl) dX6_table_12 ?_
    exact r_iretE X hr dX6_table_15 h
  · replace h := it_f c1 h
    refine r_iload_n X 1 dX6_table_4 rfl rfl ?_
    refine r_iconst X 3 dX6_table_5 rfl ?_
    refine r_icle X 16 dX6_table_6 (by decide) (fun c5 => ?_) (fun c5 => ?_)
    · replace h := it_t c5 h
      refine r_iload_n X 2 dX6_table_16 rfl rfl ?_
      refine r_sipush X (-400) dX6_table_17 rfl ?_
      refine r_icge X 30 dX6_table_20 (by decide) (fun c6 => ?_) (fun c6 => ?_)
      · replace h := it_t c6 h
        refine r_iload_n X 2 dX6_table_30 rfl rfl ?_
        refine r_sipush X 400 dX6_table_31 rfl ?_
        refine r_icle X 44 dX6_table_34 (by decide) (fun c7 => ?_) (fun c7 => ?_)
        · replace h := it_t c7 h
          refine r_aload_n X 0 dX6_table_44 rfl rfl ?_
          refine r_getr X 0 1 in_X6 (ci := 5) rfl rfl (ltn hnc rfl) (Nat.le_of_ble_eq_true rfl) rfl w_240 dX6_table_45 (by decide) ?_
          refine r_getr X 4 5 in_X0 (ci := 0) rfl rfl (ltn hnc rfl) (Nat.le_of_ble_eq_true rfl) rfl w_84 dX6_table_48 (by decide) ?_
          refine r_iload_n X 1 dX6_table_51 rfl rfl ?_
          obtain ⟨r9, M8, h10, h⟩ := bd2_ex h
          refine r_callS X (st := []) (av := [.ref 5, .int p0]) (k_X6_at l N _ _ _ _ _ (Or.inl (ltn hnc rfl)) _ _ h10 d (by omega)) (fitR_s (Nat.le_of_ble_eq_true rfl)) ⟨Nat.le_refl 0, Nat.le_refl 0⟩ w_71 w_39 w_70 w_69 hy_X6_at rfl (Nat.le_of_ble_eq_true rfl) dX6_table_52 ?_
          refine r_istore_n X [(3, .int r9), (0, .ref 0), (1, .int p0), (2, .int p1)] dX6_table_55 rfl (Nat.le_of_ble_eq_true rfl) rfl ?_
          refine r_aload_n X 1 dX6_table_56 rfl rfl ?_
          refine r_getr X 0 1 in_X6 (ci := 5) rfl rfl (ltn hnc rfl) (Nat.le_of_ble_eq_true rfl) rfl w_240 dX6_table_57 (by decide) ?_
          refine r_getr X 4 5 in_X0 (ci := 0) rfl rfl (ltn hnc rfl) (Nat.le_of_ble_eq_true rfl) rfl w_84 dX6_table_60 (by decide) ?_
          refine r_iload_n X 2 dX6_table_63 rfl rfl ?_
          refine r_iload_n X 3 dX6_table_64 rfl rfl ?_
          obtain ⟨M11, h12, h⟩ := bd_ex h
          refine r_callS X (st := []) (av := [.ref 5, .int p0, .int p1]) (k_X6_put l N _ _ _ _ _ _ (Or.inl (ltn hnc rfl)) _ h12 d (by omega)) (fitR_s (Nat.le_of_ble_eq_true rfl)) ⟨Nat.le_refl 0, Nat.le_refl 0⟩ w_287 w_39 w_286 w_285 hy_X6_put rfl (Nat.le_of_ble_eq_true rfl) dX6_table_65 ?_
          refine r_iload_n X 0 dX6_table_68 rfl rfl ?_
          exact r_iretE X hr dX6_table_69 h
        · replace h := it_f c7 h
          refine r_aload_n X 0 dX6_table_37 rfl rfl ?_
          refine r_bipush X (-6) dX6_table_38 rfl ?_
          obtain ⟨r14, M13, h15, h⟩ := bd2_ex h
          refine r_callV X (st := []) (av := [.int (-6 : Int32)]) (k := 0) (ci := 5) (k_X6_refuseFar l N _ hnc _ _ _ _ h15 d (by omega)) (fitR_s (Nat.le_of_ble_eq_true rfl)) ⟨Nat.le_refl 0, Nat.le_refl 0⟩ rfl (ltn hnc rfl) rfl w_330 w_39 w_329 w_3 w_327 hy_X6_refuseFar rfl (Nat.le_of_ble_eq_true rfl) dX6_table_40 ?_
          exact r_iretE X hr dX6_table_43 h
      · replace h := it_f c6 h
        refine r_aload_n X 0 dX6_table_23 rfl rfl ?_
        refine r_bipush X (-4) dX6_table_24 rfl ?_
        obtain ⟨r17, M16, h18, h⟩ := bd2_ex h
        refine r_callV X (st := []) (av := [.int (-4 : Int32)]) (k := 0) (ci := 5) (k_X6_refuseFar l N _ hnc _ _ _ _ h18 d (by omega)) (fitR_s (Nat.le_of_ble_eq_true rfl)) ⟨Nat.le_refl 0, Nat.le_refl 0⟩ rfl (ltn hnc rfl) rfl w_330 w_39 w_329 w_3 w_327 hy_X6_refuseFar rfl (Nat.le_of_ble_eq_true rfl) dX6_table_26 ?_
        exact r_iretE X hr dX6_table_29 h
    · replace h := it_f c5 h
      refine r_aload_n X 0 dX6_table_9 rfl rfl ?_
      refine r_bipush X (-2) dX6_table_10 rfl ?_
      obtain ⟨r20, M19, h21, h⟩ := bd2_ex h
      refine r_callV X (st := []) (av := [.int (-2 : Int32)]) (k := 0) (ci := 5) (k_X6_refuseFar l N _ hnc _ _ _ _ h21 d (by omega)) (fitR_s (Nat.le_of_ble_eq_true rfl)) ⟨Nat.le_refl 0, Nat.le_refl 0⟩ rfl (ltn hnc rfl) rfl w_330 w_39 w_329 w_3 w_327 hy_X6_refuseFar rfl (Nat.le_of_ble_eq_true rfl) dX6_table_12 ?_
      exact r_iretE X hr dX6_table_15 h
def f_X7_table (N : Nat) (M : Mem) (p0 : Int32) (p1 : Int32) : Option (Int32 × Mem) :=
  bd2 (f_X7_isIn N M p0 (4 : Int32)) fun r2 M1 =>
  if r2 = 0 then
    (bd2 (f_X7_refuse N M1 (-2 : Int32)) fun r17 M16 =>
    some ((1000000000 : Int32) - r17, M16))
  else
    (bd2 (f_X7_within N M1 p1 (-400 : Int32) (400 : Int32)) fun r6 M5 =>
    if r6 = 0 then
      (ck (inb ((14 : Int32) + p0) 56) <|
      nm (M5.1 36 (ix ((14 : Int32) + p0))) fun x10 =>
      ck (inb ((14 : Int32) + p0) 56) <|
      nm (seI M5 36 (ix ((14 : Int32) + p0)) p1) fun M12 =>
      some (x10, M12))
    else
      (bd2 (f_X7_refuse N M5 r6) fun r14 M13 =>
      some ((1000000000 : Int32) - r14, M13)))
set_option maxRecDepth 100000 in
set_option maxHeartbeats 4000000 in
theorem k_X7_table (l : Launch) (N : Nat) (nc : Nat) (hnc : 45 ≤ nc) (M : Mem) (p0 : Int32) (p1 : Int32) (r : Int32) (M' : Mem) (h : f_X7_table N M p0 p1 = some (r, M')) (d : Nat) (hd : 1 ≤ d) : Ct l d yX7_table cX7_table 5 (some .int) shp nc [.ref 34, .int p0, .int p1] M (some (.int r)) M' := by
  obtain ⟨d, rfl⟩ : ∃ q, d = q + 1 := ⟨d - 1, by omega⟩
  unfold f_X7_table at h
  refine Ct.of (by decide +kernel) (Nat.le_of_ble_eq_true rfl) ?_
  intro p e s m args below meth c A ad D cI cJ X hr
  refine r_sub (ls' := [(0, .ref 34), (1, .int p0), (2, .int p1)]) [0, 1, 2] rfl ?_
  refine r_iload_n X 1 dX7_table_0 rfl rfl ?_
  refine r_iconst X 4 dX7_table_1 rfl ?_
  obtain ⟨r2, M1, h3, h⟩ := bd2_ex h
  refine r_callS X (st := []) (av := [.int p0, .int (4 : Int32)]) (k_X7_isIn l N _ hnc _ _ _ _ _ h3 d (by omega)) (fitR_s (Nat.le_of_ble_eq_true rfl)) ⟨Nat.le_refl 0, Nat.le_refl 0⟩ w_704 w_47 w_703 w_702 hy_X7_isIn rfl (Nat.le_of_ble_eq_true rfl) dX7_table_2 ?_
  refine r_ifne X 18 dX7_table_5 (by decide) (fun c4 => ?_) (fun c4 => ?_)
  · replace h := it_f c4 h
    refine r_iload_n X 2 dX7_table_18 rfl rfl ?_
    refine r_sipush X (-400) dX7_table_19 rfl ?_
    refine r_sipush X 400 dX7_table_22 rfl ?_
    obtain ⟨r6, M5, h7, h⟩ := bd2_ex h
    refine r_callS X (st := []) (av := [.int p1, .int (-400 : Int32), .int (400 : Int32)]) (k_X7_within l N _ hnc _ _ _ _ _ _ h7 d (by omega)) (fitR_s (Nat.le_of_ble_eq_true rfl)) ⟨Nat.le_refl 0, Nat.le_refl 0⟩ w_707 w_47 w_706 w_705 hy_X7_within rfl (Nat.le_of_ble_eq_true rfl) dX7_table_25 ?_
    refine r_istore_n X [(3, .int r6), (0, .ref 34), (1, .int p0), (2, .int p1)] dX7_table_28 rfl (Nat.le_of_ble_eq_true rfl) rfl ?_
    refine r_iload_n X 0 dX7_table_29 rfl rfl ?_
    refine r_ifeq X 42 dX7_table_30 (by decide) (fun c8 => ?_) (fun c8 => ?_)
    · replace h := it_t c8 h
      refine r_aload_n X 1 dX7_table_42 rfl rfl ?_
      refine r_getr X 1 36 in_X7 (ci := 6) rfl rfl (ltn hnc rfl) (Nat.le_of_ble_eq_true rfl) rfl w_610 dX7_table_43 (by decide) ?_
      refine r_bipush X 14 dX7_table_46 rfl ?_
      refine r_iload_n X 2 dX7_table_48 rfl rfl ?_
      refine r_iadd X dX7_table_49 ?_
      obtain ⟨c9, h⟩ := ck_ex h
      refine r_iald X (n := 56) rfl (Or.inl (ltn hnc rfl)) c9 dX7_table_50 ?_
      obtain ⟨x10, ex10, h⟩ := nm_ex h
      refine r_top ex10 ?_
      refine r_istore X [(4, .int x10), (3, .int r6), (0, .ref 34), (1, .int p0), (2, .int p1)] dX7_table_51 (Nat.le_of_ble_eq_true rfl) rfl ?_
      refine r_aload_n X 2 dX7_table_53 rfl rfl ?_
      refine r_getr X 1 36 in_X7 (ci := 6) rfl rfl (ltn hnc rfl) (Nat.le_of_ble_eq_true rfl) rfl w_610 dX7_table_54 (by decide) ?_
      refine r_bipush X 14 dX7_table_57 rfl ?_
      refine r_iload_n X 3 dX7_table_59 rfl rfl ?_
      refine r_iadd X dX7_table_60 ?_
      refine r_iload_n X 4 dX7_table_61 rfl rfl ?_
      obtain ⟨c11, h⟩ := ck_ex h
      obtain ⟨M12, eM12, h⟩ := nm_ex h
      refine r_iast X (n := 56) rfl (ltn hnc rfl) c11 dX7_table_62 ?_
      refine r_mem eM12 ?_
      refine r_iload X 0 dX7_table_63 rfl ?_
      exact r_iretE X hr dX7_table_65 h
    · replace h := it_f c8 h
      refine r_ldc X w_720 dX7_table_33 ?_
      refine r_aload_n X 1 dX7_table_35 rfl rfl ?_
      refine r_iload_n X 0 dX7_table_36 rfl rfl ?_
      obtain ⟨r14, M13, h15, h⟩ := bd2_ex h
      refine r_callV X (st := [.int (1000000000 : Int32)]) (av := [.int r6]) (k := 34) (ci := 6) (k_X7_refuse l N _ hnc _ _ _ _ h15 d (by omega)) (fitR_s (Nat.le_of_ble_eq_true rfl)) ⟨Nat.le_refl 0, Nat.le_refl 0⟩ rfl (ltn hnc rfl) rfl w_689 w_47 w_688 w_18 w_686 hy_X7_refuse rfl (Nat.le_of_ble_eq_true rfl) dX7_table_37 ?_
      refine r_isub X dX7_table_40 ?_
      exact r_iretE X hr dX7_table_41 h
  · replace h := it_t c4 h
    refine r_ldc X w_720 dX7_table_8 ?_
    refine r_aload_n X 0 dX7_table_10 rfl rfl ?_
    refine r_bipush X (-2) dX7_table_11 rfl ?_
    obtain ⟨r17, M16, h18, h⟩ := bd2_ex h
    refine r_callV X (st := [.int (1000000000 : Int32)]) (av := [.int (-2 : Int32)]) (k := 34) (ci := 6) (k_X7_refuse l N _ hnc _ _ _ _ h18 d (by omega)) (fitR_s (Nat.le_of_ble_eq_true rfl)) ⟨Nat.le_refl 0, Nat.le_refl 0⟩ rfl (ltn hnc rfl) rfl w_689 w_47 w_688 w_18 w_686 hy_X7_refuse rfl (Nat.le_of_ble_eq_true rfl) dX7_table_13 ?_
    refine r_isub X dX7_table_16 ?_
    exact r_iretE X hr dX7_table_17 h
def f_X6_leg (N : Nat) (M : Mem) (p0 : Int32) (p1 : Int32) : Option (Int32 × Mem) :=
  if p0 < (-400 : Int32) then
    (bd2 (f_X6_refuse N M (-4 : Int32)) fun r3 M2 =>
    some (r3, M2))
  else
    (if (-400 : Int32) ≤ p1 then
      (if (400 : Int32) < p0 then
        (bd2 (f_X6_refuse N M (-6 : Int32)) fun r8 M7 =>
        some (r8, M7))
      else
        (if (400 : Int32) < p1 then
          (bd2 (f_X6_refuse N M (-6 : Int32)) fun r12 M11 =>
          some (r12, M11))
        else
          (if (M.1 1 7) < (6 : Int32) then
            (bd (f_X6_put shp N M 6 (M.1 1 7) p0) fun M15 =>
            bd (f_X6_put shp N M15 7 (M15.1 1 7) p1) fun M17 =>
            nm (seI M17 1 7 ((M17.1 1 7) + (1 : Int32))) fun M19 =>
            some (M19.1 1 7, M19))
          else
            (bd2 (f_X6_refuse N M (-6 : Int32)) fun r21 M20 =>
            some (r21, M20)))))
    else
      (bd2 (f_X6_refuse N M (-4 : Int32)) fun r24 M23 =>
      some (r24, M23)))
set_option maxRecDepth 100000 in
set_option maxHeartbeats 4000000 in
theorem k_X6_leg (l : Launch) (N : Nat) (nc : Nat) (hnc : 34 ≤ nc) (M : Mem) (p0 : Int32) (p1 : Int32) (r : Int32) (M' : Mem) (h : f_X6_leg N M p0 p1 = some (r, M')) (d : Nat) (hd : 2 ≤ d) : Ct l d yX6_leg cX6_leg 3 (some .int) shp nc [.ref 0, .int p0, .int p1] M (some (.int r)) M' := by
  obtain ⟨d, rfl⟩ : ∃ q, d = q + 1 := ⟨d - 1, by omega⟩
  unfold f_X6_leg at h
  refine Ct.of (by decide +kernel) (Nat.le_of_ble_eq_true rfl) ?_
  intro p e s m args below meth c A ad D cI cJ X hr
  refine r_sub (ls' := [(0, .ref 0), (1, .int p0), (2, .int p1)]) [0, 1, 2] rfl ?_
  refine r_iload_n X 1 dX6_leg_0 rfl rfl ?_
  refine r_sipush X (-400) dX6_leg_1 rfl ?_
  refine r_iclt X 14 dX6_leg_4 (by decide) (fun c1 => ?_) (fun c1 => ?_)
  · replace h := it_t c1 h
    refine r_aload_n X 0 dX6_leg_14 rfl rfl ?_
    refine r_bipush X (-4) dX6_leg_15 rfl ?_
    obtain ⟨r3, M2, h4, h⟩ := bd2_ex h
    refine r_callV X (st := []) (av := [.int (-4 : Int32)]) (k := 0) (ci := 5) (k_X6_refuse l N _ hnc _ _ _ _ h4 d (by omega)) (fitR_s (Nat.le_of_ble_eq_true rfl)) ⟨Nat.le_refl 0, Nat.le_refl 0⟩ rfl (ltn hnc rfl) rfl w_284 w_39 w_283 w_1 w_281 hy_X6_refuse rfl (Nat.le_of_ble_eq_true rfl) dX6_leg_17 ?_
    exact r_iretE X hr dX6_leg_20 h
  · replace h := it_f c1 h
    refine r_iload_n X 2 dX6_leg_7 rfl rfl ?_
    refine r_sipush X (-400) dX6_leg_8 rfl ?_
    refine r_icge X 21 dX6_leg_11 (by decide) (fun c5 => ?_) (fun c5 => ?_)
    · replace h := it_t c5 h
      refine r_iload_n X 1 dX6_leg_21 rfl rfl ?_
      refine r_sipush X 400 dX6_leg_22 rfl ?_
      refine r_icgt X 47 dX6_leg_25 (by decide) (fun c6 => ?_) (fun c6 => ?_)
      · replace h := it_t c6 h
        refine r_aload_n X 0 dX6_leg_47 rfl rfl ?_
        refine r_bipush X (-6) dX6_leg_48 rfl ?_
        obtain ⟨r8, M7, h9, h⟩ := bd2_ex h
        refine r_callV X (st := []) (av := [.int (-6 : Int32)]) (k := 0) (ci := 5) (k_X6_refuse l N _ hnc _ _ _ _ h9 d (by omega)) (fitR_s (Nat.le_of_ble_eq_true rfl)) ⟨Nat.le_refl 0, Nat.le_refl 0⟩ rfl (ltn hnc rfl) rfl w_284 w_39 w_283 w_1 w_281 hy_X6_refuse rfl (Nat.le_of_ble_eq_true rfl) dX6_leg_50 ?_
        exact r_iretE X hr dX6_leg_53 h
      · replace h := it_f c6 h
        refine r_iload_n X 2 dX6_leg_28 rfl rfl ?_
        refine r_sipush X 400 dX6_leg_29 rfl ?_
        refine r_icgt X 47 dX6_leg_32 (by decide) (fun c10 => ?_) (fun c10 => ?_)
        · replace h := it_t c10 h
          refine r_aload_n X 0 dX6_leg_47 rfl rfl ?_
          refine r_bipush X (-6) dX6_leg_48 rfl ?_
          obtain ⟨r12, M11, h13, h⟩ := bd2_ex h
          refine r_callV X (st := []) (av := [.int (-6 : Int32)]) (k := 0) (ci := 5) (k_X6_refuse l N _ hnc _ _ _ _ h13 d (by omega)) (fitR_s (Nat.le_of_ble_eq_true rfl)) ⟨Nat.le_refl 0, Nat.le_refl 0⟩ rfl (ltn hnc rfl) rfl w_284 w_39 w_283 w_1 w_281 hy_X6_refuse rfl (Nat.le_of_ble_eq_true rfl) dX6_leg_50 ?_
          exact r_iretE X hr dX6_leg_53 h
        · replace h := it_f c10 h
          refine r_aload_n X 0 dX6_leg_35 rfl rfl ?_
          refine r_getr X 0 1 in_X6 (ci := 5) rfl rfl (ltn hnc rfl) (Nat.le_of_ble_eq_true rfl) rfl w_240 dX6_leg_36 (by decide) ?_
          refine r_geti X 7 in_X0 (ci := 0) rfl rfl (ltn hnc rfl) (Nat.le_of_ble_eq_true rfl) rfl w_90 dX6_leg_39 ?_
          refine r_bipush X 6 dX6_leg_42 rfl ?_
          refine r_iclt X 54 dX6_leg_44 (by decide) (fun c14 => ?_) (fun c14 => ?_)
          · replace h := it_t c14 h
            refine r_aload_n X 0 dX6_leg_54 rfl rfl ?_
            refine r_getr X 0 1 in_X6 (ci := 5) rfl rfl (ltn hnc rfl) (Nat.le_of_ble_eq_true rfl) rfl w_240 dX6_leg_55 (by decide) ?_
            refine r_getr X 5 6 in_X0 (ci := 0) rfl rfl (ltn hnc rfl) (Nat.le_of_ble_eq_true rfl) rfl w_86 dX6_leg_58 (by decide) ?_
            refine r_aload_n X 0 dX6_leg_61 rfl rfl ?_
            refine r_getr X 0 1 in_X6 (ci := 5) rfl rfl (ltn hnc rfl) (Nat.le_of_ble_eq_true rfl) rfl w_240 dX6_leg_62 (by decide) ?_
            refine r_geti X 7 in_X0 (ci := 0) rfl rfl (ltn hnc rfl) (Nat.le_of_ble_eq_true rfl) rfl w_90 dX6_leg_65 ?_
            refine r_iload_n X 1 dX6_leg_68 rfl rfl ?_
            obtain ⟨M15, h16, h⟩ := bd_ex h
            refine r_callS X (st := []) (av := [.ref 6, .int (M.1 1 7), .int p0]) (k_X6_put l N _ _ _ _ _ _ (Or.inl (ltn hnc rfl)) _ h16 d (by omega)) (fitR_s (Nat.le_of_ble_eq_true rfl)) ⟨Nat.le_refl 0, Nat.le_refl 0⟩ w_287 w_39 w_286 w_285 hy_X6_put rfl (Nat.le_of_ble_eq_true rfl) dX6_leg_69 ?_
            refine r_aload_n X 0 dX6_leg_72 rfl rfl ?_
            refine r_getr X 0 1 in_X6 (ci := 5) rfl rfl (ltn hnc rfl) (Nat.le_of_ble_eq_true rfl) rfl w_240 dX6_leg_73 (by decide) ?_
            refine r_getr X 6 7 in_X0 (ci := 0) rfl rfl (ltn hnc rfl) (Nat.le_of_ble_eq_true rfl) rfl w_88 dX6_leg_76 (by decide) ?_
            refine r_aload_n X 0 dX6_leg_79 rfl rfl ?_
            refine r_getr X 0 1 in_X6 (ci := 5) rfl rfl (ltn hnc rfl) (Nat.le_of_ble_eq_true rfl) rfl w_240 dX6_leg_80 (by decide) ?_
            refine r_geti X 7 in_X0 (ci := 0) rfl rfl (ltn hnc rfl) (Nat.le_of_ble_eq_true rfl) rfl w_90 dX6_leg_83 ?_
            refine r_iload_n X 2 dX6_leg_86 rfl rfl ?_
            obtain ⟨M17, h18, h⟩ := bd_ex h
            refine r_callS X (st := []) (av := [.ref 7, .int (M15.1 1 7), .int p1]) (k_X6_put l N _ _ _ _ _ _ (Or.inl (ltn hnc rfl)) _ h18 d (by omega)) (fitR_s (Nat.le_of_ble_eq_true rfl)) ⟨Nat.le_refl 0, Nat.le_refl 0⟩ w_287 w_39 w_286 w_285 hy_X6_put rfl (Nat.le_of_ble_eq_true rfl) dX6_leg_87 ?_
            refine r_aload_n X 0 dX6_leg_90 rfl rfl ?_
            refine r_getr X 0 1 in_X6 (ci := 5) rfl rfl (ltn hnc rfl) (Nat.le_of_ble_eq_true rfl) rfl w_240 dX6_leg_91 (by decide) ?_
            refine r_dup X dX6_leg_94 rfl ?_
            refine r_geti X 7 in_X0 (ci := 0) rfl rfl (ltn hnc rfl) (Nat.le_of_ble_eq_true rfl) rfl w_90 dX6_leg_95 ?_
            refine r_iconst X 1 dX6_leg_98 rfl ?_
            refine r_iadd X dX6_leg_99 ?_
            obtain ⟨M19, eM19, h⟩ := nm_ex h
            refine r_puti X 7 in_X0 (ci := 0) rfl tyX0_ok nmX0 rfl (ltn hnc rfl) (Nat.le_of_ble_eq_true rfl) rfl w_90 rfl (ty := .int) rfl rfl rfl dX6_leg_100 ?_
            refine r_mem eM19 ?_
            refine r_aload_n X 0 dX6_leg_103 rfl rfl ?_
            refine r_getr X 0 1 in_X6 (ci := 5) rfl rfl (ltn hnc rfl) (Nat.le_of_ble_eq_true rfl) rfl w_240 dX6_leg_104 (by decide) ?_
            refine r_geti X 7 in_X0 (ci := 0) rfl rfl (ltn hnc rfl) (Nat.le_of_ble_eq_true rfl) rfl w_90 dX6_leg_107 ?_
            exact r_iretE X hr dX6_leg_110 h
          · replace h := it_f c14 h
            refine r_aload_n X 0 dX6_leg_47 rfl rfl ?_
            refine r_bipush X (-6) dX6_leg_48 rfl ?_
            obtain ⟨r21, M20, h22, h⟩ := bd2_ex h
            refine r_callV X (st := []) (av := [.int (-6 : Int32)]) (k := 0) (ci := 5) (k_X6_refuse l N _ hnc _ _ _ _ h22 d (by omega)) (fitR_s (Nat.le_of_ble_eq_true rfl)) ⟨Nat.le_refl 0, Nat.le_refl 0⟩ rfl (ltn hnc rfl) rfl w_284 w_39 w_283 w_1 w_281 hy_X6_refuse rfl (Nat.le_of_ble_eq_true rfl) dX6_leg_50 ?_
            exact r_iretE X hr dX6_leg_53 h
    · replace h := it_f c5 h
      refine r_aload_n X 0 dX6_leg_14 rfl rfl ?_
      refine r_bipush X (-4) dX6_leg_15 rfl ?_
      obtain ⟨r24, M23, h25, h⟩ := bd2_ex h
      refine r_callV X (st := []) (av := [.int (-4 : Int32)]) (k := 0) (ci := 5) (k_X6_refuse l N _ hnc _ _ _ _ h25 d (by omega)) (fitR_s (Nat.le_of_ble_eq_true rfl)) ⟨Nat.le_refl 0, Nat.le_refl 0⟩ rfl (ltn hnc rfl) rfl w_284 w_39 w_283 w_1 w_281 hy_X6_refuse rfl (Nat.le_of_ble_eq_true rfl) dX6_leg_17 ?_
      exact r_iretE X hr dX6_leg_20 h
def f_X7_leg (N : Nat) (M : Mem) (p0 : Int32) (p1 : Int32) : Option (Int32 × Mem) :=
  if p0 < (-400 : Int32) then
    (bd2 (f_X7_refuse N M (-4 : Int32)) fun r3 M2 =>
    some (r3, M2))
  else
    (if (-400 : Int32) ≤ p1 then
      (if (400 : Int32) < p0 then
        (bd2 (f_X7_refuse N M (-6 : Int32)) fun r8 M7 =>
        some (r8, M7))
      else
        (if (400 : Int32) < p1 then
          (bd2 (f_X7_refuse N M (-6 : Int32)) fun r12 M11 =>
          some (r12, M11))
        else
          (if (M.1 36 (ix (30 : Int32))) = (6 : Int32) then
            (bd2 (f_X7_refuse N M (-6 : Int32)) fun r21 M20 =>
            some (r21, M20))
          else
            (ck (inb ((18 : Int32) + ((2 : Int32) * (M.1 36 (ix (30 : Int32))))) 56) <|
            nm (seI M 36 (ix ((18 : Int32) + ((2 : Int32) * (M.1 36 (ix (30 : Int32)))))) p0) fun M16 =>
            ck (inb (((18 : Int32) + ((2 : Int32) * (M16.1 36 (ix (30 : Int32))))) + (1 : Int32)) 56) <|
            nm (seI M16 36 (ix (((18 : Int32) + ((2 : Int32) * (M16.1 36 (ix (30 : Int32))))) + (1 : Int32))) p1) fun M18 =>
            nm (seI M18 36 (ix (30 : Int32)) ((M18.1 36 (ix (30 : Int32))) + (1 : Int32))) fun M19 =>
            some (M19.1 36 (ix (30 : Int32)), M19)))))
    else
      (bd2 (f_X7_refuse N M (-4 : Int32)) fun r24 M23 =>
      some (r24, M23)))
set_option maxRecDepth 100000 in
set_option maxHeartbeats 4000000 in
theorem k_X7_leg (l : Launch) (N : Nat) (nc : Nat) (hnc : 45 ≤ nc) (M : Mem) (p0 : Int32) (p1 : Int32) (r : Int32) (M' : Mem) (h : f_X7_leg N M p0 p1 = some (r, M')) (d : Nat) (hd : 1 ≤ d) : Ct l d yX7_leg cX7_leg 3 (some .int) shp nc [.ref 34, .int p0, .int p1] M (some (.int r)) M' := by
  obtain ⟨d, rfl⟩ : ∃ q, d = q + 1 := ⟨d - 1, by omega⟩
  unfold f_X7_leg at h
  refine Ct.of (by decide +kernel) (Nat.le_of_ble_eq_true rfl) ?_
  intro p e s m args below meth c A ad D cI cJ X hr
  refine r_sub (ls' := [(0, .ref 34), (1, .int p0), (2, .int p1)]) [0, 1, 2] rfl ?_
  refine r_iload_n X 1 dX7_leg_0 rfl rfl ?_
  refine r_sipush X (-400) dX7_leg_1 rfl ?_
  refine r_iclt X 14 dX7_leg_4 (by decide) (fun c1 => ?_) (fun c1 => ?_)
  · replace h := it_t c1 h
    refine r_aload_n X 0 dX7_leg_14 rfl rfl ?_
    refine r_bipush X (-4) dX7_leg_15 rfl ?_
    obtain ⟨r3, M2, h4, h⟩ := bd2_ex h
    refine r_callV X (st := []) (av := [.int (-4 : Int32)]) (k := 34) (ci := 6) (k_X7_refuse l N _ hnc _ _ _ _ h4 d (by omega)) (fitR_s (Nat.le_of_ble_eq_true rfl)) ⟨Nat.le_refl 0, Nat.le_refl 0⟩ rfl (ltn hnc rfl) rfl w_689 w_47 w_688 w_18 w_686 hy_X7_refuse rfl (Nat.le_of_ble_eq_true rfl) dX7_leg_17 ?_
    exact r_iretE X hr dX7_leg_20 h
  · replace h := it_f c1 h
    refine r_iload_n X 2 dX7_leg_7 rfl rfl ?_
    refine r_sipush X (-400) dX7_leg_8 rfl ?_
    refine r_icge X 21 dX7_leg_11 (by decide) (fun c5 => ?_) (fun c5 => ?_)
    · replace h := it_t c5 h
      refine r_iload_n X 1 dX7_leg_21 rfl rfl ?_
      refine r_sipush X 400 dX7_leg_22 rfl ?_
      refine r_icgt X 47 dX7_leg_25 (by decide) (fun c6 => ?_) (fun c6 => ?_)
      · replace h := it_t c6 h
        refine r_aload_n X 0 dX7_leg_47 rfl rfl ?_
        refine r_bipush X (-6) dX7_leg_48 rfl ?_
        obtain ⟨r8, M7, h9, h⟩ := bd2_ex h
        refine r_callV X (st := []) (av := [.int (-6 : Int32)]) (k := 34) (ci := 6) (k_X7_refuse l N _ hnc _ _ _ _ h9 d (by omega)) (fitR_s (Nat.le_of_ble_eq_true rfl)) ⟨Nat.le_refl 0, Nat.le_refl 0⟩ rfl (ltn hnc rfl) rfl w_689 w_47 w_688 w_18 w_686 hy_X7_refuse rfl (Nat.le_of_ble_eq_true rfl) dX7_leg_50 ?_
        exact r_iretE X hr dX7_leg_53 h
      · replace h := it_f c6 h
        refine r_iload_n X 2 dX7_leg_28 rfl rfl ?_
        refine r_sipush X 400 dX7_leg_29 rfl ?_
        refine r_icgt X 47 dX7_leg_32 (by decide) (fun c10 => ?_) (fun c10 => ?_)
        · replace h := it_t c10 h
          refine r_aload_n X 0 dX7_leg_47 rfl rfl ?_
          refine r_bipush X (-6) dX7_leg_48 rfl ?_
          obtain ⟨r12, M11, h13, h⟩ := bd2_ex h
          refine r_callV X (st := []) (av := [.int (-6 : Int32)]) (k := 34) (ci := 6) (k_X7_refuse l N _ hnc _ _ _ _ h13 d (by omega)) (fitR_s (Nat.le_of_ble_eq_true rfl)) ⟨Nat.le_refl 0, Nat.le_refl 0⟩ rfl (ltn hnc rfl) rfl w_689 w_47 w_688 w_18 w_686 hy_X7_refuse rfl (Nat.le_of_ble_eq_true rfl) dX7_leg_50 ?_
          exact r_iretE X hr dX7_leg_53 h
        · replace h := it_f c10 h
          refine r_aload_n X 0 dX7_leg_35 rfl rfl ?_
          refine r_getr X 1 36 in_X7 (ci := 6) rfl rfl (ltn hnc rfl) (Nat.le_of_ble_eq_true rfl) rfl w_610 dX7_leg_36 (by decide) ?_
          refine r_bipush X 30 dX7_leg_39 rfl ?_
          refine r_iald X (n := 56) rfl (Or.inl (ltn hnc rfl)) (by decide) dX7_leg_41 ?_
          refine r_bipush X 6 dX7_leg_42 rfl ?_
          refine r_icne X 54 dX7_leg_44 (by decide) (fun c14 => ?_) (fun c14 => ?_)
          · replace h := it_f c14 h
            refine r_aload_n X 0 dX7_leg_54 rfl rfl ?_
            refine r_getr X 1 36 in_X7 (ci := 6) rfl rfl (ltn hnc rfl) (Nat.le_of_ble_eq_true rfl) rfl w_610 dX7_leg_55 (by decide) ?_
            refine r_bipush X 18 dX7_leg_58 rfl ?_
            refine r_iconst X 2 dX7_leg_60 rfl ?_
            refine r_aload_n X 0 dX7_leg_61 rfl rfl ?_
            refine r_getr X 1 36 in_X7 (ci := 6) rfl rfl (ltn hnc rfl) (Nat.le_of_ble_eq_true rfl) rfl w_610 dX7_leg_62 (by decide) ?_
            refine r_bipush X 30 dX7_leg_65 rfl ?_
            refine r_iald X (n := 56) rfl (Or.inl (ltn hnc rfl)) (by decide) dX7_leg_67 ?_
            refine r_imul X dX7_leg_68 ?_
            refine r_iadd X dX7_leg_69 ?_
            refine r_iload_n X 1 dX7_leg_70 rfl rfl ?_
            obtain ⟨c15, h⟩ := ck_ex h
            obtain ⟨M16, eM16, h⟩ := nm_ex h
            refine r_iast X (n := 56) rfl (ltn hnc rfl) c15 dX7_leg_71 ?_
            refine r_mem eM16 ?_
            refine r_aload_n X 0 dX7_leg_72 rfl rfl ?_
            refine r_getr X 1 36 in_X7 (ci := 6) rfl rfl (ltn hnc rfl) (Nat.le_of_ble_eq_true rfl) rfl w_610 dX7_leg_73 (by decide) ?_
            refine r_bipush X 18 dX7_leg_76 rfl ?_
            refine r_iconst X 2 dX7_leg_78 rfl ?_
            refine r_aload_n X 0 dX7_leg_79 rfl rfl ?_
            refine r_getr X 1 36 in_X7 (ci := 6) rfl rfl (ltn hnc rfl) (Nat.le_of_ble_eq_true rfl) rfl w_610 dX7_leg_80 (by decide) ?_
            refine r_bipush X 30 dX7_leg_83 rfl ?_
            refine r_iald X (n := 56) rfl (Or.inl (ltn hnc rfl)) (by decide) dX7_leg_85 ?_
            refine r_imul X dX7_leg_86 ?_
            refine r_iadd X dX7_leg_87 ?_
            refine r_iconst X 1 dX7_leg_88 rfl ?_
            refine r_iadd X dX7_leg_89 ?_
            refine r_iload_n X 2 dX7_leg_90 rfl rfl ?_
            obtain ⟨c17, h⟩ := ck_ex h
            obtain ⟨M18, eM18, h⟩ := nm_ex h
            refine r_iast X (n := 56) rfl (ltn hnc rfl) c17 dX7_leg_91 ?_
            refine r_mem eM18 ?_
            refine r_aload_n X 0 dX7_leg_92 rfl rfl ?_
            refine r_getr X 1 36 in_X7 (ci := 6) rfl rfl (ltn hnc rfl) (Nat.le_of_ble_eq_true rfl) rfl w_610 dX7_leg_93 (by decide) ?_
            refine r_bipush X 30 dX7_leg_96 rfl ?_
            refine r_dup2 X dX7_leg_98 rfl rfl ?_
            refine r_iald X (n := 56) rfl (Or.inl (ltn hnc rfl)) (by decide) dX7_leg_99 ?_
            refine r_iconst X 1 dX7_leg_100 rfl ?_
            refine r_iadd X dX7_leg_101 ?_
            obtain ⟨M19, eM19, h⟩ := nm_ex h
            refine r_iast X (n := 56) rfl (ltn hnc rfl) (by decide) dX7_leg_102 ?_
            refine r_mem eM19 ?_
            refine r_aload_n X 0 dX7_leg_103 rfl rfl ?_
            refine r_getr X 1 36 in_X7 (ci := 6) rfl rfl (ltn hnc rfl) (Nat.le_of_ble_eq_true rfl) rfl w_610 dX7_leg_104 (by decide) ?_
            refine r_bipush X 30 dX7_leg_107 rfl ?_
            refine r_iald X (n := 56) rfl (Or.inl (ltn hnc rfl)) (by decide) dX7_leg_109 ?_
            exact r_iretE X hr dX7_leg_110 h
          · replace h := it_t c14 h
            refine r_aload_n X 0 dX7_leg_47 rfl rfl ?_
            refine r_bipush X (-6) dX7_leg_48 rfl ?_
            obtain ⟨r21, M20, h22, h⟩ := bd2_ex h
            refine r_callV X (st := []) (av := [.int (-6 : Int32)]) (k := 34) (ci := 6) (k_X7_refuse l N _ hnc _ _ _ _ h22 d (by omega)) (fitR_s (Nat.le_of_ble_eq_true rfl)) ⟨Nat.le_refl 0, Nat.le_refl 0⟩ rfl (ltn hnc rfl) rfl w_689 w_47 w_688 w_18 w_686 hy_X7_refuse rfl (Nat.le_of_ble_eq_true rfl) dX7_leg_50 ?_
            exact r_iretE X hr dX7_leg_53 h
    · replace h := it_f c5 h
      refine r_aload_n X 0 dX7_leg_14 rfl rfl ?_
      refine r_bipush X (-4) dX7_leg_15 rfl ?_
      obtain ⟨r24, M23, h25, h⟩ := bd2_ex h
      refine r_callV X (st := []) (av := [.int (-4 : Int32)]) (k := 34) (ci := 6) (k_X7_refuse l N _ hnc _ _ _ _ h25 d (by omega)) (fitR_s (Nat.le_of_ble_eq_true rfl)) ⟨Nat.le_refl 0, Nat.le_refl 0⟩ rfl (ltn hnc rfl) rfl w_689 w_47 w_688 w_18 w_686 hy_X7_refuse rfl (Nat.le_of_ble_eq_true rfl) dX7_leg_17 ?_
      exact r_iretE X hr dX7_leg_20 h
def f_X0_isOnTable (N : Nat) (M : Mem) (p0 : Int64) : Option (Int32 × Mem) :=
  bd2 (f_X2_part N M p0 (0 : Int32)) fun r2 M1 =>
  bd2 (f_X2_part N M1 p0 (1 : Int32)) fun r5 M4 =>
  bd2 (f_X2_part N M4 p0 (2 : Int32)) fun r8 M7 =>
  bd2 (f_X2_part N M7 p0 (3 : Int32)) fun r11 M10 =>
  bd2 (f_X6_at shp N M10 5 (0 : Int32)) fun r14 M13 =>
  bd2 (f_X2_signOf N M13 (Int32.toInt64 (r2 - r14)) (Int32.toInt64 r5)) fun r17 M16 =>
  if r17 < 0 then
    (some ((0 : Int32), M16))
  else
    (bd2 (f_X6_at shp N M16 5 (1 : Int32)) fun r21 M20 =>
    bd2 (f_X2_signOf N M20 (Int32.toInt64 (r2 - r21)) (Int32.toInt64 r5)) fun r24 M23 =>
    if 0 < r24 then
      (some ((0 : Int32), M23))
    else
      (bd2 (f_X6_at shp N M23 5 (2 : Int32)) fun r28 M27 =>
      bd2 (f_X2_signOf N M27 (Int32.toInt64 (r8 - r28)) (Int32.toInt64 r11)) fun r31 M30 =>
      if r31 < 0 then
        (some ((0 : Int32), M30))
      else
        (bd2 (f_X6_at shp N M30 5 (3 : Int32)) fun r35 M34 =>
        bd2 (f_X2_signOf N M34 (Int32.toInt64 (r8 - r35)) (Int32.toInt64 r11)) fun r38 M37 =>
        if 0 < r38 then
          (some ((0 : Int32), M37))
        else
          (some ((1 : Int32), M37)))))
set_option maxRecDepth 100000 in
set_option maxHeartbeats 4000000 in
theorem k_X0_isOnTable (l : Launch) (N : Nat) (nc : Nat) (hnc : 34 ≤ nc) (M : Mem) (p0 : Int64) (r : Int32) (M' : Mem) (h : f_X0_isOnTable N M p0 = some (r, M')) (d : Nat) (hd : 1 ≤ d) : Ct l d yX0_isOnTable cX0_isOnTable 7 (some .boolean) shp nc [.ref 1, .long p0] M (some (.int r)) M' := by
  obtain ⟨d, rfl⟩ : ∃ q, d = q + 1 := ⟨d - 1, by omega⟩
  unfold f_X0_isOnTable at h
  refine Ct.of (by decide +kernel) (Nat.le_of_ble_eq_true rfl) ?_
  intro p e s m args below meth c A ad D cI cJ X hr
  refine r_sub (ls' := [(0, .ref 1), (1, .long p0)]) [0, 1] rfl ?_
  refine r_lload_n X 1 dX0_isOnTable_0 rfl rfl ?_
  refine r_iconst X 0 dX0_isOnTable_1 rfl ?_
  obtain ⟨r2, M1, h3, h⟩ := bd2_ex h
  refine r_callS X (st := []) (av := [.long p0, .int (0 : Int32)]) (k_X2_part l N _ hnc _ _ _ _ _ h3 d (by omega)) (fitR_s (Nat.le_of_ble_eq_true rfl)) ⟨Nat.le_refl 0, Nat.le_refl 0⟩ w_352 w_46 w_351 w_431 hy_X2_part rfl (Nat.le_of_ble_eq_true rfl) dX0_isOnTable_2 ?_
  refine r_istore_n X [(3, .int r2), (0, .ref 1), (1, .long p0)] dX0_isOnTable_5 rfl (Nat.le_of_ble_eq_true rfl) rfl ?_
  refine r_lload_n X 2 dX0_isOnTable_6 rfl rfl ?_
  refine r_iconst X 1 dX0_isOnTable_7 rfl ?_
  obtain ⟨r5, M4, h6, h⟩ := bd2_ex h
  refine r_callS X (st := []) (av := [.long p0, .int (1 : Int32)]) (k_X2_part l N _ hnc _ _ _ _ _ h6 d (by omega)) (fitR_s (Nat.le_of_ble_eq_true rfl)) ⟨Nat.le_refl 0, Nat.le_refl 0⟩ w_352 w_46 w_351 w_431 hy_X2_part rfl (Nat.le_of_ble_eq_true rfl) dX0_isOnTable_8 ?_
  refine r_istore X [(4, .int r5), (3, .int r2), (0, .ref 1), (1, .long p0)] dX0_isOnTable_11 (Nat.le_of_ble_eq_true rfl) rfl ?_
  refine r_lload_n X 3 dX0_isOnTable_13 rfl rfl ?_
  refine r_iconst X 2 dX0_isOnTable_14 rfl ?_
  obtain ⟨r8, M7, h9, h⟩ := bd2_ex h
  refine r_callS X (st := []) (av := [.long p0, .int (2 : Int32)]) (k_X2_part l N _ hnc _ _ _ _ _ h9 d (by omega)) (fitR_s (Nat.le_of_ble_eq_true rfl)) ⟨Nat.le_refl 0, Nat.le_refl 0⟩ w_352 w_46 w_351 w_431 hy_X2_part rfl (Nat.le_of_ble_eq_true rfl) dX0_isOnTable_15 ?_
  refine r_istore X [(5, .int r8), (4, .int r5), (3, .int r2), (0, .ref 1), (1, .long p0)] dX0_isOnTable_18 (Nat.le_of_ble_eq_true rfl) rfl ?_
  refine r_lload_n X 4 dX0_isOnTable_20 rfl rfl ?_
  refine r_iconst X 3 dX0_isOnTable_21 rfl ?_
  obtain ⟨r11, M10, h12, h⟩ := bd2_ex h
  refine r_callS X (st := []) (av := [.long p0, .int (3 : Int32)]) (k_X2_part l N _ hnc _ _ _ _ _ h12 d (by omega)) (fitR_s (Nat.le_of_ble_eq_true rfl)) ⟨Nat.le_refl 0, Nat.le_refl 0⟩ w_352 w_46 w_351 w_431 hy_X2_part rfl (Nat.le_of_ble_eq_true rfl) dX0_isOnTable_22 ?_
  refine r_istore X [(6, .int r11), (5, .int r8), (4, .int r5), (3, .int r2), (0, .ref 1), (1, .long p0)] dX0_isOnTable_25 (Nat.le_of_ble_eq_true rfl) rfl ?_
  refine r_iload_n X 3 dX0_isOnTable_27 rfl rfl ?_
  refine r_aload_n X 4 dX0_isOnTable_28 rfl rfl ?_
  refine r_getr X 4 5 in_X0 (ci := 0) rfl rfl (ltn hnc rfl) (Nat.le_of_ble_eq_true rfl) rfl w_83 dX0_isOnTable_29 (by decide) ?_
  refine r_iconst X 0 dX0_isOnTable_32 rfl ?_
  obtain ⟨r14, M13, h15, h⟩ := bd2_ex h
  refine r_callSN X (st := [.int r2]) (av := [.ref 5, .int (0 : Int32)]) (k_X6_at l N _ _ _ _ _ (Or.inl (ltn hnc rfl)) _ _ h15 d (by omega)) (fitR_s (Nat.le_of_ble_eq_true rfl)) ⟨Nat.le_refl 0, Nat.le_refl 0⟩ w_71 w_39 w_70 w_301 hy_X6_at rfl (Nat.le_of_ble_eq_true rfl) dX0_isOnTable_33 ?_
  refine r_isub X dX0_isOnTable_36 ?_
  refine r_i2l X dX0_isOnTable_37 ?_
  refine r_iload X 2 dX0_isOnTable_38 rfl ?_
  refine r_i2l X dX0_isOnTable_40 ?_
  obtain ⟨r17, M16, h18, h⟩ := bd2_ex h
  refine r_callS X (st := []) (av := [.long (Int32.toInt64 (r2 - r14)), .long (Int32.toInt64 r5)]) (k_X2_signOf l N _ hnc _ _ _ _ _ h18 d (by omega)) (fitR_s (Nat.le_of_ble_eq_true rfl)) ⟨Nat.le_refl 0, Nat.le_refl 0⟩ w_392 w_46 w_391 w_432 hy_X2_signOf rfl (Nat.le_of_ble_eq_true rfl) dX0_isOnTable_41 ?_
  refine r_iflt X 113 dX0_isOnTable_44 (by decide) (fun c19 => ?_) (fun c19 => ?_)
  · replace h := it_t c19 h
    refine r_iconst X 0 dX0_isOnTable_113 rfl ?_
    exact r_zretE X hr rfl dX0_isOnTable_114 h
  · replace h := it_f c19 h
    refine r_iload_n X 3 dX0_isOnTable_47 rfl rfl ?_
    refine r_aload_n X 4 dX0_isOnTable_48 rfl rfl ?_
    refine r_getr X 4 5 in_X0 (ci := 0) rfl rfl (ltn hnc rfl) (Nat.le_of_ble_eq_true rfl) rfl w_83 dX0_isOnTable_49 (by decide) ?_
    refine r_iconst X 1 dX0_isOnTable_52 rfl ?_
    obtain ⟨r21, M20, h22, h⟩ := bd2_ex h
    refine r_callSN X (st := [.int r2]) (av := [.ref 5, .int (1 : Int32)]) (k_X6_at l N _ _ _ _ _ (Or.inl (ltn hnc rfl)) _ _ h22 d (by omega)) (fitR_s (Nat.le_of_ble_eq_true rfl)) ⟨Nat.le_refl 0, Nat.le_refl 0⟩ w_71 w_39 w_70 w_301 hy_X6_at rfl (Nat.le_of_ble_eq_true rfl) dX0_isOnTable_53 ?_
    refine r_isub X dX0_isOnTable_56 ?_
    refine r_i2l X dX0_isOnTable_57 ?_
    refine r_iload X 2 dX0_isOnTable_58 rfl ?_
    refine r_i2l X dX0_isOnTable_60 ?_
    obtain ⟨r24, M23, h25, h⟩ := bd2_ex h
    refine r_callS X (st := []) (av := [.long (Int32.toInt64 (r2 - r21)), .long (Int32.toInt64 r5)]) (k_X2_signOf l N _ hnc _ _ _ _ _ h25 d (by omega)) (fitR_s (Nat.le_of_ble_eq_true rfl)) ⟨Nat.le_refl 0, Nat.le_refl 0⟩ w_392 w_46 w_391 w_432 hy_X2_signOf rfl (Nat.le_of_ble_eq_true rfl) dX0_isOnTable_61 ?_
    refine r_ifgt X 113 dX0_isOnTable_64 (by decide) (fun c26 => ?_) (fun c26 => ?_)
    · replace h := it_t c26 h
      refine r_iconst X 0 dX0_isOnTable_113 rfl ?_
      exact r_zretE X hr rfl dX0_isOnTable_114 h
    · replace h := it_f c26 h
      refine r_iload X 1 dX0_isOnTable_67 rfl ?_
      refine r_aload_n X 4 dX0_isOnTable_69 rfl rfl ?_
      refine r_getr X 4 5 in_X0 (ci := 0) rfl rfl (ltn hnc rfl) (Nat.le_of_ble_eq_true rfl) rfl w_83 dX0_isOnTable_70 (by decide) ?_
      refine r_iconst X 2 dX0_isOnTable_73 rfl ?_
      obtain ⟨r28, M27, h29, h⟩ := bd2_ex h
      refine r_callSN X (st := [.int r8]) (av := [.ref 5, .int (2 : Int32)]) (k_X6_at l N _ _ _ _ _ (Or.inl (ltn hnc rfl)) _ _ h29 d (by omega)) (fitR_s (Nat.le_of_ble_eq_true rfl)) ⟨Nat.le_refl 0, Nat.le_refl 0⟩ w_71 w_39 w_70 w_301 hy_X6_at rfl (Nat.le_of_ble_eq_true rfl) dX0_isOnTable_74 ?_
      refine r_isub X dX0_isOnTable_77 ?_
      refine r_i2l X dX0_isOnTable_78 ?_
      refine r_iload X 0 dX0_isOnTable_79 rfl ?_
      refine r_i2l X dX0_isOnTable_81 ?_
      obtain ⟨r31, M30, h32, h⟩ := bd2_ex h
      refine r_callS X (st := []) (av := [.long (Int32.toInt64 (r8 - r28)), .long (Int32.toInt64 r11)]) (k_X2_signOf l N _ hnc _ _ _ _ _ h32 d (by omega)) (fitR_s (Nat.le_of_ble_eq_true rfl)) ⟨Nat.le_refl 0, Nat.le_refl 0⟩ w_392 w_46 w_391 w_432 hy_X2_signOf rfl (Nat.le_of_ble_eq_true rfl) dX0_isOnTable_82 ?_
      refine r_iflt X 113 dX0_isOnTable_85 (by decide) (fun c33 => ?_) (fun c33 => ?_)
      · replace h := it_t c33 h
        refine r_iconst X 0 dX0_isOnTable_113 rfl ?_
        exact r_zretE X hr rfl dX0_isOnTable_114 h
      · replace h := it_f c33 h
        refine r_iload X 1 dX0_isOnTable_88 rfl ?_
        refine r_aload_n X 4 dX0_isOnTable_90 rfl rfl ?_
        refine r_getr X 4 5 in_X0 (ci := 0) rfl rfl (ltn hnc rfl) (Nat.le_of_ble_eq_true rfl) rfl w_83 dX0_isOnTable_91 (by decide) ?_
        refine r_iconst X 3 dX0_isOnTable_94 rfl ?_
        obtain ⟨r35, M34, h36, h⟩ := bd2_ex h
        refine r_callSN X (st := [.int r8]) (av := [.ref 5, .int (3 : Int32)]) (k_X6_at l N _ _ _ _ _ (Or.inl (ltn hnc rfl)) _ _ h36 d (by omega)) (fitR_s (Nat.le_of_ble_eq_true rfl)) ⟨Nat.le_refl 0, Nat.le_refl 0⟩ w_71 w_39 w_70 w_301 hy_X6_at rfl (Nat.le_of_ble_eq_true rfl) dX0_isOnTable_95 ?_
        refine r_isub X dX0_isOnTable_98 ?_
        refine r_i2l X dX0_isOnTable_99 ?_
        refine r_iload X 0 dX0_isOnTable_100 rfl ?_
        refine r_i2l X dX0_isOnTable_102 ?_
        obtain ⟨r38, M37, h39, h⟩ := bd2_ex h
        refine r_callS X (st := []) (av := [.long (Int32.toInt64 (r8 - r35)), .long (Int32.toInt64 r11)]) (k_X2_signOf l N _ hnc _ _ _ _ _ h39 d (by omega)) (fitR_s (Nat.le_of_ble_eq_true rfl)) ⟨Nat.le_refl 0, Nat.le_refl 0⟩ w_392 w_46 w_391 w_432 hy_X2_signOf rfl (Nat.le_of_ble_eq_true rfl) dX0_isOnTable_103 ?_
        refine r_ifgt X 113 dX0_isOnTable_106 (by decide) (fun c40 => ?_) (fun c40 => ?_)
        · replace h := it_t c40 h
          refine r_iconst X 0 dX0_isOnTable_113 rfl ?_
          exact r_zretE X hr rfl dX0_isOnTable_114 h
        · replace h := it_f c40 h
          refine r_iconst X 1 dX0_isOnTable_109 rfl ?_
          refine r_goto X 114 dX0_isOnTable_110 (by decide) ?_
          exact r_zretE X hr rfl dX0_isOnTable_114 h
def l_X0_isAtLeg_2 (N : Nat)    : Nat → Mem → Int64 → Int32 → Option (Int32 × Mem)
  | 0, _, _, _ => none
  | n + 1, M, v1, v3 =>
    if (M.1 1 7) ≤ v3 then
      (some ((0 : Int32), M))
    else
      (bd2 (f_X6_at shp N M 6 v3) fun r3 M2 =>
      bd2 (f_X6_at shp N M2 7 v3) fun r6 M5 =>
      bd2 (f_X2_place N M5 (Int32.toInt64 r3) (0 : Int64) (Int32.toInt64 r6) (0 : Int64)) fun r9 M8 =>
      if (lg_cmp v1 r9) = 0 then
        (some ((1 : Int32), M8))
      else
        (l_X0_isAtLeg_2 N n M8 v1 (v3 + 1)))
def f_X0_isAtLeg (N : Nat) (M : Mem) (p0 : Int64) : Option (Int32 × Mem) :=
  l_X0_isAtLeg_2 N N M p0 (0 : Int32)
set_option maxRecDepth 100000 in
set_option maxHeartbeats 4000000 in
theorem k_X0_isAtLeg (l : Launch) (N : Nat) (nc : Nat) (hnc : 34 ≤ nc) (M : Mem) (p0 : Int64) (r : Int32) (M' : Mem) (h : f_X0_isAtLeg N M p0 = some (r, M')) (d : Nat) (hd : 1 ≤ d) : Ct l d yX0_isAtLeg cX0_isAtLeg 4 (some .boolean) shp nc [.ref 1, .long p0] M (some (.int r)) M' := by
  obtain ⟨d, rfl⟩ : ∃ q, d = q + 1 := ⟨d - 1, by omega⟩
  unfold f_X0_isAtLeg at h
  refine Ct.of (by decide +kernel) (Nat.le_of_ble_eq_true rfl) ?_
  intro p e s m args below meth c A ad D cI cJ X hr
  have hl2 : ∀ (n : Nat) (M : Mem) (v1 : Int64) (v3 : Int32), l_X0_isAtLeg_2 N n M v1 v3 = some (r, M') → AW p l e (rmd (d + 1)) s m args below meth c 4 A ad D cI cJ shp nc 0 0 (MQ below (Qq A ad D cI cJ shp nc (some (.int r)) M') args s 0 0 A) M 2 [(0, .ref 1), (1, .long v1), (3, .int v3)] [] := by
    intro n
    induction n with
    | zero => intro M v1 v3 h; cases h
    | succ n ih =>
      intro M v1 v3 h
      rw [l_X0_isAtLeg_2] at h
      refine r_iload_n X 2 dX0_isAtLeg_2 rfl rfl ?_
      refine r_aload_n X 0 dX0_isAtLeg_3 rfl rfl ?_
      refine r_geti X 7 in_X0 (ci := 0) rfl rfl (ltn hnc rfl) (Nat.le_of_ble_eq_true rfl) rfl w_89 dX0_isAtLeg_4 ?_
      refine r_icge X 46 dX0_isAtLeg_7 (by decide) (fun c1 => ?_) (fun c1 => ?_)
      · replace h := it_t c1 h
        refine r_iconst X 0 dX0_isAtLeg_46 rfl ?_
        exact r_zretE X hr rfl dX0_isAtLeg_47 h
      · replace h := it_f c1 h
        refine r_lload_n X 1 dX0_isAtLeg_10 rfl rfl ?_
        refine r_aload_n X 0 dX0_isAtLeg_11 rfl rfl ?_
        refine r_getr X 5 6 in_X0 (ci := 0) rfl rfl (ltn hnc rfl) (Nat.le_of_ble_eq_true rfl) rfl w_85 dX0_isAtLeg_12 (by decide) ?_
        refine r_iload_n X 2 dX0_isAtLeg_15 rfl rfl ?_
        obtain ⟨r3, M2, h4, h⟩ := bd2_ex h
        refine r_callSN X (st := [.long v1]) (av := [.ref 6, .int v3]) (k_X6_at l N _ _ _ _ _ (Or.inl (ltn hnc rfl)) _ _ h4 d (by omega)) (fitR_s (Nat.le_of_ble_eq_true rfl)) ⟨Nat.le_refl 0, Nat.le_refl 0⟩ w_71 w_39 w_70 w_301 hy_X6_at rfl (Nat.le_of_ble_eq_true rfl) dX0_isAtLeg_16 ?_
        refine r_i2l X dX0_isAtLeg_19 ?_
        refine r_lconst X 0 dX0_isAtLeg_20 rfl ?_
        refine r_aload_n X 0 dX0_isAtLeg_21 rfl rfl ?_
        refine r_getr X 6 7 in_X0 (ci := 0) rfl rfl (ltn hnc rfl) (Nat.le_of_ble_eq_true rfl) rfl w_87 dX0_isAtLeg_22 (by decide) ?_
        refine r_iload_n X 2 dX0_isAtLeg_25 rfl rfl ?_
        obtain ⟨r6, M5, h7, h⟩ := bd2_ex h
        refine r_callSN X (st := [.long (0 : Int64), .long (Int32.toInt64 r3), .long v1]) (av := [.ref 7, .int v3]) (k_X6_at l N _ _ _ _ _ (Or.inl (ltn hnc rfl)) _ _ h7 d (by omega)) (fitR_s (Nat.le_of_ble_eq_true rfl)) ⟨Nat.le_refl 0, Nat.le_refl 0⟩ w_71 w_39 w_70 w_301 hy_X6_at rfl (Nat.le_of_ble_eq_true rfl) dX0_isAtLeg_26 ?_
        refine r_i2l X dX0_isAtLeg_29 ?_
        refine r_lconst X 0 dX0_isAtLeg_30 rfl ?_
        obtain ⟨r9, M8, h10, h⟩ := bd2_ex h
        refine r_callS X (st := [.long v1]) (av := [.long (Int32.toInt64 r3), .long (0 : Int64), .long (Int32.toInt64 r6), .long (0 : Int64)]) (k_X2_place l N _ hnc _ _ _ _ _ _ _ h10 d (by omega)) (fitR_s (Nat.le_of_ble_eq_true rfl)) ⟨Nat.le_refl 0, Nat.le_refl 0⟩ w_236 w_46 w_235 w_437 hy_X2_place rfl (Nat.le_of_ble_eq_true rfl) dX0_isAtLeg_31 ?_
        refine r_lcmp X dX0_isAtLeg_34 ?_
        refine r_ifne X 40 dX0_isAtLeg_35 (by decide) (fun c11 => ?_) (fun c11 => ?_)
        · replace h := it_f c11 h
          refine r_iinc X [(3, .int (v3 + 1)), (0, .ref 1), (1, .long v1)] 2 (v3 + 1) dX0_isAtLeg_40 rfl rfl (Nat.le_of_ble_eq_true rfl) rfl ?_
          refine r_goto X 2 dX0_isAtLeg_43 (by decide) ?_
          refine r_sub (ls' := [(0, .ref 1), (1, .long v1), (3, .int (v3 + 1))]) [1, 2, 0] rfl ?_
          exact ih M8 v1 (v3 + 1) h
        · replace h := it_t c11 h
          refine r_iconst X 1 dX0_isAtLeg_38 rfl ?_
          exact r_zretE X hr rfl dX0_isAtLeg_39 h
  refine r_sub (ls' := [(0, .ref 1), (1, .long p0)]) [0, 1] rfl ?_
  refine r_iconst X 0 dX0_isAtLeg_0 rfl ?_
  refine r_istore_n X [(3, .int (0 : Int32)), (0, .ref 1), (1, .long p0)] dX0_isAtLeg_1 rfl (Nat.le_of_ble_eq_true rfl) rfl ?_
  refine r_sub (ls' := [(0, .ref 1), (1, .long p0), (3, .int (0 : Int32))]) [1, 2, 0] rfl ?_
  exact hl2  N M p0 (0 : Int32) h
def l_X0_firstOff_2 (N : Nat)    : Nat → Mem → Int32 → Option (Int32 × Mem)
  | 0, _, _ => none
  | n + 1, M, v2 =>
    if (M.1 17 4) < v2 then
      (some ((-9 : Int32), M))
    else
      (bd2 (f_X6_placeAt shp N M 18 v2) fun r3 M2 =>
      bd2 (f_X0_isOnTable N M2 r3) fun r6 M5 =>
      if r6 = 0 then
        (some (v2, M5))
      else
        (bd2 (f_X0_isAtLeg N M5 r3) fun r10 M9 =>
        if r10 = 0 then
          (l_X0_firstOff_2 N n M9 (v2 + 1))
        else
          (some (v2, M9))))
def f_X0_firstOff (N : Nat) (M : Mem)  : Option (Int32 × Mem) :=
  l_X0_firstOff_2 N N M (0 : Int32)
set_option maxRecDepth 100000 in
set_option maxHeartbeats 4000000 in
theorem k_X0_firstOff (l : Launch) (N : Nat) (nc : Nat) (hnc : 34 ≤ nc) (M : Mem)  (r : Int32) (M' : Mem) (h : f_X0_firstOff N M  = some (r, M')) (d : Nat) (hd : 2 ≤ d) : Ct l d yX0_firstOff cX0_firstOff 5 (some .int) shp nc [.ref 1, .ref 17] M (some (.int r)) M' := by
  obtain ⟨d, rfl⟩ : ∃ q, d = q + 1 := ⟨d - 1, by omega⟩
  unfold f_X0_firstOff at h
  refine Ct.of (by decide +kernel) (Nat.le_of_ble_eq_true rfl) ?_
  intro p e s m args below meth c A ad D cI cJ X hr
  have hl2 : ∀ (n : Nat) (M : Mem) (v2 : Int32), l_X0_firstOff_2 N n M v2 = some (r, M') → AW p l e (rmd (d + 1)) s m args below meth c 5 A ad D cI cJ shp nc 0 0 (MQ below (Qq A ad D cI cJ shp nc (some (.int r)) M') args s 0 0 A) M 2 [(0, .ref 1), (1, .ref 17), (2, .int v2)] [] := by
    intro n
    induction n with
    | zero => intro M v2 h; cases h
    | succ n ih =>
      intro M v2 h
      rw [l_X0_firstOff_2] at h
      refine r_iload_n X 2 dX0_firstOff_2 rfl rfl ?_
      refine r_aload_n X 1 dX0_firstOff_3 rfl rfl ?_
      refine r_geti X 4 in_X5 (ci := 4) rfl rfl (ltn hnc rfl) (Nat.le_of_ble_eq_true rfl) rfl w_134 dX0_firstOff_4 ?_
      refine r_icgt X 43 dX0_firstOff_7 (by decide) (fun c1 => ?_) (fun c1 => ?_)
      · replace h := it_t c1 h
        refine r_bipush X (-9) dX0_firstOff_43 rfl ?_
        exact r_iretE X hr dX0_firstOff_45 h
      · replace h := it_f c1 h
        refine r_aload_n X 1 dX0_firstOff_10 rfl rfl ?_
        refine r_getr X 1 18 in_X5 (ci := 4) rfl rfl (ltn hnc rfl) (Nat.le_of_ble_eq_true rfl) rfl w_129 dX0_firstOff_11 (by decide) ?_
        refine r_iload_n X 2 dX0_firstOff_14 rfl rfl ?_
        obtain ⟨r3, M2, h4, h⟩ := bd2_ex h
        refine r_callSN X (st := []) (av := [.ref 18, .int v2]) (k_X6_placeAt l N _ _ _ _ _ (Or.inl (ltn hnc rfl)) _ _ h4 d (by omega)) (fitR_s (Nat.le_of_ble_eq_true rfl)) ⟨Nat.le_refl 0, Nat.le_refl 0⟩ w_343 w_39 w_342 w_426 hy_X6_placeAt rfl (Nat.le_of_ble_eq_true rfl) dX0_firstOff_15 ?_
        refine r_lstore_n X [(3, .long r3), (0, .ref 1), (1, .ref 17), (2, .int v2)] dX0_firstOff_18 rfl (Nat.le_of_ble_eq_true rfl) rfl ?_
        refine r_aload_n X 1 dX0_firstOff_19 rfl rfl ?_
        refine r_lload_n X 0 dX0_firstOff_20 rfl rfl ?_
        obtain ⟨r6, M5, h7, h⟩ := bd2_ex h
        refine r_callV X (st := []) (av := [.long r3]) (k := 1) (ci := 0) (k_X0_isOnTable l N _ hnc _ _ _ _ h7 d (by omega)) (fitR_s (Nat.le_of_ble_eq_true rfl)) ⟨Nat.le_refl 0, Nat.le_refl 0⟩ rfl (ltn hnc rfl) rfl w_430 w_40 w_429 w_4 w_427 hy_X0_isOnTable rfl (Nat.le_of_ble_eq_true rfl) dX0_firstOff_21 ?_
        refine r_ifeq X 35 dX0_firstOff_24 (by decide) (fun c8 => ?_) (fun c8 => ?_)
        · replace h := it_t c8 h
          refine r_iload_n X 3 dX0_firstOff_35 rfl rfl ?_
          exact r_iretE X hr dX0_firstOff_36 h
        · replace h := it_f c8 h
          refine r_aload_n X 1 dX0_firstOff_27 rfl rfl ?_
          refine r_lload_n X 0 dX0_firstOff_28 rfl rfl ?_
          obtain ⟨r10, M9, h11, h⟩ := bd2_ex h
          refine r_callV X (st := []) (av := [.long r3]) (k := 1) (ci := 0) (k_X0_isAtLeg l N _ hnc _ _ _ _ h11 d (by omega)) (fitR_s (Nat.le_of_ble_eq_true rfl)) ⟨Nat.le_refl 0, Nat.le_refl 0⟩ rfl (ltn hnc rfl) rfl w_436 w_40 w_435 w_5 w_433 hy_X0_isAtLeg rfl (Nat.le_of_ble_eq_true rfl) dX0_firstOff_29 ?_
          refine r_ifeq X 37 dX0_firstOff_32 (by decide) (fun c12 => ?_) (fun c12 => ?_)
          · replace h := it_t c12 h
            refine r_iinc X [(2, .int (v2 + 1)), (3, .long r3), (0, .ref 1), (1, .ref 17)] 3 (v2 + 1) dX0_firstOff_37 rfl rfl (Nat.le_of_ble_eq_true rfl) rfl ?_
            refine r_goto X 2 dX0_firstOff_40 (by decide) ?_
            refine r_sub (ls' := [(0, .ref 1), (1, .ref 17), (2, .int (v2 + 1))]) [2, 3, 0] rfl ?_
            exact ih M9 (v2 + 1) h
          · replace h := it_f c12 h
            refine r_iload_n X 3 dX0_firstOff_35 rfl rfl ?_
            exact r_iretE X hr dX0_firstOff_36 h
  refine r_sub (ls' := [(0, .ref 1), (1, .ref 17)]) [0, 1] rfl ?_
  refine r_iconst X 0 dX0_firstOff_0 rfl ?_
  refine r_istore_n X [(2, .int (0 : Int32)), (0, .ref 1), (1, .ref 17)] dX0_firstOff_1 rfl (Nat.le_of_ble_eq_true rfl) rfl ?_
  refine r_sub (ls' := [(0, .ref 1), (1, .ref 17), (2, .int (0 : Int32))]) [1, 2, 0] rfl ?_
  exact hl2  N M (0 : Int32) h
def f_X6_off (N : Nat) (M : Mem)  : Option (Int32 × Mem) :=
  bd (f_X5_follow N M 4 (M.1 1 3)) fun M1 =>
  bd2 (f_X0_firstOff N M1 ) fun r4 M3 =>
  some (r4, M3)
set_option maxRecDepth 100000 in
set_option maxHeartbeats 4000000 in
theorem k_X6_off (l : Launch) (N : Nat) (nc : Nat) (hnc : 34 ≤ nc) (M : Mem)  (r : Int32) (M' : Mem) (h : f_X6_off N M  = some (r, M')) (d : Nat) (hd : 3 ≤ d) : Ct l d yX6_off cX6_off 1 (some .int) shp nc [.ref 0] M (some (.int r)) M' := by
  obtain ⟨d, rfl⟩ : ∃ q, d = q + 1 := ⟨d - 1, by omega⟩
  unfold f_X6_off at h
  refine Ct.of (by decide +kernel) (Nat.le_of_ble_eq_true rfl) ?_
  intro p e s m args below meth c A ad D cI cJ X hr
  refine r_sub (ls' := [(0, .ref 0)]) [0] rfl ?_
  refine r_aload_n X 0 dX6_off_0 rfl rfl ?_
  refine r_getr X 4 17 in_X6 (ci := 5) rfl rfl (ltn hnc rfl) (Nat.le_of_ble_eq_true rfl) rfl w_244 dX6_off_1 (by decide) ?_
  refine r_aload_n X 0 dX6_off_4 rfl rfl ?_
  refine r_getr X 0 1 in_X6 (ci := 5) rfl rfl (ltn hnc rfl) (Nat.le_of_ble_eq_true rfl) rfl w_240 dX6_off_5 (by decide) ?_
  refine r_getr X 2 4 in_X0 (ci := 0) rfl rfl (ltn hnc rfl) (Nat.le_of_ble_eq_true rfl) rfl w_80 dX6_off_8 (by decide) ?_
  refine r_aload_n X 0 dX6_off_11 rfl rfl ?_
  refine r_getr X 0 1 in_X6 (ci := 5) rfl rfl (ltn hnc rfl) (Nat.le_of_ble_eq_true rfl) rfl w_240 dX6_off_12 (by decide) ?_
  refine r_geti X 3 in_X0 (ci := 0) rfl rfl (ltn hnc rfl) (Nat.le_of_ble_eq_true rfl) rfl w_82 dX6_off_15 ?_
  obtain ⟨M1, h2, h⟩ := bd_ex h
  refine r_callV X (st := []) (av := [.ref 4, .int (M.1 1 3)]) (k := 17) (ci := 4) (k_X5_follow l N _ hnc _ _ _ (Or.inl (ltn hnc rfl)) _ h2 d (by omega)) (fitR_s (Nat.le_of_ble_eq_true rfl)) ⟨Nat.le_refl 0, Nat.le_refl 0⟩ rfl (ltn hnc rfl) rfl w_335 w_42 w_333 w_334 w_332 hy_X5_follow rfl (Nat.le_of_ble_eq_true rfl) dX6_off_18 ?_
  refine r_aload_n X 0 dX6_off_21 rfl rfl ?_
  refine r_getr X 0 1 in_X6 (ci := 5) rfl rfl (ltn hnc rfl) (Nat.le_of_ble_eq_true rfl) rfl w_240 dX6_off_22 (by decide) ?_
  refine r_aload_n X 0 dX6_off_25 rfl rfl ?_
  refine r_getr X 4 17 in_X6 (ci := 5) rfl rfl (ltn hnc rfl) (Nat.le_of_ble_eq_true rfl) rfl w_244 dX6_off_26 (by decide) ?_
  obtain ⟨r4, M3, h5, h⟩ := bd2_ex h
  refine r_callV X (st := []) (av := [.ref 17]) (k := 1) (ci := 0) (k_X0_firstOff l N _ hnc _  _ _ h5 d (by omega)) (fitR_s (Nat.le_of_ble_eq_true rfl)) ⟨Nat.le_refl 0, Nat.le_refl 0⟩ rfl (ltn hnc rfl) rfl w_425 w_40 w_423 w_424 w_422 hy_X0_firstOff rfl (Nat.le_of_ble_eq_true rfl) dX6_off_29 ?_
  exact r_iretE X hr dX6_off_32 h
def l_X7_isOn_162 (N : Nat)    : Nat → Mem → Int32 → Int32 → Option (Int32 × Mem)
  | 0, _, _, _ => none
  | n + 1, M, v2, v3 =>
    if (M.1 36 (ix (30 : Int32))) ≤ v3 then
      (some ((1 : Int32), M))
    else
      (ck (inb ((18 : Int32) + ((2 : Int32) * v3)) 56) <|
      ck (inb v2 125) <|
      if (M.1 36 (ix ((18 : Int32) + ((2 : Int32) * v3)))) = (M.1 39 (ix v2)) then
        (ck (inb (((18 : Int32) + ((2 : Int32) * v3)) + (1 : Int32)) 56) <|
        ck (inb (v2 + (2 : Int32)) 125) <|
        if (M.1 36 (ix (((18 : Int32) + ((2 : Int32) * v3)) + (1 : Int32)))) = (M.1 39 (ix (v2 + (2 : Int32)))) then
          (some ((0 : Int32), M))
        else
          (l_X7_isOn_162 N n M v2 (v3 + 1)))
      else
        (l_X7_isOn_162 N n M v2 (v3 + 1)))
def f_X7_isOn (N : Nat) (M : Mem) (p0 : Int32) : Option (Int32 × Mem) :=
  nm ((5 : Int32) * p0) fun x1 =>
  ck (inb x1 125) <|
  ck (inb (x1 + (1 : Int32)) 125) <|
  bd2 (f_X7_signOf N M ((Int32.toInt64 (M.1 39 (ix x1))) - (Int32.toInt64 (M.1 36 (ix (14 : Int32))))) (Int32.toInt64 (M.1 39 (ix (x1 + (1 : Int32)))))) fun r5 M4 =>
  if r5 < 0 then
    (some ((0 : Int32), M4))
  else
    (ck (inb x1 125) <|
    ck (inb (x1 + (1 : Int32)) 125) <|
    bd2 (f_X7_signOf N M4 ((Int32.toInt64 (M4.1 39 (ix x1))) - (Int32.toInt64 (M4.1 36 (ix (15 : Int32))))) (Int32.toInt64 (M4.1 39 (ix (x1 + (1 : Int32)))))) fun r11 M10 =>
    if r11 ≤ 0 then
      (ck (inb (x1 + (2 : Int32)) 125) <|
      ck (inb (x1 + (3 : Int32)) 125) <|
      bd2 (f_X7_signOf N M10 ((Int32.toInt64 (M10.1 39 (ix (x1 + (2 : Int32))))) - (Int32.toInt64 (M10.1 36 (ix (16 : Int32))))) (Int32.toInt64 (M10.1 39 (ix (x1 + (3 : Int32)))))) fun r17 M16 =>
      if r17 < 0 then
        (some ((0 : Int32), M16))
      else
        (ck (inb (x1 + (2 : Int32)) 125) <|
        ck (inb (x1 + (3 : Int32)) 125) <|
        bd2 (f_X7_signOf N M16 ((Int32.toInt64 (M16.1 39 (ix (x1 + (2 : Int32))))) - (Int32.toInt64 (M16.1 36 (ix (17 : Int32))))) (Int32.toInt64 (M16.1 39 (ix (x1 + (3 : Int32)))))) fun r23 M22 =>
        if r23 ≤ 0 then
          (ck (inb (x1 + (1 : Int32)) 125) <|
          if (M22.1 39 (ix (x1 + (1 : Int32)))) = 0 then
            (ck (inb (x1 + (3 : Int32)) 125) <|
            if (M22.1 39 (ix (x1 + (3 : Int32)))) = 0 then
              (l_X7_isOn_162 N N M22 x1 (0 : Int32))
            else
              (some ((1 : Int32), M22)))
          else
            (some ((1 : Int32), M22)))
        else
          (some ((0 : Int32), M22))))
    else
      (some ((0 : Int32), M10)))
set_option maxRecDepth 100000 in
set_option maxHeartbeats 4000000 in
theorem k_X7_isOn (l : Launch) (N : Nat) (nc : Nat) (hnc : 45 ≤ nc) (M : Mem) (p0 : Int32) (r : Int32) (M' : Mem) (h : f_X7_isOn N M p0 = some (r, M')) (d : Nat) (hd : 1 ≤ d) : Ct l d yX7_isOn cX7_isOn 4 (some .boolean) shp nc [.ref 34, .int p0] M (some (.int r)) M' := by
  obtain ⟨d, rfl⟩ : ∃ q, d = q + 1 := ⟨d - 1, by omega⟩
  unfold f_X7_isOn at h
  refine Ct.of (by decide +kernel) (Nat.le_of_ble_eq_true rfl) ?_
  intro p e s m args below meth c A ad D cI cJ X hr
  have hl162 : ∀ (n : Nat) (M : Mem) (v2 : Int32) (v3 : Int32), l_X7_isOn_162 N n M v2 v3 = some (r, M') → AW p l e (rmd (d + 1)) s m args below meth c 4 A ad D cI cJ shp nc 0 0 (MQ below (Qq A ad D cI cJ shp nc (some (.int r)) M') args s 0 0 A) M 162 [(0, .ref 34), (2, .int v2), (3, .int v3)] [] := by
    intro n
    induction n with
    | zero => intro M v2 v3 h; cases h
    | succ n ih =>
      intro M v2 v3 h
      rw [l_X7_isOn_162] at h
      refine r_iload_n X 2 dX7_isOn_162 rfl rfl ?_
      refine r_aload_n X 0 dX7_isOn_163 rfl rfl ?_
      refine r_getr X 1 36 in_X7 (ci := 6) rfl rfl (ltn hnc rfl) (Nat.le_of_ble_eq_true rfl) rfl w_610 dX7_isOn_164 (by decide) ?_
      refine r_bipush X 30 dX7_isOn_167 rfl ?_
      refine r_iald X (n := 56) rfl (Or.inl (ltn hnc rfl)) (by decide) dX7_isOn_169 ?_
      refine r_icge X 225 dX7_isOn_170 (by decide) (fun c30 => ?_) (fun c30 => ?_)
      · replace h := it_t c30 h
        refine r_iconst X 1 dX7_isOn_225 rfl ?_
        exact r_zretE X hr rfl dX7_isOn_226 h
      · replace h := it_f c30 h
        refine r_aload_n X 0 dX7_isOn_173 rfl rfl ?_
        refine r_getr X 1 36 in_X7 (ci := 6) rfl rfl (ltn hnc rfl) (Nat.le_of_ble_eq_true rfl) rfl w_610 dX7_isOn_174 (by decide) ?_
        refine r_bipush X 18 dX7_isOn_177 rfl ?_
        refine r_iconst X 2 dX7_isOn_179 rfl ?_
        refine r_iload_n X 2 dX7_isOn_180 rfl rfl ?_
        refine r_imul X dX7_isOn_181 ?_
        refine r_iadd X dX7_isOn_182 ?_
        obtain ⟨c31, h⟩ := ck_ex h
        refine r_iald X (n := 56) rfl (Or.inl (ltn hnc rfl)) c31 dX7_isOn_183 ?_
        refine r_aload_n X 0 dX7_isOn_184 rfl rfl ?_
        refine r_getr X 6 39 in_X7 (ci := 6) rfl rfl (ltn hnc rfl) (Nat.le_of_ble_eq_true rfl) rfl w_615 dX7_isOn_185 (by decide) ?_
        refine r_iload_n X 1 dX7_isOn_188 rfl rfl ?_
        obtain ⟨c32, h⟩ := ck_ex h
        refine r_iald X (n := 125) rfl (Or.inl (ltn hnc rfl)) c32 dX7_isOn_189 ?_
        refine r_icne X 219 dX7_isOn_190 (by decide) (fun c33 => ?_) (fun c33 => ?_)
        · replace h := it_f c33 h
          refine r_iinc X [(3, .int (v3 + 1)), (0, .ref 34), (2, .int v2)] 2 (v3 + 1) dX7_isOn_219 rfl rfl (Nat.le_of_ble_eq_true rfl) rfl ?_
          refine r_goto X 162 dX7_isOn_222 (by decide) ?_
          refine r_sub (ls' := [(0, .ref 34), (2, .int v2), (3, .int (v3 + 1))]) [1, 2, 0] rfl ?_
          exact ih M v2 (v3 + 1) h
        · replace h := it_t c33 h
          refine r_aload_n X 0 dX7_isOn_193 rfl rfl ?_
          refine r_getr X 1 36 in_X7 (ci := 6) rfl rfl (ltn hnc rfl) (Nat.le_of_ble_eq_true rfl) rfl w_610 dX7_isOn_194 (by decide) ?_
          refine r_bipush X 18 dX7_isOn_197 rfl ?_
          refine r_iconst X 2 dX7_isOn_199 rfl ?_
          refine r_iload_n X 2 dX7_isOn_200 rfl rfl ?_
          refine r_imul X dX7_isOn_201 ?_
          refine r_iadd X dX7_isOn_202 ?_
          refine r_iconst X 1 dX7_isOn_203 rfl ?_
          refine r_iadd X dX7_isOn_204 ?_
          obtain ⟨c34, h⟩ := ck_ex h
          refine r_iald X (n := 56) rfl (Or.inl (ltn hnc rfl)) c34 dX7_isOn_205 ?_
          refine r_aload_n X 0 dX7_isOn_206 rfl rfl ?_
          refine r_getr X 6 39 in_X7 (ci := 6) rfl rfl (ltn hnc rfl) (Nat.le_of_ble_eq_true rfl) rfl w_615 dX7_isOn_207 (by decide) ?_
          refine r_iload_n X 1 dX7_isOn_210 rfl rfl ?_
          refine r_iconst X 2 dX7_isOn_211 rfl ?_
          refine r_iadd X dX7_isOn_212 ?_
          obtain ⟨c35, h⟩ := ck_ex h
          refine r_iald X (n := 125) rfl (Or.inl (ltn hnc rfl)) c35 dX7_isOn_213 ?_
          refine r_icne X 219 dX7_isOn_214 (by decide) (fun c36 => ?_) (fun c36 => ?_)
          · replace h := it_f c36 h
            refine r_iinc X [(3, .int (v3 + 1)), (0, .ref 34), (2, .int v2)] 2 (v3 + 1) dX7_isOn_219 rfl rfl (Nat.le_of_ble_eq_true rfl) rfl ?_
            refine r_goto X 162 dX7_isOn_222 (by decide) ?_
            refine r_sub (ls' := [(0, .ref 34), (2, .int v2), (3, .int (v3 + 1))]) [1, 2, 0] rfl ?_
            exact ih M v2 (v3 + 1) h
          · replace h := it_t c36 h
            refine r_iconst X 0 dX7_isOn_217 rfl ?_
            exact r_zretE X hr rfl dX7_isOn_218 h
  refine r_sub (ls' := [(0, .ref 34), (1, .int p0)]) [0, 1] rfl ?_
  refine r_iconst X 5 dX7_isOn_0 rfl ?_
  refine r_iload_n X 1 dX7_isOn_1 rfl rfl ?_
  refine r_imul X dX7_isOn_2 ?_
  obtain ⟨x1, ex1, h⟩ := nm_ex h
  refine r_top ex1 ?_
  refine r_istore_n X [(2, .int x1), (0, .ref 34), (1, .int p0)] dX7_isOn_3 rfl (Nat.le_of_ble_eq_true rfl) rfl ?_
  refine r_aload_n X 1 dX7_isOn_4 rfl rfl ?_
  refine r_getr X 6 39 in_X7 (ci := 6) rfl rfl (ltn hnc rfl) (Nat.le_of_ble_eq_true rfl) rfl w_615 dX7_isOn_5 (by decide) ?_
  refine r_iload_n X 0 dX7_isOn_8 rfl rfl ?_
  obtain ⟨c2, h⟩ := ck_ex h
  refine r_iald X (n := 125) rfl (Or.inl (ltn hnc rfl)) c2 dX7_isOn_9 ?_
  refine r_i2l X dX7_isOn_10 ?_
  refine r_aload_n X 1 dX7_isOn_11 rfl rfl ?_
  refine r_getr X 1 36 in_X7 (ci := 6) rfl rfl (ltn hnc rfl) (Nat.le_of_ble_eq_true rfl) rfl w_610 dX7_isOn_12 (by decide) ?_
  refine r_bipush X 14 dX7_isOn_15 rfl ?_
  refine r_iald X (n := 56) rfl (Or.inl (ltn hnc rfl)) (by decide) dX7_isOn_17 ?_
  refine r_i2l X dX7_isOn_18 ?_
  refine r_lsub X dX7_isOn_19 ?_
  refine r_aload_n X 1 dX7_isOn_20 rfl rfl ?_
  refine r_getr X 6 39 in_X7 (ci := 6) rfl rfl (ltn hnc rfl) (Nat.le_of_ble_eq_true rfl) rfl w_615 dX7_isOn_21 (by decide) ?_
  refine r_iload_n X 0 dX7_isOn_24 rfl rfl ?_
  refine r_iconst X 1 dX7_isOn_25 rfl ?_
  refine r_iadd X dX7_isOn_26 ?_
  obtain ⟨c3, h⟩ := ck_ex h
  refine r_iald X (n := 125) rfl (Or.inl (ltn hnc rfl)) c3 dX7_isOn_27 ?_
  refine r_i2l X dX7_isOn_28 ?_
  obtain ⟨r5, M4, h6, h⟩ := bd2_ex h
  refine r_callS X (st := []) (av := [.long ((Int32.toInt64 (M.1 39 (ix x1))) - (Int32.toInt64 (M.1 36 (ix (14 : Int32))))), .long (Int32.toInt64 (M.1 39 (ix (x1 + (1 : Int32)))))]) (k_X7_signOf l N _ hnc _ _ _ _ _ h6 d (by omega)) (fitR_s (Nat.le_of_ble_eq_true rfl)) ⟨Nat.le_refl 0, Nat.le_refl 0⟩ w_770 w_47 w_769 w_768 hy_X7_signOf rfl (Nat.le_of_ble_eq_true rfl) dX7_isOn_29 ?_
  refine r_iflt X 66 dX7_isOn_32 (by decide) (fun c7 => ?_) (fun c7 => ?_)
  · replace h := it_t c7 h
    refine r_iconst X 0 dX7_isOn_66 rfl ?_
    exact r_zretE X hr rfl dX7_isOn_67 h
  · replace h := it_f c7 h
    refine r_aload_n X 1 dX7_isOn_35 rfl rfl ?_
    refine r_getr X 6 39 in_X7 (ci := 6) rfl rfl (ltn hnc rfl) (Nat.le_of_ble_eq_true rfl) rfl w_615 dX7_isOn_36 (by decide) ?_
    refine r_iload_n X 0 dX7_isOn_39 rfl rfl ?_
    obtain ⟨c8, h⟩ := ck_ex h
    refine r_iald X (n := 125) rfl (Or.inl (ltn hnc rfl)) c8 dX7_isOn_40 ?_
    refine r_i2l X dX7_isOn_41 ?_
    refine r_aload_n X 1 dX7_isOn_42 rfl rfl ?_
    refine r_getr X 1 36 in_X7 (ci := 6) rfl rfl (ltn hnc rfl) (Nat.le_of_ble_eq_true rfl) rfl w_610 dX7_isOn_43 (by decide) ?_
    refine r_bipush X 15 dX7_isOn_46 rfl ?_
    refine r_iald X (n := 56) rfl (Or.inl (ltn hnc rfl)) (by decide) dX7_isOn_48 ?_
    refine r_i2l X dX7_isOn_49 ?_
    refine r_lsub X dX7_isOn_50 ?_
    refine r_aload_n X 1 dX7_isOn_51 rfl rfl ?_
    refine r_getr X 6 39 in_X7 (ci := 6) rfl rfl (ltn hnc rfl) (Nat.le_of_ble_eq_true rfl) rfl w_615 dX7_isOn_52 (by decide) ?_
    refine r_iload_n X 0 dX7_isOn_55 rfl rfl ?_
    refine r_iconst X 1 dX7_isOn_56 rfl ?_
    refine r_iadd X dX7_isOn_57 ?_
    obtain ⟨c9, h⟩ := ck_ex h
    refine r_iald X (n := 125) rfl (Or.inl (ltn hnc rfl)) c9 dX7_isOn_58 ?_
    refine r_i2l X dX7_isOn_59 ?_
    obtain ⟨r11, M10, h12, h⟩ := bd2_ex h
    refine r_callS X (st := []) (av := [.long ((Int32.toInt64 (M4.1 39 (ix x1))) - (Int32.toInt64 (M4.1 36 (ix (15 : Int32))))), .long (Int32.toInt64 (M4.1 39 (ix (x1 + (1 : Int32)))))]) (k_X7_signOf l N _ hnc _ _ _ _ _ h12 d (by omega)) (fitR_s (Nat.le_of_ble_eq_true rfl)) ⟨Nat.le_refl 0, Nat.le_refl 0⟩ w_770 w_47 w_769 w_768 hy_X7_signOf rfl (Nat.le_of_ble_eq_true rfl) dX7_isOn_60 ?_
    refine r_ifle X 68 dX7_isOn_63 (by decide) (fun c13 => ?_) (fun c13 => ?_)
    · replace h := it_t c13 h
      refine r_aload_n X 1 dX7_isOn_68 rfl rfl ?_
      refine r_getr X 6 39 in_X7 (ci := 6) rfl rfl (ltn hnc rfl) (Nat.le_of_ble_eq_true rfl) rfl w_615 dX7_isOn_69 (by decide) ?_
      refine r_iload_n X 0 dX7_isOn_72 rfl rfl ?_
      refine r_iconst X 2 dX7_isOn_73 rfl ?_
      refine r_iadd X dX7_isOn_74 ?_
      obtain ⟨c14, h⟩ := ck_ex h
      refine r_iald X (n := 125) rfl (Or.inl (ltn hnc rfl)) c14 dX7_isOn_75 ?_
      refine r_i2l X dX7_isOn_76 ?_
      refine r_aload_n X 1 dX7_isOn_77 rfl rfl ?_
      refine r_getr X 1 36 in_X7 (ci := 6) rfl rfl (ltn hnc rfl) (Nat.le_of_ble_eq_true rfl) rfl w_610 dX7_isOn_78 (by decide) ?_
      refine r_bipush X 16 dX7_isOn_81 rfl ?_
      refine r_iald X (n := 56) rfl (Or.inl (ltn hnc rfl)) (by decide) dX7_isOn_83 ?_
      refine r_i2l X dX7_isOn_84 ?_
      refine r_lsub X dX7_isOn_85 ?_
      refine r_aload_n X 1 dX7_isOn_86 rfl rfl ?_
      refine r_getr X 6 39 in_X7 (ci := 6) rfl rfl (ltn hnc rfl) (Nat.le_of_ble_eq_true rfl) rfl w_615 dX7_isOn_87 (by decide) ?_
      refine r_iload_n X 0 dX7_isOn_90 rfl rfl ?_
      refine r_iconst X 3 dX7_isOn_91 rfl ?_
      refine r_iadd X dX7_isOn_92 ?_
      obtain ⟨c15, h⟩ := ck_ex h
      refine r_iald X (n := 125) rfl (Or.inl (ltn hnc rfl)) c15 dX7_isOn_93 ?_
      refine r_i2l X dX7_isOn_94 ?_
      obtain ⟨r17, M16, h18, h⟩ := bd2_ex h
      refine r_callS X (st := []) (av := [.long ((Int32.toInt64 (M10.1 39 (ix (x1 + (2 : Int32))))) - (Int32.toInt64 (M10.1 36 (ix (16 : Int32))))), .long (Int32.toInt64 (M10.1 39 (ix (x1 + (3 : Int32)))))]) (k_X7_signOf l N _ hnc _ _ _ _ _ h18 d (by omega)) (fitR_s (Nat.le_of_ble_eq_true rfl)) ⟨Nat.le_refl 0, Nat.le_refl 0⟩ w_770 w_47 w_769 w_768 hy_X7_signOf rfl (Nat.le_of_ble_eq_true rfl) dX7_isOn_95 ?_
      refine r_iflt X 134 dX7_isOn_98 (by decide) (fun c19 => ?_) (fun c19 => ?_)
      · replace h := it_t c19 h
        refine r_iconst X 0 dX7_isOn_134 rfl ?_
        exact r_zretE X hr rfl dX7_isOn_135 h
      · replace h := it_f c19 h
        refine r_aload_n X 1 dX7_isOn_101 rfl rfl ?_
        refine r_getr X 6 39 in_X7 (ci := 6) rfl rfl (ltn hnc rfl) (Nat.le_of_ble_eq_true rfl) rfl w_615 dX7_isOn_102 (by decide) ?_
        refine r_iload_n X 0 dX7_isOn_105 rfl rfl ?_
        refine r_iconst X 2 dX7_isOn_106 rfl ?_
        refine r_iadd X dX7_isOn_107 ?_
        obtain ⟨c20, h⟩ := ck_ex h
        refine r_iald X (n := 125) rfl (Or.inl (ltn hnc rfl)) c20 dX7_isOn_108 ?_
        refine r_i2l X dX7_isOn_109 ?_
        refine r_aload_n X 1 dX7_isOn_110 rfl rfl ?_
        refine r_getr X 1 36 in_X7 (ci := 6) rfl rfl (ltn hnc rfl) (Nat.le_of_ble_eq_true rfl) rfl w_610 dX7_isOn_111 (by decide) ?_
        refine r_bipush X 17 dX7_isOn_114 rfl ?_
        refine r_iald X (n := 56) rfl (Or.inl (ltn hnc rfl)) (by decide) dX7_isOn_116 ?_
        refine r_i2l X dX7_isOn_117 ?_
        refine r_lsub X dX7_isOn_118 ?_
        refine r_aload_n X 1 dX7_isOn_119 rfl rfl ?_
        refine r_getr X 6 39 in_X7 (ci := 6) rfl rfl (ltn hnc rfl) (Nat.le_of_ble_eq_true rfl) rfl w_615 dX7_isOn_120 (by decide) ?_
        refine r_iload_n X 0 dX7_isOn_123 rfl rfl ?_
        refine r_iconst X 3 dX7_isOn_124 rfl ?_
        refine r_iadd X dX7_isOn_125 ?_
        obtain ⟨c21, h⟩ := ck_ex h
        refine r_iald X (n := 125) rfl (Or.inl (ltn hnc rfl)) c21 dX7_isOn_126 ?_
        refine r_i2l X dX7_isOn_127 ?_
        obtain ⟨r23, M22, h24, h⟩ := bd2_ex h
        refine r_callS X (st := []) (av := [.long ((Int32.toInt64 (M16.1 39 (ix (x1 + (2 : Int32))))) - (Int32.toInt64 (M16.1 36 (ix (17 : Int32))))), .long (Int32.toInt64 (M16.1 39 (ix (x1 + (3 : Int32)))))]) (k_X7_signOf l N _ hnc _ _ _ _ _ h24 d (by omega)) (fitR_s (Nat.le_of_ble_eq_true rfl)) ⟨Nat.le_refl 0, Nat.le_refl 0⟩ w_770 w_47 w_769 w_768 hy_X7_signOf rfl (Nat.le_of_ble_eq_true rfl) dX7_isOn_128 ?_
        refine r_ifle X 136 dX7_isOn_131 (by decide) (fun c25 => ?_) (fun c25 => ?_)
        · replace h := it_t c25 h
          refine r_aload_n X 1 dX7_isOn_136 rfl rfl ?_
          refine r_getr X 6 39 in_X7 (ci := 6) rfl rfl (ltn hnc rfl) (Nat.le_of_ble_eq_true rfl) rfl w_615 dX7_isOn_137 (by decide) ?_
          refine r_iload_n X 0 dX7_isOn_140 rfl rfl ?_
          refine r_iconst X 1 dX7_isOn_141 rfl ?_
          refine r_iadd X dX7_isOn_142 ?_
          obtain ⟨c26, h⟩ := ck_ex h
          refine r_iald X (n := 125) rfl (Or.inl (ltn hnc rfl)) c26 dX7_isOn_143 ?_
          refine r_ifne X 158 dX7_isOn_144 (by decide) (fun c27 => ?_) (fun c27 => ?_)
          · replace h := it_f c27 h
            refine r_iconst X 1 dX7_isOn_158 rfl ?_
            exact r_zretE X hr rfl dX7_isOn_159 h
          · replace h := it_t c27 h
            refine r_aload_n X 1 dX7_isOn_147 rfl rfl ?_
            refine r_getr X 6 39 in_X7 (ci := 6) rfl rfl (ltn hnc rfl) (Nat.le_of_ble_eq_true rfl) rfl w_615 dX7_isOn_148 (by decide) ?_
            refine r_iload_n X 0 dX7_isOn_151 rfl rfl ?_
            refine r_iconst X 3 dX7_isOn_152 rfl ?_
            refine r_iadd X dX7_isOn_153 ?_
            obtain ⟨c28, h⟩ := ck_ex h
            refine r_iald X (n := 125) rfl (Or.inl (ltn hnc rfl)) c28 dX7_isOn_154 ?_
            refine r_ifeq X 160 dX7_isOn_155 (by decide) (fun c29 => ?_) (fun c29 => ?_)
            · replace h := it_t c29 h
              refine r_iconst X 0 dX7_isOn_160 rfl ?_
              refine r_istore_n X [(3, .int (0 : Int32)), (2, .int x1), (0, .ref 34), (1, .int p0)] dX7_isOn_161 rfl (Nat.le_of_ble_eq_true rfl) rfl ?_
              refine r_sub (ls' := [(0, .ref 34), (2, .int x1), (3, .int (0 : Int32))]) [2, 1, 0] rfl ?_
              exact hl162  N M22 x1 (0 : Int32) h
            · replace h := it_f c29 h
              refine r_iconst X 1 dX7_isOn_158 rfl ?_
              exact r_zretE X hr rfl dX7_isOn_159 h
        · replace h := it_f c25 h
          refine r_iconst X 0 dX7_isOn_134 rfl ?_
          exact r_zretE X hr rfl dX7_isOn_135 h
    · replace h := it_f c13 h
      refine r_iconst X 0 dX7_isOn_66 rfl ?_
      exact r_zretE X hr rfl dX7_isOn_67 h
def l_X7_offOf_2 (N : Nat)    : Nat → Mem → Int32 → Option (Int32 × Mem)
  | 0, _, _ => none
  | n + 1, M, v1 =>
    if (M.1 34 8) < v1 then
      (some ((-9 : Int32), M))
    else
      (bd2 (f_X7_isOn N M v1) fun r3 M2 =>
      if r3 = 0 then
        (some (v1, M2))
      else
        (l_X7_offOf_2 N n M2 (v1 + 1)))
def f_X7_offOf (N : Nat) (M : Mem)  : Option (Int32 × Mem) :=
  l_X7_offOf_2 N N M (0 : Int32)
set_option maxRecDepth 100000 in
set_option maxHeartbeats 4000000 in
theorem k_X7_offOf (l : Launch) (N : Nat) (nc : Nat) (hnc : 45 ≤ nc) (M : Mem)  (r : Int32) (M' : Mem) (h : f_X7_offOf N M  = some (r, M')) (d : Nat) (hd : 2 ≤ d) : Ct l d yX7_offOf cX7_offOf 2 (some .int) shp nc [.ref 34] M (some (.int r)) M' := by
  obtain ⟨d, rfl⟩ : ∃ q, d = q + 1 := ⟨d - 1, by omega⟩
  unfold f_X7_offOf at h
  refine Ct.of (by decide +kernel) (Nat.le_of_ble_eq_true rfl) ?_
  intro p e s m args below meth c A ad D cI cJ X hr
  have hl2 : ∀ (n : Nat) (M : Mem) (v1 : Int32), l_X7_offOf_2 N n M v1 = some (r, M') → AW p l e (rmd (d + 1)) s m args below meth c 2 A ad D cI cJ shp nc 0 0 (MQ below (Qq A ad D cI cJ shp nc (some (.int r)) M') args s 0 0 A) M 2 [(0, .ref 34), (1, .int v1)] [] := by
    intro n
    induction n with
    | zero => intro M v1 h; cases h
    | succ n ih =>
      intro M v1 h
      rw [l_X7_offOf_2] at h
      refine r_iload_n X 1 dX7_offOf_2 rfl rfl ?_
      refine r_aload_n X 0 dX7_offOf_3 rfl rfl ?_
      refine r_geti X 8 in_X7 (ci := 6) rfl rfl (ltn hnc rfl) (Nat.le_of_ble_eq_true rfl) rfl w_617 dX7_offOf_4 ?_
      refine r_icgt X 26 dX7_offOf_7 (by decide) (fun c1 => ?_) (fun c1 => ?_)
      · replace h := it_t c1 h
        refine r_bipush X (-9) dX7_offOf_26 rfl ?_
        exact r_iretE X hr dX7_offOf_28 h
      · replace h := it_f c1 h
        refine r_aload_n X 0 dX7_offOf_10 rfl rfl ?_
        refine r_iload_n X 1 dX7_offOf_11 rfl rfl ?_
        obtain ⟨r3, M2, h4, h⟩ := bd2_ex h
        refine r_callV X (st := []) (av := [.int v1]) (k := 34) (ci := 6) (k_X7_isOn l N _ hnc _ _ _ _ h4 d (by omega)) (fitR_s (Nat.le_of_ble_eq_true rfl)) ⟨Nat.le_refl 0, Nat.le_refl 0⟩ rfl (ltn hnc rfl) rfl w_803 w_47 w_802 w_27 w_800 hy_X7_isOn rfl (Nat.le_of_ble_eq_true rfl) dX7_offOf_12 ?_
        refine r_ifne X 20 dX7_offOf_15 (by decide) (fun c5 => ?_) (fun c5 => ?_)
        · replace h := it_f c5 h
          refine r_iinc X [(1, .int (v1 + 1)), (0, .ref 34)] 1 (v1 + 1) dX7_offOf_20 rfl rfl (Nat.le_of_ble_eq_true rfl) rfl ?_
          refine r_goto X 2 dX7_offOf_23 (by decide) ?_
          refine r_sub (ls' := [(0, .ref 34), (1, .int (v1 + 1))]) [1, 0] rfl ?_
          exact ih M2 (v1 + 1) h
        · replace h := it_t c5 h
          refine r_iload_n X 1 dX7_offOf_18 rfl rfl ?_
          exact r_iretE X hr dX7_offOf_19 h
  refine r_sub (ls' := [(0, .ref 34)]) [0] rfl ?_
  refine r_iconst X 0 dX7_offOf_0 rfl ?_
  refine r_istore_n X [(1, .int (0 : Int32)), (0, .ref 34)] dX7_offOf_1 rfl (Nat.le_of_ble_eq_true rfl) rfl ?_
  refine r_sub (ls' := [(0, .ref 34), (1, .int (0 : Int32))]) [1, 0] rfl ?_
  exact hl2  N M (0 : Int32) h
def f_X7_off (N : Nat) (M : Mem)  : Option (Int32 × Mem) :=
  bd (f_X7_takes N M ) fun M1 =>
  bd2 (f_X7_offOf N M1 ) fun r4 M3 =>
  some (r4, M3)
set_option maxRecDepth 100000 in
set_option maxHeartbeats 4000000 in
theorem k_X7_off (l : Launch) (N : Nat) (nc : Nat) (hnc : 45 ≤ nc) (M : Mem)  (r : Int32) (M' : Mem) (h : f_X7_off N M  = some (r, M')) (d : Nat) (hd : 4 ≤ d) : Ct l d yX7_off cX7_off 1 (some .int) shp nc [.ref 34] M (some (.int r)) M' := by
  obtain ⟨d, rfl⟩ : ∃ q, d = q + 1 := ⟨d - 1, by omega⟩
  unfold f_X7_off at h
  refine Ct.of (by decide +kernel) (Nat.le_of_ble_eq_true rfl) ?_
  intro p e s m args below meth c A ad D cI cJ X hr
  refine r_sub (ls' := [(0, .ref 34)]) [0] rfl ?_
  refine r_aload_n X 0 dX7_off_0 rfl rfl ?_
  obtain ⟨M1, h2, h⟩ := bd_ex h
  refine r_callV X (st := []) (av := []) (k := 34) (ci := 6) (k_X7_takes l N _ hnc _  _ h2 d (by omega)) (fitR_s (Nat.le_of_ble_eq_true rfl)) ⟨Nat.le_refl 0, Nat.le_refl 0⟩ rfl (ltn hnc rfl) rfl w_724 w_47 w_723 w_19 w_721 hy_X7_takes rfl (Nat.le_of_ble_eq_true rfl) dX7_off_1 ?_
  refine r_aload_n X 0 dX7_off_4 rfl rfl ?_
  obtain ⟨r4, M3, h5, h⟩ := bd2_ex h
  refine r_callV X (st := []) (av := []) (k := 34) (ci := 6) (k_X7_offOf l N _ hnc _  _ _ h5 d (by omega)) (fitR_s (Nat.le_of_ble_eq_true rfl)) ⟨Nat.le_refl 0, Nat.le_refl 0⟩ rfl (ltn hnc rfl) rfl w_799 w_47 w_798 w_26 w_796 hy_X7_offOf rfl (Nat.le_of_ble_eq_true rfl) dX7_off_5 ?_
  exact r_iretE X hr dX7_off_8 h
def f_X5_areCrossings (N : Nat) (M : Mem) (p0 : Int32) (p1 : Int32) : Option (Int32 × Mem) :=
  if p1 ≤ 0 then
    (some ((0 : Int32), M))
  else
    (bd2 (f_X6_at shp N M 20 (p0 - (1 : Int32))) fun r3 M2 =>
    if r3 = (9 : Int32) then
      (bd2 (f_X6_at shp N M2 20 (p1 - (1 : Int32))) fun r7 M6 =>
      if r7 = (9 : Int32) then
        (some ((1 : Int32), M6))
      else
        (some ((0 : Int32), M6)))
    else
      (some ((0 : Int32), M2)))
set_option maxRecDepth 100000 in
set_option maxHeartbeats 4000000 in
theorem k_X5_areCrossings (l : Launch) (N : Nat) (nc : Nat) (hnc : 34 ≤ nc) (M : Mem) (p0 : Int32) (p1 : Int32) (r : Int32) (M' : Mem) (h : f_X5_areCrossings N M p0 p1 = some (r, M')) (d : Nat) (hd : 1 ≤ d) : Ct l d yX5_areCrossings cX5_areCrossings 3 (some .boolean) shp nc [.ref 17, .int p0, .int p1] M (some (.int r)) M' := by
  obtain ⟨d, rfl⟩ : ∃ q, d = q + 1 := ⟨d - 1, by omega⟩
  unfold f_X5_areCrossings at h
  refine Ct.of (by decide +kernel) (Nat.le_of_ble_eq_true rfl) ?_
  intro p e s m args below meth c A ad D cI cJ X hr
  refine r_sub (ls' := [(0, .ref 17), (1, .int p0), (2, .int p1)]) [0, 1, 2] rfl ?_
  refine r_iload_n X 2 dX5_areCrossings_0 rfl rfl ?_
  refine r_ifle X 38 dX5_areCrossings_1 (by decide) (fun c1 => ?_) (fun c1 => ?_)
  · replace h := it_t c1 h
    refine r_iconst X 0 dX5_areCrossings_38 rfl ?_
    exact r_zretE X hr rfl dX5_areCrossings_39 h
  · replace h := it_f c1 h
    refine r_aload_n X 0 dX5_areCrossings_4 rfl rfl ?_
    refine r_getr X 3 20 in_X5 (ci := 4) rfl rfl (ltn hnc rfl) (Nat.le_of_ble_eq_true rfl) rfl w_132 dX5_areCrossings_5 (by decide) ?_
    refine r_iload_n X 1 dX5_areCrossings_8 rfl rfl ?_
    refine r_iconst X 1 dX5_areCrossings_9 rfl ?_
    refine r_isub X dX5_areCrossings_10 ?_
    obtain ⟨r3, M2, h4, h⟩ := bd2_ex h
    refine r_callSN X (st := []) (av := [.ref 20, .int (p0 - (1 : Int32))]) (k_X6_at l N _ _ _ _ _ (Or.inl (ltn hnc rfl)) _ _ h4 d (by omega)) (fitR_s (Nat.le_of_ble_eq_true rfl)) ⟨Nat.le_refl 0, Nat.le_refl 0⟩ w_71 w_39 w_70 w_336 hy_X6_at rfl (Nat.le_of_ble_eq_true rfl) dX5_areCrossings_11 ?_
    refine r_bipush X 9 dX5_areCrossings_14 rfl ?_
    refine r_icne X 38 dX5_areCrossings_16 (by decide) (fun c5 => ?_) (fun c5 => ?_)
    · replace h := it_f c5 h
      refine r_iconst X 0 dX5_areCrossings_38 rfl ?_
      exact r_zretE X hr rfl dX5_areCrossings_39 h
    · replace h := it_t c5 h
      refine r_aload_n X 0 dX5_areCrossings_19 rfl rfl ?_
      refine r_getr X 3 20 in_X5 (ci := 4) rfl rfl (ltn hnc rfl) (Nat.le_of_ble_eq_true rfl) rfl w_132 dX5_areCrossings_20 (by decide) ?_
      refine r_iload_n X 2 dX5_areCrossings_23 rfl rfl ?_
      refine r_iconst X 1 dX5_areCrossings_24 rfl ?_
      refine r_isub X dX5_areCrossings_25 ?_
      obtain ⟨r7, M6, h8, h⟩ := bd2_ex h
      refine r_callSN X (st := []) (av := [.ref 20, .int (p1 - (1 : Int32))]) (k_X6_at l N _ _ _ _ _ (Or.inl (ltn hnc rfl)) _ _ h8 d (by omega)) (fitR_s (Nat.le_of_ble_eq_true rfl)) ⟨Nat.le_refl 0, Nat.le_refl 0⟩ w_71 w_39 w_70 w_336 hy_X6_at rfl (Nat.le_of_ble_eq_true rfl) dX5_areCrossings_26 ?_
      refine r_bipush X 9 dX5_areCrossings_29 rfl ?_
      refine r_icne X 38 dX5_areCrossings_31 (by decide) (fun c9 => ?_) (fun c9 => ?_)
      · replace h := it_f c9 h
        refine r_iconst X 0 dX5_areCrossings_38 rfl ?_
        exact r_zretE X hr rfl dX5_areCrossings_39 h
      · replace h := it_t c9 h
        refine r_iconst X 1 dX5_areCrossings_34 rfl ?_
        refine r_goto X 39 dX5_areCrossings_35 (by decide) ?_
        exact r_zretE X hr rfl dX5_areCrossings_39 h
def l_X5_firstTouch_17 (N : Nat)  (K7 : Mem → Int32 → Int32 → Option (Int32 × Mem))  : Nat → Mem → Int32 → Int32 → Int32 → Option (Int32 × Mem)
  | 0, _, _, _, _ => none
  | n + 1, M, v1, v2, v3 =>
    if v2 ≤ v3 then
      (K7 M v1 (v2 + 1))
    else
      (bd2 (f_X6_placeAt shp N M 18 v2) fun r7 M6 =>
      bd2 (f_X6_placeAt shp N M6 18 v3) fun r10 M9 =>
      if (lg_cmp r7 r10) = 0 then
        (if v1 = 0 then
          (bd2 (f_X5_areCrossings N M9 v2 v3) fun r24 M23 =>
          if r24 = 0 then
            (some (v2, M23))
          else
            (l_X5_firstTouch_17 N K7 n M23 v1 v2 (v3 + 1)))
        else
          (if v2 = (M9.1 17 4) then
            (if v3 = 0 then
              (l_X5_firstTouch_17 N K7 n M9 v1 v2 (v3 + 1))
            else
              (bd2 (f_X5_areCrossings N M9 v2 v3) fun r38 M37 =>
              if r38 = 0 then
                (some (v2, M37))
              else
                (l_X5_firstTouch_17 N K7 n M37 v1 v2 (v3 + 1))))
          else
            (bd2 (f_X5_areCrossings N M9 v2 v3) fun r31 M30 =>
            if r31 = 0 then
              (some (v2, M30))
            else
              (l_X5_firstTouch_17 N K7 n M30 v1 v2 (v3 + 1)))))
      else
        (if v1 = 0 then
          (l_X5_firstTouch_17 N K7 n M9 v1 v2 (v3 + 1))
        else
          (if v2 = (M9.1 17 4) then
            (if v3 = 0 then
              (l_X5_firstTouch_17 N K7 n M9 v1 v2 (v3 + 1))
            else
              (l_X5_firstTouch_17 N K7 n M9 v1 v2 (v3 + 1)))
          else
            (l_X5_firstTouch_17 N K7 n M9 v1 v2 (v3 + 1)))))
def l_X5_firstTouch_7 (N : Nat)    : Nat → Mem → Int32 → Int32 → Option (Int32 × Mem)
  | 0, _, _, _ => none
  | n + 1, M, v1, v2 =>
    if (M.1 17 4) < v2 then
      (some ((-9 : Int32), M))
    else
      (l_X5_firstTouch_17 N (l_X5_firstTouch_7 N n) N M v1 v2 (0 : Int32))
def f_X5_firstTouch (N : Nat) (M : Mem)  : Option (Int32 × Mem) :=
  bd2 (f_X5_isClosed N M ) fun r2 M1 =>
  l_X5_firstTouch_7 N N M1 r2 (1 : Int32)
set_option maxRecDepth 100000 in
set_option maxHeartbeats 4000000 in
theorem k_X5_firstTouch (l : Launch) (N : Nat) (nc : Nat) (hnc : 34 ≤ nc) (M : Mem)  (r : Int32) (M' : Mem) (h : f_X5_firstTouch N M  = some (r, M')) (d : Nat) (hd : 3 ≤ d) : Ct l d yX5_firstTouch cX5_firstTouch 6 (some .int) shp nc [.ref 17] M (some (.int r)) M' := by
  obtain ⟨d, rfl⟩ : ∃ q, d = q + 1 := ⟨d - 1, by omega⟩
  unfold f_X5_firstTouch at h
  refine Ct.of (by decide +kernel) (Nat.le_of_ble_eq_true rfl) ?_
  intro p e s m args below meth c A ad D cI cJ X hr
  have hl17 : ∀ (K7 : Mem → Int32 → Int32 → Option (Int32 × Mem)), (∀ (M : Mem) (v1 : Int32) (v2 : Int32), K7 M v1 v2 = some (r, M') → AW p l e (rmd (d + 1)) s m args below meth c 6 A ad D cI cJ shp nc 0 0 (MQ below (Qq A ad D cI cJ shp nc (some (.int r)) M') args s 0 0 A) M 7 [(0, .ref 17), (1, .int v1), (2, .int v2)] []) → ∀ (n : Nat) (M : Mem) (v1 : Int32) (v2 : Int32) (v3 : Int32), l_X5_firstTouch_17 N K7 n M v1 v2 v3 = some (r, M') → AW p l e (rmd (d + 1)) s m args below meth c 6 A ad D cI cJ shp nc 0 0 (MQ below (Qq A ad D cI cJ shp nc (some (.int r)) M') args s 0 0 A) M 17 [(0, .ref 17), (1, .int v1), (2, .int v2), (3, .int v3)] [] := by
    intro K7 hK7
    intro n
    induction n with
    | zero => intro M v1 v2 v3 h; cases h
    | succ n ih =>
      intro M v1 v2 v3 h
      rw [l_X5_firstTouch_17] at h
      refine r_iload_n X 3 dX5_firstTouch_17 rfl rfl ?_
      refine r_iload_n X 2 dX5_firstTouch_18 rfl rfl ?_
      refine r_icge X 99 dX5_firstTouch_19 (by decide) (fun c5 => ?_) (fun c5 => ?_)
      · replace h := it_t c5 h
        refine r_iinc X [(2, .int (v2 + 1)), (0, .ref 17), (1, .int v1), (3, .int v3)] 2 (v2 + 1) dX5_firstTouch_99 rfl rfl (Nat.le_of_ble_eq_true rfl) rfl ?_
        refine r_goto X 7 dX5_firstTouch_102 (by decide) ?_
        refine r_sub (ls' := [(0, .ref 17), (1, .int v1), (2, .int (v2 + 1))]) [1, 2, 0] rfl ?_
        exact hK7 M v1 (v2 + 1) h
      · replace h := it_f c5 h
        refine r_aload_n X 0 dX5_firstTouch_22 rfl rfl ?_
        refine r_getr X 1 18 in_X5 (ci := 4) rfl rfl (ltn hnc rfl) (Nat.le_of_ble_eq_true rfl) rfl w_127 dX5_firstTouch_23 (by decide) ?_
        refine r_iload_n X 2 dX5_firstTouch_26 rfl rfl ?_
        obtain ⟨r7, M6, h8, h⟩ := bd2_ex h
        refine r_callSN X (st := []) (av := [.ref 18, .int v2]) (k_X6_placeAt l N _ _ _ _ _ (Or.inl (ltn hnc rfl)) _ _ h8 d (by omega)) (fitR_s (Nat.le_of_ble_eq_true rfl)) ⟨Nat.le_refl 0, Nat.le_refl 0⟩ w_343 w_39 w_342 w_365 hy_X6_placeAt rfl (Nat.le_of_ble_eq_true rfl) dX5_firstTouch_27 ?_
        refine r_aload_n X 0 dX5_firstTouch_30 rfl rfl ?_
        refine r_getr X 1 18 in_X5 (ci := 4) rfl rfl (ltn hnc rfl) (Nat.le_of_ble_eq_true rfl) rfl w_127 dX5_firstTouch_31 (by decide) ?_
        refine r_iload_n X 3 dX5_firstTouch_34 rfl rfl ?_
        obtain ⟨r10, M9, h11, h⟩ := bd2_ex h
        refine r_callSN X (st := [.long r7]) (av := [.ref 18, .int v3]) (k_X6_placeAt l N _ _ _ _ _ (Or.inl (ltn hnc rfl)) _ _ h11 d (by omega)) (fitR_s (Nat.le_of_ble_eq_true rfl)) ⟨Nat.le_refl 0, Nat.le_refl 0⟩ w_343 w_39 w_342 w_365 hy_X6_placeAt rfl (Nat.le_of_ble_eq_true rfl) dX5_firstTouch_35 ?_
        refine r_lcmp X dX5_firstTouch_38 ?_
        refine r_ifne X 46 dX5_firstTouch_39 (by decide) (fun c12 => ?_) (fun c12 => ?_)
        · replace h := it_f c12 h
          refine r_iconst X 0 dX5_firstTouch_46 rfl ?_
          refine r_istore X [(4, .int (0 : Int32)), (0, .ref 17), (1, .int v1), (2, .int v2), (3, .int v3)] dX5_firstTouch_47 (Nat.le_of_ble_eq_true rfl) rfl ?_
          refine r_iload_n X 2 dX5_firstTouch_49 rfl rfl ?_
          refine r_ifeq X 69 dX5_firstTouch_50 (by decide) (fun c13 => ?_) (fun c13 => ?_)
          · replace h := it_t c13 h
            refine r_iconst X 0 dX5_firstTouch_69 rfl ?_
            refine r_istore X [(5, .int (0 : Int32)), (4, .int (0 : Int32)), (0, .ref 17), (1, .int v1), (2, .int v2), (3, .int v3)] dX5_firstTouch_70 (Nat.le_of_ble_eq_true rfl) rfl ?_
            refine r_iload X 1 dX5_firstTouch_72 rfl ?_
            refine r_ifeq X 93 dX5_firstTouch_74 (by decide) (fun c14 => ?_) (fun c14 => ?_)
            rotate_left
            · exact absurd c14 (by decide)
            refine r_iinc X [(3, .int (v3 + 1)), (5, .int (0 : Int32)), (4, .int (0 : Int32)), (0, .ref 17), (1, .int v1), (2, .int v2)] 5 (v3 + 1) dX5_firstTouch_93 rfl rfl (Nat.le_of_ble_eq_true rfl) rfl ?_
            refine r_goto X 17 dX5_firstTouch_96 (by decide) ?_
            refine r_sub (ls' := [(0, .ref 17), (1, .int v1), (2, .int v2), (3, .int (v3 + 1))]) [3, 4, 5, 0] rfl ?_
            exact ih M9 v1 v2 (v3 + 1) h
          · replace h := it_f c13 h
            refine r_iload_n X 3 dX5_firstTouch_53 rfl rfl ?_
            refine r_aload_n X 1 dX5_firstTouch_54 rfl rfl ?_
            refine r_geti X 4 in_X5 (ci := 4) rfl rfl (ltn hnc rfl) (Nat.le_of_ble_eq_true rfl) rfl w_133 dX5_firstTouch_55 ?_
            refine r_icne X 69 dX5_firstTouch_58 (by decide) (fun c15 => ?_) (fun c15 => ?_)
            · replace h := it_f c15 h
              refine r_iconst X 0 dX5_firstTouch_69 rfl ?_
              refine r_istore X [(5, .int (0 : Int32)), (4, .int (0 : Int32)), (0, .ref 17), (1, .int v1), (2, .int v2), (3, .int v3)] dX5_firstTouch_70 (Nat.le_of_ble_eq_true rfl) rfl ?_
              refine r_iload X 1 dX5_firstTouch_72 rfl ?_
              refine r_ifeq X 93 dX5_firstTouch_74 (by decide) (fun c16 => ?_) (fun c16 => ?_)
              rotate_left
              · exact absurd c16 (by decide)
              refine r_iinc X [(3, .int (v3 + 1)), (5, .int (0 : Int32)), (4, .int (0 : Int32)), (0, .ref 17), (1, .int v1), (2, .int v2)] 5 (v3 + 1) dX5_firstTouch_93 rfl rfl (Nat.le_of_ble_eq_true rfl) rfl ?_
              refine r_goto X 17 dX5_firstTouch_96 (by decide) ?_
              refine r_sub (ls' := [(0, .ref 17), (1, .int v1), (2, .int v2), (3, .int (v3 + 1))]) [3, 4, 5, 0] rfl ?_
              exact ih M9 v1 v2 (v3 + 1) h
            · replace h := it_t c15 h
              refine r_iload_n X 4 dX5_firstTouch_61 rfl rfl ?_
              refine r_ifne X 69 dX5_firstTouch_62 (by decide) (fun c17 => ?_) (fun c17 => ?_)
              · replace h := it_f c17 h
                refine r_iconst X 0 dX5_firstTouch_69 rfl ?_
                refine r_istore X [(5, .int (0 : Int32)), (4, .int (0 : Int32)), (0, .ref 17), (1, .int v1), (2, .int v2), (3, .int v3)] dX5_firstTouch_70 (Nat.le_of_ble_eq_true rfl) rfl ?_
                refine r_iload X 1 dX5_firstTouch_72 rfl ?_
                refine r_ifeq X 93 dX5_firstTouch_74 (by decide) (fun c18 => ?_) (fun c18 => ?_)
                rotate_left
                · exact absurd c18 (by decide)
                refine r_iinc X [(3, .int (v3 + 1)), (5, .int (0 : Int32)), (4, .int (0 : Int32)), (0, .ref 17), (1, .int v1), (2, .int v2)] 5 (v3 + 1) dX5_firstTouch_93 rfl rfl (Nat.le_of_ble_eq_true rfl) rfl ?_
                refine r_goto X 17 dX5_firstTouch_96 (by decide) ?_
                refine r_sub (ls' := [(0, .ref 17), (1, .int v1), (2, .int v2), (3, .int (v3 + 1))]) [3, 4, 5, 0] rfl ?_
                exact ih M9 v1 v2 (v3 + 1) h
              · replace h := it_t c17 h
                refine r_iconst X 1 dX5_firstTouch_65 rfl ?_
                refine r_goto X 70 dX5_firstTouch_66 (by decide) ?_
                refine r_istore X [(5, .int (1 : Int32)), (4, .int (0 : Int32)), (0, .ref 17), (1, .int v1), (2, .int v2), (3, .int v3)] dX5_firstTouch_70 (Nat.le_of_ble_eq_true rfl) rfl ?_
                refine r_iload X 1 dX5_firstTouch_72 rfl ?_
                refine r_ifeq X 93 dX5_firstTouch_74 (by decide) (fun c19 => ?_) (fun c19 => ?_)
                rotate_left
                · exact absurd c19 (by decide)
                refine r_iinc X [(3, .int (v3 + 1)), (5, .int (1 : Int32)), (4, .int (0 : Int32)), (0, .ref 17), (1, .int v1), (2, .int v2)] 5 (v3 + 1) dX5_firstTouch_93 rfl rfl (Nat.le_of_ble_eq_true rfl) rfl ?_
                refine r_goto X 17 dX5_firstTouch_96 (by decide) ?_
                refine r_sub (ls' := [(0, .ref 17), (1, .int v1), (2, .int v2), (3, .int (v3 + 1))]) [3, 4, 5, 0] rfl ?_
                exact ih M9 v1 v2 (v3 + 1) h
        · replace h := it_t c12 h
          refine r_iconst X 1 dX5_firstTouch_42 rfl ?_
          refine r_goto X 47 dX5_firstTouch_43 (by decide) ?_
          refine r_istore X [(4, .int (1 : Int32)), (0, .ref 17), (1, .int v1), (2, .int v2), (3, .int v3)] dX5_firstTouch_47 (Nat.le_of_ble_eq_true rfl) rfl ?_
          refine r_iload_n X 2 dX5_firstTouch_49 rfl rfl ?_
          refine r_ifeq X 69 dX5_firstTouch_50 (by decide) (fun c20 => ?_) (fun c20 => ?_)
          · replace h := it_t c20 h
            refine r_iconst X 0 dX5_firstTouch_69 rfl ?_
            refine r_istore X [(5, .int (0 : Int32)), (4, .int (1 : Int32)), (0, .ref 17), (1, .int v1), (2, .int v2), (3, .int v3)] dX5_firstTouch_70 (Nat.le_of_ble_eq_true rfl) rfl ?_
            refine r_iload X 1 dX5_firstTouch_72 rfl ?_
            refine r_ifeq X 93 dX5_firstTouch_74 (by decide) (fun c21 => ?_) (fun c21 => ?_)
            · exact absurd c21 (by decide)
            refine r_iload X 0 dX5_firstTouch_77 rfl ?_
            refine r_ifne X 93 dX5_firstTouch_79 (by decide) (fun c22 => ?_) (fun c22 => ?_)
            · exact absurd c22 (by decide)
            refine r_aload_n X 2 dX5_firstTouch_82 rfl rfl ?_
            refine r_iload_n X 4 dX5_firstTouch_83 rfl rfl ?_
            refine r_iload_n X 5 dX5_firstTouch_84 rfl rfl ?_
            obtain ⟨r24, M23, h25, h⟩ := bd2_ex h
            refine r_callV X (st := []) (av := [.int v2, .int v3]) (k := 17) (ci := 4) (k_X5_areCrossings l N _ hnc _ _ _ _ _ h25 d (by omega)) (fitR_s (Nat.le_of_ble_eq_true rfl)) ⟨Nat.le_refl 0, Nat.le_refl 0⟩ rfl (ltn hnc rfl) rfl w_450 w_42 w_449 w_6 w_447 hy_X5_areCrossings rfl (Nat.le_of_ble_eq_true rfl) dX5_firstTouch_85 ?_
            refine r_ifne X 93 dX5_firstTouch_88 (by decide) (fun c26 => ?_) (fun c26 => ?_)
            · replace h := it_f c26 h
              refine r_iinc X [(3, .int (v3 + 1)), (5, .int (0 : Int32)), (4, .int (1 : Int32)), (0, .ref 17), (1, .int v1), (2, .int v2)] 5 (v3 + 1) dX5_firstTouch_93 rfl rfl (Nat.le_of_ble_eq_true rfl) rfl ?_
              refine r_goto X 17 dX5_firstTouch_96 (by decide) ?_
              refine r_sub (ls' := [(0, .ref 17), (1, .int v1), (2, .int v2), (3, .int (v3 + 1))]) [3, 4, 5, 0] rfl ?_
              exact ih M23 v1 v2 (v3 + 1) h
            · replace h := it_t c26 h
              refine r_iload_n X 4 dX5_firstTouch_91 rfl rfl ?_
              exact r_iretE X hr dX5_firstTouch_92 h
          · replace h := it_f c20 h
            refine r_iload_n X 3 dX5_firstTouch_53 rfl rfl ?_
            refine r_aload_n X 1 dX5_firstTouch_54 rfl rfl ?_
            refine r_geti X 4 in_X5 (ci := 4) rfl rfl (ltn hnc rfl) (Nat.le_of_ble_eq_true rfl) rfl w_133 dX5_firstTouch_55 ?_
            refine r_icne X 69 dX5_firstTouch_58 (by decide) (fun c27 => ?_) (fun c27 => ?_)
            · replace h := it_f c27 h
              refine r_iconst X 0 dX5_firstTouch_69 rfl ?_
              refine r_istore X [(5, .int (0 : Int32)), (4, .int (1 : Int32)), (0, .ref 17), (1, .int v1), (2, .int v2), (3, .int v3)] dX5_firstTouch_70 (Nat.le_of_ble_eq_true rfl) rfl ?_
              refine r_iload X 1 dX5_firstTouch_72 rfl ?_
              refine r_ifeq X 93 dX5_firstTouch_74 (by decide) (fun c28 => ?_) (fun c28 => ?_)
              · exact absurd c28 (by decide)
              refine r_iload X 0 dX5_firstTouch_77 rfl ?_
              refine r_ifne X 93 dX5_firstTouch_79 (by decide) (fun c29 => ?_) (fun c29 => ?_)
              · exact absurd c29 (by decide)
              refine r_aload_n X 2 dX5_firstTouch_82 rfl rfl ?_
              refine r_iload_n X 4 dX5_firstTouch_83 rfl rfl ?_
              refine r_iload_n X 5 dX5_firstTouch_84 rfl rfl ?_
              obtain ⟨r31, M30, h32, h⟩ := bd2_ex h
              refine r_callV X (st := []) (av := [.int v2, .int v3]) (k := 17) (ci := 4) (k_X5_areCrossings l N _ hnc _ _ _ _ _ h32 d (by omega)) (fitR_s (Nat.le_of_ble_eq_true rfl)) ⟨Nat.le_refl 0, Nat.le_refl 0⟩ rfl (ltn hnc rfl) rfl w_450 w_42 w_449 w_6 w_447 hy_X5_areCrossings rfl (Nat.le_of_ble_eq_true rfl) dX5_firstTouch_85 ?_
              refine r_ifne X 93 dX5_firstTouch_88 (by decide) (fun c33 => ?_) (fun c33 => ?_)
              · replace h := it_f c33 h
                refine r_iinc X [(3, .int (v3 + 1)), (5, .int (0 : Int32)), (4, .int (1 : Int32)), (0, .ref 17), (1, .int v1), (2, .int v2)] 5 (v3 + 1) dX5_firstTouch_93 rfl rfl (Nat.le_of_ble_eq_true rfl) rfl ?_
                refine r_goto X 17 dX5_firstTouch_96 (by decide) ?_
                refine r_sub (ls' := [(0, .ref 17), (1, .int v1), (2, .int v2), (3, .int (v3 + 1))]) [3, 4, 5, 0] rfl ?_
                exact ih M30 v1 v2 (v3 + 1) h
              · replace h := it_t c33 h
                refine r_iload_n X 4 dX5_firstTouch_91 rfl rfl ?_
                exact r_iretE X hr dX5_firstTouch_92 h
            · replace h := it_t c27 h
              refine r_iload_n X 4 dX5_firstTouch_61 rfl rfl ?_
              refine r_ifne X 69 dX5_firstTouch_62 (by decide) (fun c34 => ?_) (fun c34 => ?_)
              · replace h := it_f c34 h
                refine r_iconst X 0 dX5_firstTouch_69 rfl ?_
                refine r_istore X [(5, .int (0 : Int32)), (4, .int (1 : Int32)), (0, .ref 17), (1, .int v1), (2, .int v2), (3, .int v3)] dX5_firstTouch_70 (Nat.le_of_ble_eq_true rfl) rfl ?_
                refine r_iload X 1 dX5_firstTouch_72 rfl ?_
                refine r_ifeq X 93 dX5_firstTouch_74 (by decide) (fun c35 => ?_) (fun c35 => ?_)
                · exact absurd c35 (by decide)
                refine r_iload X 0 dX5_firstTouch_77 rfl ?_
                refine r_ifne X 93 dX5_firstTouch_79 (by decide) (fun c36 => ?_) (fun c36 => ?_)
                · exact absurd c36 (by decide)
                refine r_aload_n X 2 dX5_firstTouch_82 rfl rfl ?_
                refine r_iload_n X 4 dX5_firstTouch_83 rfl rfl ?_
                refine r_iload_n X 5 dX5_firstTouch_84 rfl rfl ?_
                obtain ⟨r38, M37, h39, h⟩ := bd2_ex h
                refine r_callV X (st := []) (av := [.int v2, .int v3]) (k := 17) (ci := 4) (k_X5_areCrossings l N _ hnc _ _ _ _ _ h39 d (by omega)) (fitR_s (Nat.le_of_ble_eq_true rfl)) ⟨Nat.le_refl 0, Nat.le_refl 0⟩ rfl (ltn hnc rfl) rfl w_450 w_42 w_449 w_6 w_447 hy_X5_areCrossings rfl (Nat.le_of_ble_eq_true rfl) dX5_firstTouch_85 ?_
                refine r_ifne X 93 dX5_firstTouch_88 (by decide) (fun c40 => ?_) (fun c40 => ?_)
                · replace h := it_f c40 h
                  refine r_iinc X [(3, .int (v3 + 1)), (5, .int (0 : Int32)), (4, .int (1 : Int32)), (0, .ref 17), (1, .int v1), (2, .int v2)] 5 (v3 + 1) dX5_firstTouch_93 rfl rfl (Nat.le_of_ble_eq_true rfl) rfl ?_
                  refine r_goto X 17 dX5_firstTouch_96 (by decide) ?_
                  refine r_sub (ls' := [(0, .ref 17), (1, .int v1), (2, .int v2), (3, .int (v3 + 1))]) [3, 4, 5, 0] rfl ?_
                  exact ih M37 v1 v2 (v3 + 1) h
                · replace h := it_t c40 h
                  refine r_iload_n X 4 dX5_firstTouch_91 rfl rfl ?_
                  exact r_iretE X hr dX5_firstTouch_92 h
              · replace h := it_t c34 h
                refine r_iconst X 1 dX5_firstTouch_65 rfl ?_
                refine r_goto X 70 dX5_firstTouch_66 (by decide) ?_
                refine r_istore X [(5, .int (1 : Int32)), (4, .int (1 : Int32)), (0, .ref 17), (1, .int v1), (2, .int v2), (3, .int v3)] dX5_firstTouch_70 (Nat.le_of_ble_eq_true rfl) rfl ?_
                refine r_iload X 1 dX5_firstTouch_72 rfl ?_
                refine r_ifeq X 93 dX5_firstTouch_74 (by decide) (fun c41 => ?_) (fun c41 => ?_)
                · exact absurd c41 (by decide)
                refine r_iload X 0 dX5_firstTouch_77 rfl ?_
                refine r_ifne X 93 dX5_firstTouch_79 (by decide) (fun c42 => ?_) (fun c42 => ?_)
                rotate_left
                · exact absurd c42 (by decide)
                refine r_iinc X [(3, .int (v3 + 1)), (5, .int (1 : Int32)), (4, .int (1 : Int32)), (0, .ref 17), (1, .int v1), (2, .int v2)] 5 (v3 + 1) dX5_firstTouch_93 rfl rfl (Nat.le_of_ble_eq_true rfl) rfl ?_
                refine r_goto X 17 dX5_firstTouch_96 (by decide) ?_
                refine r_sub (ls' := [(0, .ref 17), (1, .int v1), (2, .int v2), (3, .int (v3 + 1))]) [3, 4, 5, 0] rfl ?_
                exact ih M9 v1 v2 (v3 + 1) h
  have hl7 : ∀ (n : Nat) (M : Mem) (v1 : Int32) (v2 : Int32), l_X5_firstTouch_7 N n M v1 v2 = some (r, M') → AW p l e (rmd (d + 1)) s m args below meth c 6 A ad D cI cJ shp nc 0 0 (MQ below (Qq A ad D cI cJ shp nc (some (.int r)) M') args s 0 0 A) M 7 [(0, .ref 17), (1, .int v1), (2, .int v2)] [] := by
    intro n
    induction n with
    | zero => intro M v1 v2 h; cases h
    | succ n ih =>
      intro M v1 v2 h
      rw [l_X5_firstTouch_7] at h
      refine r_iload_n X 2 dX5_firstTouch_7 rfl rfl ?_
      refine r_aload_n X 0 dX5_firstTouch_8 rfl rfl ?_
      refine r_geti X 4 in_X5 (ci := 4) rfl rfl (ltn hnc rfl) (Nat.le_of_ble_eq_true rfl) rfl w_133 dX5_firstTouch_9 ?_
      refine r_icgt X 105 dX5_firstTouch_12 (by decide) (fun c4 => ?_) (fun c4 => ?_)
      · replace h := it_t c4 h
        refine r_bipush X (-9) dX5_firstTouch_105 rfl ?_
        exact r_iretE X hr dX5_firstTouch_107 h
      · replace h := it_f c4 h
        refine r_iconst X 0 dX5_firstTouch_15 rfl ?_
        refine r_istore_n X [(3, .int (0 : Int32)), (0, .ref 17), (1, .int v1), (2, .int v2)] dX5_firstTouch_16 rfl (Nat.le_of_ble_eq_true rfl) rfl ?_
        refine r_sub (ls' := [(0, .ref 17), (1, .int v1), (2, .int v2), (3, .int (0 : Int32))]) [1, 2, 3, 0] rfl ?_
        exact hl17 _ ih N M v1 v2 (0 : Int32) h
  refine r_sub (ls' := [(0, .ref 17)]) [0] rfl ?_
  refine r_aload_n X 0 dX5_firstTouch_0 rfl rfl ?_
  obtain ⟨r2, M1, h3, h⟩ := bd2_ex h
  refine r_callV X (st := []) (av := []) (k := 17) (ci := 4) (k_X5_isClosed l N _ hnc _  _ _ h3 d (by omega)) (fitR_s (Nat.le_of_ble_eq_true rfl)) ⟨Nat.le_refl 0, Nat.le_refl 0⟩ rfl (ltn hnc rfl) rfl w_360 w_42 w_358 w_359 w_446 hy_X5_isClosed rfl (Nat.le_of_ble_eq_true rfl) dX5_firstTouch_1 ?_
  refine r_istore_n X [(1, .int r2), (0, .ref 17)] dX5_firstTouch_4 rfl (Nat.le_of_ble_eq_true rfl) rfl ?_
  refine r_iconst X 1 dX5_firstTouch_5 rfl ?_
  refine r_istore_n X [(2, .int (1 : Int32)), (1, .int r2), (0, .ref 17)] dX5_firstTouch_6 rfl (Nat.le_of_ble_eq_true rfl) rfl ?_
  refine r_sub (ls' := [(0, .ref 17), (1, .int r2), (2, .int (1 : Int32))]) [2, 1, 0] rfl ?_
  exact hl7  N M1 r2 (1 : Int32) h
