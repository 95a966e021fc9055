/-! Part 06: methods as pure functions (f_..), and their contracts (k_..) -/
def f_X6_piece (N : Nat) (M : Mem) (p0 : Int32) : Option (Int32 × Mem) :=
  if p0 < 0 then
    (some ((-9 : Int32), M))
  else
    (if p0 < (M.1 1 3) then
      (bd2 (f_X6_at shp N M 4 p0) fun r4 M3 =>
      some (r4, M3))
    else
      (some ((-9 : Int32), M)))
set_option maxRecDepth 100000 in
set_option maxHeartbeats 4000000 in
theorem k_X6_piece (l : Launch) (N : Nat) (nc : Nat) (hnc : 34 ≤ nc) (M : Mem) (p0 : Int32) (r : Int32) (M' : Mem) (h : f_X6_piece N M p0 = some (r, M')) (d : Nat) (hd : 1 ≤ d) : Ct l d yX6_piece cX6_piece 2 (some .int) shp nc [.ref 0, .int p0] M (some (.int r)) M' := by
  obtain ⟨d, rfl⟩ : ∃ q, d = q + 1 := ⟨d - 1, by omega⟩
  unfold f_X6_piece at h
  refine Ct.of (by decide +kernel) (Nat.le_of_ble_eq_true rfl) ?_
  intro p e s m args below meth c A ad D cI cJ X hr
  refine r_sub (ls' := [(0, .ref 0), (1, .int p0)]) [0, 1] rfl ?_
  refine r_iload_n X 1 dX6_piece_0 rfl rfl ?_
  refine r_iflt X 15 dX6_piece_1 (by decide) (fun c1 => ?_) (fun c1 => ?_)
  · replace h := it_t c1 h
    refine r_bipush X (-9) dX6_piece_15 rfl ?_
    refine r_goto X 31 dX6_piece_17 (by decide) ?_
    exact r_iretE X hr dX6_piece_31 h
  · replace h := it_f c1 h
    refine r_iload_n X 1 dX6_piece_4 rfl rfl ?_
    refine r_aload_n X 0 dX6_piece_5 rfl rfl ?_
    refine r_getr X 0 1 in_X6 (ci := 5) rfl rfl (ltn hnc rfl) (Nat.le_of_ble_eq_true rfl) rfl w_240 dX6_piece_6 (by decide) ?_
    refine r_geti X 3 in_X0 (ci := 0) rfl rfl (ltn hnc rfl) (Nat.le_of_ble_eq_true rfl) rfl w_82 dX6_piece_9 ?_
    refine r_iclt X 20 dX6_piece_12 (by decide) (fun c2 => ?_) (fun c2 => ?_)
    · replace h := it_t c2 h
      refine r_aload_n X 0 dX6_piece_20 rfl rfl ?_
      refine r_getr X 0 1 in_X6 (ci := 5) rfl rfl (ltn hnc rfl) (Nat.le_of_ble_eq_true rfl) rfl w_240 dX6_piece_21 (by decide) ?_
      refine r_getr X 2 4 in_X0 (ci := 0) rfl rfl (ltn hnc rfl) (Nat.le_of_ble_eq_true rfl) rfl w_80 dX6_piece_24 (by decide) ?_
      refine r_iload_n X 1 dX6_piece_27 rfl rfl ?_
      obtain ⟨r4, M3, h5, h⟩ := bd2_ex h
      refine r_callS X (st := []) (av := [.ref 4, .int p0]) (k_X6_at l N _ _ _ _ _ (Or.inl (ltn hnc rfl)) _ _ h5 d (by omega)) (fitR_s (Nat.le_of_ble_eq_true rfl)) ⟨Nat.le_refl 0, Nat.le_refl 0⟩ w_71 w_39 w_70 w_69 hy_X6_at rfl (Nat.le_of_ble_eq_true rfl) dX6_piece_28 ?_
      exact r_iretE X hr dX6_piece_31 h
    · replace h := it_f c2 h
      refine r_bipush X (-9) dX6_piece_15 rfl ?_
      refine r_goto X 31 dX6_piece_17 (by decide) ?_
      exact r_iretE X hr dX6_piece_31 h
def f_X7_piece (N : Nat) (M : Mem) (p0 : Int32) : Option (Int32 × Mem) :=
  bd2 (f_X7_isIn N M p0 (M.1 36 (ix (55 : Int32)))) fun r2 M1 =>
  if r2 = 0 then
    (some ((-9 : Int32), M1))
  else
    (ck (inb ((31 : Int32) + p0) 56) <|
    some (M1.1 36 (ix ((31 : Int32) + p0)), M1))
set_option maxRecDepth 100000 in
set_option maxHeartbeats 4000000 in
theorem k_X7_piece (l : Launch) (N : Nat) (nc : Nat) (hnc : 45 ≤ nc) (M : Mem) (p0 : Int32) (r : Int32) (M' : Mem) (h : f_X7_piece N M p0 = some (r, M')) (d : Nat) (hd : 1 ≤ d) : Ct l d yX7_piece cX7_piece 2 (some .int) shp nc [.ref 34, .int p0] M (some (.int r)) M' := by
  obtain ⟨d, rfl⟩ : ∃ q, d = q + 1 := ⟨d - 1, by omega⟩
  unfold f_X7_piece at h
  refine Ct.of (by decide +kernel) (Nat.le_of_ble_eq_true rfl) ?_
  intro p e s m args below meth c A ad D cI cJ X hr
  refine r_sub (ls' := [(0, .ref 34), (1, .int p0)]) [0, 1] rfl ?_
  refine r_iload_n X 1 dX7_piece_0 rfl rfl ?_
  refine r_aload_n X 0 dX7_piece_1 rfl rfl ?_
  refine r_getr X 1 36 in_X7 (ci := 6) rfl rfl (ltn hnc rfl) (Nat.le_of_ble_eq_true rfl) rfl w_610 dX7_piece_2 (by decide) ?_
  refine r_bipush X 55 dX7_piece_5 rfl ?_
  refine r_iald X (n := 56) rfl (Or.inl (ltn hnc rfl)) (by decide) dX7_piece_7 ?_
  obtain ⟨r2, M1, h3, h⟩ := bd2_ex h
  refine r_callS X (st := []) (av := [.int p0, .int (M.1 36 (ix (55 : Int32)))]) (k_X7_isIn l N _ hnc _ _ _ _ _ h3 d (by omega)) (fitR_s (Nat.le_of_ble_eq_true rfl)) ⟨Nat.le_refl 0, Nat.le_refl 0⟩ w_704 w_47 w_703 w_702 hy_X7_isIn rfl (Nat.le_of_ble_eq_true rfl) dX7_piece_8 ?_
  refine r_ifeq X 26 dX7_piece_11 (by decide) (fun c4 => ?_) (fun c4 => ?_)
  · replace h := it_t c4 h
    refine r_bipush X (-9) dX7_piece_26 rfl ?_
    exact r_iretE X hr dX7_piece_28 h
  · replace h := it_f c4 h
    refine r_aload_n X 0 dX7_piece_14 rfl rfl ?_
    refine r_getr X 1 36 in_X7 (ci := 6) rfl rfl (ltn hnc rfl) (Nat.le_of_ble_eq_true rfl) rfl w_610 dX7_piece_15 (by decide) ?_
    refine r_bipush X 31 dX7_piece_18 rfl ?_
    refine r_iload_n X 1 dX7_piece_20 rfl rfl ?_
    refine r_iadd X dX7_piece_21 ?_
    obtain ⟨c5, h⟩ := ck_ex h
    refine r_iald X (n := 56) rfl (Or.inl (ltn hnc rfl)) c5 dX7_piece_22 ?_
    refine r_goto X 28 dX7_piece_23 (by decide) ?_
    exact r_iretE X hr dX7_piece_28 h
def f_X6_refuseFar (N : Nat) (M : Mem) (p0 : Int32) : Option (Int32 × Mem) :=
  bd2 (f_X6_refuse N M p0) fun r2 M1 =>
  some ((1000000000 : Int32) - r2, M1)
set_option maxRecDepth 100000 in
set_option maxHeartbeats 4000000 in
theorem k_X6_refuseFar (l : Launch) (N : Nat) (nc : Nat) (hnc : 34 ≤ nc) (M : Mem) (p0 : Int32) (r : Int32) (M' : Mem) (h : f_X6_refuseFar N M p0 = some (r, M')) (d : Nat) (hd : 2 ≤ d) : Ct l d yX6_refuseFar cX6_refuseFar 2 (some .int) shp nc [.ref 0, .int p0] M (some (.int r)) M' := by
  obtain ⟨d, rfl⟩ : ∃ q, d = q + 1 := ⟨d - 1, by omega⟩
  unfold f_X6_refuseFar at h
  refine Ct.of (by decide +kernel) (Nat.le_of_ble_eq_true rfl) ?_
  intro p e s m args below meth c A ad D cI cJ X hr
  refine r_sub (ls' := [(0, .ref 0), (1, .int p0)]) [0, 1] rfl ?_
  refine r_ldc X w_331 dX6_refuseFar_0 ?_
  refine r_aload_n X 0 dX6_refuseFar_2 rfl rfl ?_
  refine r_iload_n X 1 dX6_refuseFar_3 rfl rfl ?_
  obtain ⟨r2, M1, h3, h⟩ := bd2_ex h
  refine r_callV X (st := [.int (1000000000 : Int32)]) (av := [.int p0]) (k := 0) (ci := 5) (k_X6_refuse l N _ hnc _ _ _ _ h3 d (by omega)) (fitR_s (Nat.le_of_ble_eq_true rfl)) ⟨Nat.le_refl 0, Nat.le_refl 0⟩ rfl (ltn hnc rfl) rfl w_284 w_39 w_283 w_1 w_281 hy_X6_refuse rfl (Nat.le_of_ble_eq_true rfl) dX6_refuseFar_4 ?_
  refine r_isub X dX6_refuseFar_7 ?_
  exact r_iretE X hr dX6_refuseFar_8 h
def f_X6_placeAt (sh : Nat → Shp) (N : Nat) (M : Mem) (a0 : Nat) (p1 : Int32) : Option (Int64 × Mem) :=
  if p1 < 0 then
    (some ((0 : Int64), M))
  else
    (bd (laL sh a0) fun n2 =>
    if (Int32.ofNat n2) ≤ p1 then
      (some ((0 : Int64), M))
    else
      (ck (inb p1 n2) <|
      some (M.2 a0 (ix p1), M)))
set_option maxRecDepth 100000 in
set_option maxHeartbeats 4000000 in
theorem k_X6_placeAt (l : Launch) (N : Nat) (sh : Nat → Shp) (nc : Nat) (M : Mem) (a0 : Nat) (p1 : Int32) (ha0 : a0 < nc ∨ 45 ≤ a0) (r : Int64) (M' : Mem) (h : f_X6_placeAt sh N M a0 p1 = some (r, M')) (d : Nat) (hd : 0 ≤ d) : Ct l d yX6_placeAt cX6_placeAt 2 (some .long) sh nc [.ref a0, .int p1] M (some (.long r)) M' := by
  unfold f_X6_placeAt at h
  refine Ct.of (by decide +kernel) (Nat.le_of_ble_eq_true rfl) ?_
  intro p e s m args below meth c A ad D cI cJ X hr
  refine r_sub (ls' := [(0, .ref a0), (1, .int p1)]) [0, 1] rfl ?_
  refine r_iload_n X 1 dX6_placeAt_0 rfl rfl ?_
  refine r_iflt X 16 dX6_placeAt_1 (by decide) (fun c1 => ?_) (fun c1 => ?_)
  · replace h := it_t c1 h
    refine r_lconst X 0 dX6_placeAt_16 rfl ?_
    exact r_lretE X hr dX6_placeAt_17 h
  · replace h := it_f c1 h
    refine r_iload_n X 1 dX6_placeAt_4 rfl rfl ?_
    refine r_aload_n X 0 dX6_placeAt_5 rfl rfl ?_
    obtain ⟨n2, en2, h⟩ := bd_ex h
    refine r_lalen X en2 ha0 rfl dX6_placeAt_6 ?_
    refine r_icge X 16 dX6_placeAt_7 (by decide) (fun c3 => ?_) (fun c3 => ?_)
    · replace h := it_t c3 h
      refine r_lconst X 0 dX6_placeAt_16 rfl ?_
      exact r_lretE X hr dX6_placeAt_17 h
    · replace h := it_f c3 h
      refine r_aload_n X 0 dX6_placeAt_10 rfl rfl ?_
      refine r_iload_n X 1 dX6_placeAt_11 rfl rfl ?_
      obtain ⟨c4, h⟩ := ck_ex h
      refine r_lald X en2 ha0 c4 dX6_placeAt_12 ?_
      refine r_goto X 17 dX6_placeAt_13 (by decide) ?_
      exact r_lretE X hr dX6_placeAt_17 h
def f_X1_step (N : Nat) (M : Mem) (p0 : Int32) (p1 : Int32) : Option (Int64 × Mem) :=
  bd2 (f_X6_placeAt shp N M 16 ((p0 * (10 : Int32)) + p1)) fun r2 M1 =>
  some (r2, M1)
set_option maxRecDepth 100000 in
set_option maxHeartbeats 4000000 in
theorem k_X1_step (l : Launch) (N : Nat) (nc : Nat) (hnc : 34 ≤ nc) (M : Mem) (p0 : Int32) (p1 : Int32) (r : Int64) (M' : Mem) (h : f_X1_step N M p0 p1 = some (r, M')) (d : Nat) (hd : 1 ≤ d) : Ct l d yX1_step cX1_step 3 (some .long) shp nc [.ref 15, .int p0, .int p1] M (some (.long r)) M' := by
  obtain ⟨d, rfl⟩ : ∃ q, d = q + 1 := ⟨d - 1, by omega⟩
  unfold f_X1_step at h
  refine Ct.of (by decide +kernel) (Nat.le_of_ble_eq_true rfl) ?_
  intro p e s m args below meth c A ad D cI cJ X hr
  refine r_sub (ls' := [(0, .ref 15), (1, .int p0), (2, .int p1)]) [0, 1, 2] rfl ?_
  refine r_aload_n X 0 dX1_step_0 rfl rfl ?_
  refine r_getr X 0 16 in_X1 (ci := 1) rfl rfl (ltn hnc rfl) (Nat.le_of_ble_eq_true rfl) rfl w_115 dX1_step_1 (by decide) ?_
  refine r_iload_n X 1 dX1_step_4 rfl rfl ?_
  refine r_bipush X 10 dX1_step_5 rfl ?_
  refine r_imul X dX1_step_7 ?_
  refine r_iload_n X 2 dX1_step_8 rfl rfl ?_
  refine r_iadd X dX1_step_9 ?_
  obtain ⟨r2, M1, h3, h⟩ := bd2_ex h
  refine r_callSN X (st := []) (av := [.ref 16, .int ((p0 * (10 : Int32)) + p1)]) (k_X6_placeAt l N _ _ _ _ _ (Or.inl (ltn hnc rfl)) _ _ h3 d (by omega)) (fitR_s (Nat.le_of_ble_eq_true rfl)) ⟨Nat.le_refl 0, Nat.le_refl 0⟩ w_343 w_39 w_342 w_341 hy_X6_placeAt rfl (Nat.le_of_ble_eq_true rfl) dX1_step_10 ?_
  exact r_lretE X hr dX1_step_13 h
def f_X1_turned (N : Nat) (M : Mem) (p0 : Int32) (p1 : Int32) : Option (Int32 × Mem) :=
  bd2 (f_X6_at shp N M 47 p1) fun r2 M1 =>
  some ((p0 + r2) &&& (7 : Int32), M1)
set_option maxRecDepth 100000 in
set_option maxHeartbeats 4000000 in
theorem k_X1_turned (l : Launch) (N : Nat) (nc : Nat) (hnc : 34 ≤ nc) (M : Mem) (p0 : Int32) (p1 : Int32) (r : Int32) (M' : Mem) (h : f_X1_turned N M p0 p1 = some (r, M')) (d : Nat) (hd : 1 ≤ d) : Ct l d yX1_turned cX1_turned 2 (some .int) shp nc [.int p0, .int p1] M (some (.int r)) M' := by
  obtain ⟨d, rfl⟩ : ∃ q, d = q + 1 := ⟨d - 1, by omega⟩
  unfold f_X1_turned at h
  refine Ct.of (by decide +kernel) (Nat.le_of_ble_eq_true rfl) ?_
  intro p e s m args below meth c A ad D cI cJ X hr
  refine r_sub (ls' := [(0, .int p0), (1, .int p1)]) [0, 1] rfl ?_
  refine r_iload_n X 0 dX1_turned_0 rfl rfl ?_
  refine r_getsN X 2 (Nat.le_of_ble_eq_true rfl) w_222 dX1_turned_1 ?_
  refine r_iload_n X 1 dX1_turned_4 rfl rfl ?_
  obtain ⟨r2, M1, h3, h⟩ := bd2_ex h
  refine r_callSN X (st := [.int p0]) (av := [.ref 47, .int p1]) (k_X6_at l N _ _ _ _ _ (Or.inr (Nat.le_of_ble_eq_true rfl)) _ _ h3 d (by omega)) (fitR_s (Nat.le_of_ble_eq_true rfl)) ⟨Nat.le_refl 0, Nat.le_refl 0⟩ w_71 w_39 w_70 w_224 hy_X6_at rfl (Nat.le_of_ble_eq_true rfl) dX1_turned_5 ?_
  refine r_iadd X dX1_turned_8 ?_
  refine r_bipush X 7 dX1_turned_9 rfl ?_
  refine r_iand X dX1_turned_11 ?_
  exact r_iretE X hr dX1_turned_12 h
def l_X5_follow_8 (N : Nat)   (a0 : Nat) : Nat → Mem → Int32 → Int64 → Int32 → Int32 → Option Mem
  | 0, _, _, _, _, _ => none
  | n + 1, M, v2, v3, v5, v6 =>
    if v2 ≤ v6 then
      (nm (seI M 17 4 v2) fun M2 =>
      some M2)
    else
      (bd2 (f_X6_at shp N M a0 v6) fun r4 M3 =>
      bd2 (f_X1_step N M3 v5 r4) fun r7 M6 =>
      bd2 (f_X1_turned N M6 v5 r4) fun r10 M9 =>
      bd (f_X6_put shp N M9 20 v6 r4) fun M12 =>
      bd (f_X6_putPlace shp N M12 18 (v6 + (1 : Int32)) (v3 + r7)) fun M14 =>
      bd (f_X6_put shp N M14 19 (v6 + (1 : Int32)) r10) fun M16 =>
      l_X5_follow_8 N a0 n M16 v2 (v3 + r7) r10 (v6 + 1))
def f_X5_follow (N : Nat) (M : Mem) (a0 : Nat) (p1 : Int32) : Option Mem :=
  l_X5_follow_8 N a0 N M p1 (0 : Int64) (0 : Int32) (0 : Int32)
set_option maxRecDepth 100000 in
set_option maxHeartbeats 4000000 in
theorem k_X5_follow (l : Launch) (N : Nat) (nc : Nat) (hnc : 34 ≤ nc) (M : Mem) (a0 : Nat) (p1 : Int32) (ha0 : a0 < nc ∨ 45 ≤ a0) (M' : Mem) (h : f_X5_follow N M a0 p1 = some M') (d : Nat) (hd : 2 ≤ d) : Ct l d yX5_follow cX5_follow 8 none shp nc [.ref 17, .ref a0, .int p1] M none M' := by
  obtain ⟨d, rfl⟩ : ∃ q, d = q + 1 := ⟨d - 1, by omega⟩
  unfold f_X5_follow at h
  refine Ct.of (by decide +kernel) (Nat.le_of_ble_eq_true rfl) ?_
  intro p e s m args below meth c A ad D cI cJ X hr
  have hl8 : ∀ (n : Nat) (M : Mem) (v2 : Int32) (v3 : Int64) (v5 : Int32) (v6 : Int32), l_X5_follow_8 N a0 n M v2 v3 v5 v6 = some M' → AW p l e (rmd (d + 1)) s m args below meth c 8 A ad D cI cJ shp nc 0 0 (MQ below (Qq A ad D cI cJ shp nc none M') args s 0 0 A) M 8 [(0, .ref 17), (1, .ref a0), (2, .int v2), (3, .long v3), (5, .int v5), (6, .int v6)] [] := by
    intro n
    induction n with
    | zero => intro M v2 v3 v5 v6 h; cases h
    | succ n ih =>
      intro M v2 v3 v5 v6 h
      rw [l_X5_follow_8] at h
      refine r_iload X 5 dX5_follow_8 rfl ?_
      refine r_iload_n X 2 dX5_follow_10 rfl rfl ?_
      refine r_icge X 87 dX5_follow_11 (by decide) (fun c1 => ?_) (fun c1 => ?_)
      · replace h := it_t c1 h
        refine r_aload_n X 0 dX5_follow_87 rfl rfl ?_
        refine r_iload_n X 2 dX5_follow_88 rfl rfl ?_
        obtain ⟨M2, eM2, h⟩ := nm_ex h
        refine r_puti X 4 in_X5 (ci := 4) rfl tyX5_ok nmX5 rfl (ltn hnc rfl) (Nat.le_of_ble_eq_true rfl) rfl w_133 rfl (ty := .int) rfl rfl rfl dX5_follow_89 ?_
        refine r_mem eM2 ?_
        exact r_vretE X hr dX5_follow_92 h
      · replace h := it_f c1 h
        refine r_aload_n X 1 dX5_follow_14 rfl rfl ?_
        refine r_iload X 5 dX5_follow_15 rfl ?_
        obtain ⟨r4, M3, h5, h⟩ := bd2_ex h
        refine r_callSN X (st := []) (av := [.ref a0, .int v6]) (k_X6_at l N _ _ _ _ _ ha0 _ _ h5 d (by omega)) (fitR_s (Nat.le_of_ble_eq_true rfl)) ⟨Nat.le_refl 0, Nat.le_refl 0⟩ w_71 w_39 w_70 w_336 hy_X6_at rfl (Nat.le_of_ble_eq_true rfl) dX5_follow_17 ?_
        refine r_istore X [(7, .int r4), (0, .ref 17), (1, .ref a0), (2, .int v2), (3, .long v3), (5, .int v5), (6, .int v6)] dX5_follow_20 (Nat.le_of_ble_eq_true rfl) rfl ?_
        refine r_lload_n X 4 dX5_follow_22 rfl rfl ?_
        refine r_aload_n X 1 dX5_follow_23 rfl rfl ?_
        refine r_getr X 0 15 in_X5 (ci := 4) rfl rfl (ltn hnc rfl) (Nat.le_of_ble_eq_true rfl) rfl w_126 dX5_follow_24 (by decide) ?_
        refine r_iload X 5 dX5_follow_27 rfl ?_
        refine r_iload X 0 dX5_follow_29 rfl ?_
        obtain ⟨r7, M6, h8, h⟩ := bd2_ex h
        refine r_callV X (st := [.long v3]) (av := [.int v5, .int r4]) (k := 15) (ci := 1) (k_X1_step l N _ hnc _ _ _ _ _ h8 d (by omega)) (fitR_s (Nat.le_of_ble_eq_true rfl)) ⟨Nat.le_refl 0, Nat.le_refl 0⟩ rfl (ltn hnc rfl) rfl w_340 w_41 w_338 w_339 w_337 hy_X1_step rfl (Nat.le_of_ble_eq_true rfl) dX5_follow_31 ?_
        refine r_ladd X dX5_follow_34 ?_
        refine r_lstore_n X [(3, .long (v3 + r7)), (7, .int r4), (0, .ref 17), (1, .ref a0), (2, .int v2), (5, .int v5), (6, .int v6)] dX5_follow_35 rfl (Nat.le_of_ble_eq_true rfl) rfl ?_
        refine r_iload X 5 dX5_follow_36 rfl ?_
        refine r_iload X 1 dX5_follow_38 rfl ?_
        obtain ⟨r10, M9, h11, h⟩ := bd2_ex h
        refine r_callS X (st := []) (av := [.int v5, .int r4]) (k_X1_turned l N _ hnc _ _ _ _ _ h11 d (by omega)) (fitR_s (Nat.le_of_ble_eq_true rfl)) ⟨Nat.le_refl 0, Nat.le_refl 0⟩ w_346 w_41 w_345 w_344 hy_X1_turned rfl (Nat.le_of_ble_eq_true rfl) dX5_follow_40 ?_
        refine r_istore X [(5, .int r10), (3, .long (v3 + r7)), (7, .int r4), (0, .ref 17), (1, .ref a0), (2, .int v2), (6, .int v6)] dX5_follow_43 (Nat.le_of_ble_eq_true rfl) rfl ?_
        refine r_aload_n X 3 dX5_follow_45 rfl rfl ?_
        refine r_getr X 3 20 in_X5 (ci := 4) rfl rfl (ltn hnc rfl) (Nat.le_of_ble_eq_true rfl) rfl w_132 dX5_follow_46 (by decide) ?_
        refine r_iload X 6 dX5_follow_49 rfl ?_
        refine r_iload X 2 dX5_follow_51 rfl ?_
        obtain ⟨M12, h13, h⟩ := bd_ex h
        refine r_callSN X (st := []) (av := [.ref 20, .int v6, .int r4]) (k_X6_put l N _ _ _ _ _ _ (Or.inl (ltn hnc rfl)) _ h13 d (by omega)) (fitR_s (Nat.le_of_ble_eq_true rfl)) ⟨Nat.le_refl 0, Nat.le_refl 0⟩ w_287 w_39 w_286 w_347 hy_X6_put rfl (Nat.le_of_ble_eq_true rfl) dX5_follow_53 ?_
        refine r_aload_n X 3 dX5_follow_56 rfl rfl ?_
        refine r_getr X 1 18 in_X5 (ci := 4) rfl rfl (ltn hnc rfl) (Nat.le_of_ble_eq_true rfl) rfl w_127 dX5_follow_57 (by decide) ?_
        refine r_iload X 6 dX5_follow_60 rfl ?_
        refine r_iconst X 1 dX5_follow_62 rfl ?_
        refine r_iadd X dX5_follow_63 ?_
        refine r_lload_n X 1 dX5_follow_64 rfl rfl ?_
        obtain ⟨M14, h15, h⟩ := bd_ex h
        refine r_callSN X (st := []) (av := [.ref 18, .int (v6 + (1 : Int32)), .long (v3 + r7)]) (k_X6_putPlace l N _ _ _ _ _ _ (Or.inl (ltn hnc rfl)) _ h15 d (by omega)) (fitR_s (Nat.le_of_ble_eq_true rfl)) ⟨Nat.le_refl 0, Nat.le_refl 0⟩ w_239 w_39 w_238 w_348 hy_X6_putPlace rfl (Nat.le_of_ble_eq_true rfl) dX5_follow_65 ?_
        refine r_aload_n X 3 dX5_follow_68 rfl rfl ?_
        refine r_getr X 2 19 in_X5 (ci := 4) rfl rfl (ltn hnc rfl) (Nat.le_of_ble_eq_true rfl) rfl w_130 dX5_follow_69 (by decide) ?_
        refine r_iload X 6 dX5_follow_72 rfl ?_
        refine r_iconst X 1 dX5_follow_74 rfl ?_
        refine r_iadd X dX5_follow_75 ?_
        refine r_iload X 0 dX5_follow_76 rfl ?_
        obtain ⟨M16, h17, h⟩ := bd_ex h
        refine r_callSN X (st := []) (av := [.ref 19, .int (v6 + (1 : Int32)), .int r10]) (k_X6_put l N _ _ _ _ _ _ (Or.inl (ltn hnc rfl)) _ h17 d (by omega)) (fitR_s (Nat.le_of_ble_eq_true rfl)) ⟨Nat.le_refl 0, Nat.le_refl 0⟩ w_287 w_39 w_286 w_347 hy_X6_put rfl (Nat.le_of_ble_eq_true rfl) dX5_follow_78 ?_
        refine r_iinc X [(6, .int (v6 + 1)), (5, .int r10), (3, .long (v3 + r7)), (7, .int r4), (0, .ref 17), (1, .ref a0), (2, .int v2)] 6 (v6 + 1) dX5_follow_81 rfl rfl (Nat.le_of_ble_eq_true rfl) rfl ?_
        refine r_goto X 8 dX5_follow_84 (by decide) ?_
        refine r_sub (ls' := [(0, .ref 17), (1, .ref a0), (2, .int v2), (3, .long (v3 + r7)), (5, .int r10), (6, .int (v6 + 1))]) [4, 5, 6, 2, 1, 0] rfl ?_
        exact ih M16 v2 (v3 + r7) r10 (v6 + 1) h
  refine r_sub (ls' := [(0, .ref 17), (1, .ref a0), (2, .int p1)]) [0, 1, 2] rfl ?_
  refine r_lconst X 0 dX5_follow_0 rfl ?_
  refine r_lstore_n X [(3, .long (0 : Int64)), (0, .ref 17), (1, .ref a0), (2, .int p1)] dX5_follow_1 rfl (Nat.le_of_ble_eq_true rfl) rfl ?_
  refine r_iconst X 0 dX5_follow_2 rfl ?_
  refine r_istore X [(5, .int (0 : Int32)), (3, .long (0 : Int64)), (0, .ref 17), (1, .ref a0), (2, .int p1)] dX5_follow_3 (Nat.le_of_ble_eq_true rfl) rfl ?_
  refine r_iconst X 0 dX5_follow_5 rfl ?_
  refine r_istore X [(6, .int (0 : Int32)), (5, .int (0 : Int32)), (3, .long (0 : Int64)), (0, .ref 17), (1, .ref a0), (2, .int p1)] dX5_follow_6 (Nat.le_of_ble_eq_true rfl) rfl ?_
  refine r_sub (ls' := [(0, .ref 17), (1, .ref a0), (2, .int p1), (3, .long (0 : Int64)), (5, .int (0 : Int32)), (6, .int (0 : Int32))]) [3, 4, 5, 2, 1, 0] rfl ?_
  exact hl8  N M p1 (0 : Int64) (0 : Int32) (0 : Int32) h
def l_X2_part_5 (N : Nat)    : Nat → Mem → Int32 → Int64 → Int32 → Option (Int32 × Mem)
  | 0, _, _, _, _ => none
  | n + 1, M, v2, v3, v5 =>
    if v5 ≤ v2 then
      (some (Int16.toInt32 (Int32.toInt16 (Int64.toInt32 v3)), M))
    else
      (nm (shr64 (v3 - (Int32.toInt64 (Int16.toInt32 (Int32.toInt16 (Int64.toInt32 v3))))) (16 : Int32)) fun x2 =>
      l_X2_part_5 N n M v2 x2 (v5 + (-1)))
def f_X2_part (N : Nat) (M : Mem) (p0 : Int64) (p1 : Int32) : Option (Int32 × Mem) :=
  l_X2_part_5 N N M p1 p0 (3 : Int32)
set_option maxRecDepth 100000 in
set_option maxHeartbeats 4000000 in
theorem k_X2_part (l : Launch) (N : Nat) (nc : Nat) (hnc : 34 ≤ nc) (M : Mem) (p0 : Int64) (p1 : Int32) (r : Int32) (M' : Mem) (h : f_X2_part N M p0 p1 = some (r, M')) (d : Nat) (hd : 0 ≤ d) : Ct l d yX2_part cX2_part 6 (some .int) shp nc [.long p0, .int p1] M (some (.int r)) M' := by
  unfold f_X2_part at h
  refine Ct.of (by decide +kernel) (Nat.le_of_ble_eq_true rfl) ?_
  intro p e s m args below meth c A ad D cI cJ X hr
  have hl5 : ∀ (n : Nat) (M : Mem) (v2 : Int32) (v3 : Int64) (v5 : Int32), l_X2_part_5 N n M v2 v3 v5 = some (r, M') → AW p l e (rmd d) s m args below meth c 6 A ad D cI cJ shp nc 0 0 (MQ below (Qq A ad D cI cJ shp nc (some (.int r)) M') args s 0 0 A) M 5 [(2, .int v2), (3, .long v3), (5, .int v5)] [] := by
    intro n
    induction n with
    | zero => intro M v2 v3 v5 h; cases h
    | succ n ih =>
      intro M v2 v3 v5 h
      rw [l_X2_part_5] at h
      refine r_iload X 2 dX2_part_5 rfl ?_
      refine r_iload_n X 0 dX2_part_7 rfl rfl ?_
      refine r_icle X 27 dX2_part_8 (by decide) (fun c1 => ?_) (fun c1 => ?_)
      · replace h := it_t c1 h
        refine r_lload_n X 1 dX2_part_27 rfl rfl ?_
        refine r_l2i X dX2_part_28 ?_
        refine r_i2s X dX2_part_29 ?_
        exact r_iretE X hr dX2_part_30 h
      · replace h := it_f c1 h
        refine r_lload_n X 1 dX2_part_11 rfl rfl ?_
        refine r_lload_n X 1 dX2_part_12 rfl rfl ?_
        refine r_l2i X dX2_part_13 ?_
        refine r_i2s X dX2_part_14 ?_
        refine r_i2l X dX2_part_15 ?_
        refine r_lsub X dX2_part_16 ?_
        refine r_bipush X 16 dX2_part_17 rfl ?_
        refine r_lshr X dX2_part_19 ?_
        obtain ⟨x2, ex2, h⟩ := nm_ex h
        refine r_topl ex2 ?_
        refine r_lstore_n X [(3, .long x2), (2, .int v2), (5, .int v5)] dX2_part_20 rfl (Nat.le_of_ble_eq_true rfl) rfl ?_
        refine r_iinc X [(5, .int (v5 + (-1))), (3, .long x2), (2, .int v2)] 2 (v5 + (-1)) dX2_part_21 rfl rfl (Nat.le_of_ble_eq_true rfl) rfl ?_
        refine r_goto X 5 dX2_part_24 (by decide) ?_
        refine r_sub (ls' := [(2, .int v2), (3, .long x2), (5, .int (v5 + (-1)))]) [2, 1, 0] rfl ?_
        exact ih M v2 x2 (v5 + (-1)) h
  refine r_sub (ls' := [(0, .long p0), (2, .int p1)]) [0, 1] rfl ?_
  refine r_lload_n X 0 dX2_part_0 rfl rfl ?_
  refine r_lstore_n X [(3, .long p0), (0, .long p0), (2, .int p1)] dX2_part_1 rfl (Nat.le_of_ble_eq_true rfl) rfl ?_
  refine r_iconst X 3 dX2_part_2 rfl ?_
  refine r_istore X [(5, .int (3 : Int32)), (3, .long p0), (0, .long p0), (2, .int p1)] dX2_part_3 (Nat.le_of_ble_eq_true rfl) rfl ?_
  refine r_sub (ls' := [(2, .int p1), (3, .long p0), (5, .int (3 : Int32))]) [3, 1, 0] rfl ?_
  exact hl5  N M p1 p0 (3 : Int32) h
def f_X6_joint (N : Nat) (M : Mem) (p0 : Int32) (p1 : Int32) : Option (Int32 × Mem) :=
  if p0 < 0 then
    (bd2 (f_X6_refuseFar N M (-1 : Int32)) fun r3 M2 =>
    some (r3, M2))
  else
    (if p0 ≤ (M.1 1 3) then
      (if p1 < 0 then
        (bd2 (f_X6_refuseFar N M (-2 : Int32)) fun r8 M7 =>
        some (r8, M7))
      else
        (if p1 ≤ (4 : Int32) then
          (bd (f_X5_follow N M 4 (M.1 1 3)) fun M11 =>
          if p1 = (4 : Int32) then
            (bd2 (f_X6_at shp N M11 19 p0) fun r21 M20 =>
            some (r21, M20))
          else
            (bd2 (f_X6_placeAt shp N M11 18 p0) fun r15 M14 =>
            bd2 (f_X2_part N M14 r15 p1) fun r18 M17 =>
            some (r18, M17)))
        else
          (bd2 (f_X6_refuseFar N M (-2 : Int32)) fun r24 M23 =>
          some (r24, M23))))
    else
      (bd2 (f_X6_refuseFar N M (-1 : Int32)) fun r27 M26 =>
      some (r27, M26)))
set_option maxRecDepth 100000 in
set_option maxHeartbeats 4000000 in
theorem k_X6_joint (l : Launch) (N : Nat) (nc : Nat) (hnc : 34 ≤ nc) (M : Mem) (p0 : Int32) (p1 : Int32) (r : Int32) (M' : Mem) (h : f_X6_joint N M p0 p1 = some (r, M')) (d : Nat) (hd : 3 ≤ d) : Ct l d yX6_joint cX6_joint 3 (some .int) shp nc [.ref 0, .int p0, .int p1] M (some (.int r)) M' := by
  obtain ⟨d, rfl⟩ : ∃ q, d = q + 1 := ⟨d - 1, by omega⟩
  unfold f_X6_joint at h
  refine Ct.of (by decide +kernel) (Nat.le_of_ble_eq_true rfl) ?_
  intro p e s m args below meth c A ad D cI cJ X hr
  refine r_sub (ls' := [(0, .ref 0), (1, .int p0), (2, .int p1)]) [0, 1, 2] rfl ?_
  refine r_iload_n X 1 dX6_joint_0 rfl rfl ?_
  refine r_iflt X 15 dX6_joint_1 (by decide) (fun c1 => ?_) (fun c1 => ?_)
  · replace h := it_t c1 h
    refine r_aload_n X 0 dX6_joint_15 rfl rfl ?_
    refine r_iconst X (-1) dX6_joint_16 rfl ?_
    obtain ⟨r3, M2, h4, h⟩ := bd2_ex h
    refine r_callV X (st := []) (av := [.int (-1 : Int32)]) (k := 0) (ci := 5) (k_X6_refuseFar l N _ hnc _ _ _ _ h4 d (by omega)) (fitR_s (Nat.le_of_ble_eq_true rfl)) ⟨Nat.le_refl 0, Nat.le_refl 0⟩ rfl (ltn hnc rfl) rfl w_330 w_39 w_329 w_3 w_327 hy_X6_refuseFar rfl (Nat.le_of_ble_eq_true rfl) dX6_joint_17 ?_
    exact r_iretE X hr dX6_joint_20 h
  · replace h := it_f c1 h
    refine r_iload_n X 1 dX6_joint_4 rfl rfl ?_
    refine r_aload_n X 0 dX6_joint_5 rfl rfl ?_
    refine r_getr X 0 1 in_X6 (ci := 5) rfl rfl (ltn hnc rfl) (Nat.le_of_ble_eq_true rfl) rfl w_240 dX6_joint_6 (by decide) ?_
    refine r_geti X 3 in_X0 (ci := 0) rfl rfl (ltn hnc rfl) (Nat.le_of_ble_eq_true rfl) rfl w_82 dX6_joint_9 ?_
    refine r_icle X 21 dX6_joint_12 (by decide) (fun c5 => ?_) (fun c5 => ?_)
    · replace h := it_t c5 h
      refine r_iload_n X 2 dX6_joint_21 rfl rfl ?_
      refine r_iflt X 30 dX6_joint_22 (by decide) (fun c6 => ?_) (fun c6 => ?_)
      · replace h := it_t c6 h
        refine r_aload_n X 0 dX6_joint_30 rfl rfl ?_
        refine r_bipush X (-2) dX6_joint_31 rfl ?_
        obtain ⟨r8, M7, h9, h⟩ := bd2_ex h
        refine r_callV X (st := []) (av := [.int (-2 : Int32)]) (k := 0) (ci := 5) (k_X6_refuseFar l N _ hnc _ _ _ _ h9 d (by omega)) (fitR_s (Nat.le_of_ble_eq_true rfl)) ⟨Nat.le_refl 0, Nat.le_refl 0⟩ rfl (ltn hnc rfl) rfl w_330 w_39 w_329 w_3 w_327 hy_X6_refuseFar rfl (Nat.le_of_ble_eq_true rfl) dX6_joint_33 ?_
        exact r_iretE X hr dX6_joint_36 h
      · replace h := it_f c6 h
        refine r_iload_n X 2 dX6_joint_25 rfl rfl ?_
        refine r_iconst X 4 dX6_joint_26 rfl ?_
        refine r_icle X 37 dX6_joint_27 (by decide) (fun c10 => ?_) (fun c10 => ?_)
        · replace h := it_t c10 h
          refine r_aload_n X 0 dX6_joint_37 rfl rfl ?_
          refine r_getr X 4 17 in_X6 (ci := 5) rfl rfl (ltn hnc rfl) (Nat.le_of_ble_eq_true rfl) rfl w_244 dX6_joint_38 (by decide) ?_
          refine r_aload_n X 0 dX6_joint_41 rfl rfl ?_
          refine r_getr X 0 1 in_X6 (ci := 5) rfl rfl (ltn hnc rfl) (Nat.le_of_ble_eq_true rfl) rfl w_240 dX6_joint_42 (by decide) ?_
          refine r_getr X 2 4 in_X0 (ci := 0) rfl rfl (ltn hnc rfl) (Nat.le_of_ble_eq_true rfl) rfl w_80 dX6_joint_45 (by decide) ?_
          refine r_aload_n X 0 dX6_joint_48 rfl rfl ?_
          refine r_getr X 0 1 in_X6 (ci := 5) rfl rfl (ltn hnc rfl) (Nat.le_of_ble_eq_true rfl) rfl w_240 dX6_joint_49 (by decide) ?_
          refine r_geti X 3 in_X0 (ci := 0) rfl rfl (ltn hnc rfl) (Nat.le_of_ble_eq_true rfl) rfl w_82 dX6_joint_52 ?_
          obtain ⟨M11, h12, h⟩ := bd_ex h
          refine r_callV X (st := []) (av := [.ref 4, .int (M.1 1 3)]) (k := 17) (ci := 4) (k_X5_follow l N _ hnc _ _ _ (Or.inl (ltn hnc rfl)) _ h12 d (by omega)) (fitR_s (Nat.le_of_ble_eq_true rfl)) ⟨Nat.le_refl 0, Nat.le_refl 0⟩ rfl (ltn hnc rfl) rfl w_335 w_42 w_333 w_334 w_332 hy_X5_follow rfl (Nat.le_of_ble_eq_true rfl) dX6_joint_55 ?_
          refine r_iload_n X 2 dX6_joint_58 rfl rfl ?_
          refine r_iconst X 4 dX6_joint_59 rfl ?_
          refine r_icne X 77 dX6_joint_60 (by decide) (fun c13 => ?_) (fun c13 => ?_)
          · replace h := it_f c13 h
            refine r_aload_n X 0 dX6_joint_77 rfl rfl ?_
            refine r_getr X 4 17 in_X6 (ci := 5) rfl rfl (ltn hnc rfl) (Nat.le_of_ble_eq_true rfl) rfl w_244 dX6_joint_78 (by decide) ?_
            refine r_getr X 1 18 in_X5 (ci := 4) rfl rfl (ltn hnc rfl) (Nat.le_of_ble_eq_true rfl) rfl w_128 dX6_joint_81 (by decide) ?_
            refine r_iload_n X 1 dX6_joint_84 rfl rfl ?_
            obtain ⟨r15, M14, h16, h⟩ := bd2_ex h
            refine r_callS X (st := []) (av := [.ref 18, .int p0]) (k_X6_placeAt l N _ _ _ _ _ (Or.inl (ltn hnc rfl)) _ _ h16 d (by omega)) (fitR_s (Nat.le_of_ble_eq_true rfl)) ⟨Nat.le_refl 0, Nat.le_refl 0⟩ w_343 w_39 w_342 w_349 hy_X6_placeAt rfl (Nat.le_of_ble_eq_true rfl) dX6_joint_85 ?_
            refine r_iload_n X 2 dX6_joint_88 rfl rfl ?_
            obtain ⟨r18, M17, h19, h⟩ := bd2_ex h
            refine r_callS X (st := []) (av := [.long r15, .int p1]) (k_X2_part l N _ hnc _ _ _ _ _ h19 d (by omega)) (fitR_s (Nat.le_of_ble_eq_true rfl)) ⟨Nat.le_refl 0, Nat.le_refl 0⟩ w_352 w_46 w_351 w_350 hy_X2_part rfl (Nat.le_of_ble_eq_true rfl) dX6_joint_89 ?_
            exact r_iretE X hr dX6_joint_92 h
          · replace h := it_t c13 h
            refine r_aload_n X 0 dX6_joint_63 rfl rfl ?_
            refine r_getr X 4 17 in_X6 (ci := 5) rfl rfl (ltn hnc rfl) (Nat.le_of_ble_eq_true rfl) rfl w_244 dX6_joint_64 (by decide) ?_
            refine r_getr X 2 19 in_X5 (ci := 4) rfl rfl (ltn hnc rfl) (Nat.le_of_ble_eq_true rfl) rfl w_131 dX6_joint_67 (by decide) ?_
            refine r_iload_n X 1 dX6_joint_70 rfl rfl ?_
            obtain ⟨r21, M20, h22, h⟩ := bd2_ex h
            refine r_callS X (st := []) (av := [.ref 19, .int p0]) (k_X6_at l N _ _ _ _ _ (Or.inl (ltn hnc rfl)) _ _ h22 d (by omega)) (fitR_s (Nat.le_of_ble_eq_true rfl)) ⟨Nat.le_refl 0, Nat.le_refl 0⟩ w_71 w_39 w_70 w_69 hy_X6_at rfl (Nat.le_of_ble_eq_true rfl) dX6_joint_71 ?_
            refine r_goto X 92 dX6_joint_74 (by decide) ?_
            exact r_iretE X hr dX6_joint_92 h
        · replace h := it_f c10 h
          refine r_aload_n X 0 dX6_joint_30 rfl rfl ?_
          refine r_bipush X (-2) dX6_joint_31 rfl ?_
          obtain ⟨r24, M23, h25, h⟩ := bd2_ex h
          refine r_callV X (st := []) (av := [.int (-2 : Int32)]) (k := 0) (ci := 5) (k_X6_refuseFar l N _ hnc _ _ _ _ h25 d (by omega)) (fitR_s (Nat.le_of_ble_eq_true rfl)) ⟨Nat.le_refl 0, Nat.le_refl 0⟩ rfl (ltn hnc rfl) rfl w_330 w_39 w_329 w_3 w_327 hy_X6_refuseFar rfl (Nat.le_of_ble_eq_true rfl) dX6_joint_33 ?_
          exact r_iretE X hr dX6_joint_36 h
    · replace h := it_f c5 h
      refine r_aload_n X 0 dX6_joint_15 rfl rfl ?_
      refine r_iconst X (-1) dX6_joint_16 rfl ?_
      obtain ⟨r27, M26, h28, h⟩ := bd2_ex h
      refine r_callV X (st := []) (av := [.int (-1 : Int32)]) (k := 0) (ci := 5) (k_X6_refuseFar l N _ hnc _ _ _ _ h28 d (by omega)) (fitR_s (Nat.le_of_ble_eq_true rfl)) ⟨Nat.le_refl 0, Nat.le_refl 0⟩ rfl (ltn hnc rfl) rfl w_330 w_39 w_329 w_3 w_327 hy_X6_refuseFar rfl (Nat.le_of_ble_eq_true rfl) dX6_joint_17 ?_
      exact r_iretE X hr dX6_joint_20 h
def f_X7_kindOf (N : Nat) (M : Mem) (p0 : Int32) : Option (Int32 × Mem) :=
  if (5 : Int32) ≤ p0 then
    (if (7 : Int32) ≤ p0 then
      (if (9 : Int32) ≤ p0 then
        (some ((6 : Int32), M))
      else
        (some ((5 : Int32), M)))
    else
      (some (p0 - (2 : Int32), M)))
  else
    (some (p0, M))
set_option maxRecDepth 100000 in
set_option maxHeartbeats 4000000 in
theorem k_X7_kindOf (l : Launch) (N : Nat) (nc : Nat) (hnc : 45 ≤ nc) (M : Mem) (p0 : Int32) (r : Int32) (M' : Mem) (h : f_X7_kindOf N M p0 = some (r, M')) (d : Nat) (hd : 0 ≤ d) : Ct l d yX7_kindOf cX7_kindOf 1 (some .int) shp nc [.int p0] M (some (.int r)) M' := by
  unfold f_X7_kindOf at h
  refine Ct.of (by decide +kernel) (Nat.le_of_ble_eq_true rfl) ?_
  intro p e s m args below meth c A ad D cI cJ X hr
  refine r_sub (ls' := [(0, .int p0)]) [0] rfl ?_
  refine r_iload_n X 0 dX7_kindOf_0 rfl rfl ?_
  refine r_iconst X 5 dX7_kindOf_1 rfl ?_
  refine r_icge X 9 dX7_kindOf_2 (by decide) (fun c1 => ?_) (fun c1 => ?_)
  · replace h := it_t c1 h
    refine r_iload_n X 0 dX7_kindOf_9 rfl rfl ?_
    refine r_bipush X 7 dX7_kindOf_10 rfl ?_
    refine r_icge X 21 dX7_kindOf_12 (by decide) (fun c2 => ?_) (fun c2 => ?_)
    · replace h := it_t c2 h
      refine r_iload_n X 0 dX7_kindOf_21 rfl rfl ?_
      refine r_bipush X 9 dX7_kindOf_22 rfl ?_
      refine r_icge X 31 dX7_kindOf_24 (by decide) (fun c3 => ?_) (fun c3 => ?_)
      · replace h := it_t c3 h
        refine r_bipush X 6 dX7_kindOf_31 rfl ?_
        exact r_iretE X hr dX7_kindOf_33 h
      · replace h := it_f c3 h
        refine r_iconst X 5 dX7_kindOf_27 rfl ?_
        refine r_goto X 33 dX7_kindOf_28 (by decide) ?_
        exact r_iretE X hr dX7_kindOf_33 h
    · replace h := it_f c2 h
      refine r_iload_n X 0 dX7_kindOf_15 rfl rfl ?_
      refine r_iconst X 2 dX7_kindOf_16 rfl ?_
      refine r_isub X dX7_kindOf_17 ?_
      refine r_goto X 33 dX7_kindOf_18 (by decide) ?_
      exact r_iretE X hr dX7_kindOf_33 h
  · replace h := it_f c1 h
    refine r_iload_n X 0 dX7_kindOf_5 rfl rfl ?_
    refine r_goto X 33 dX7_kindOf_6 (by decide) ?_
    exact r_iretE X hr dX7_kindOf_33 h
def f_X7_turnOf (N : Nat) (M : Mem) (p0 : Int32) : Option (Int32 × Mem) :=
  if p0 = (3 : Int32) then
    (some ((1 : Int32), M))
  else
    (if p0 = (4 : Int32) then
      (some ((1 : Int32), M))
    else
      (if p0 = (5 : Int32) then
        (some ((-1 : Int32), M))
      else
        (if p0 = (6 : Int32) then
          (some ((-1 : Int32), M))
        else
          (if p0 = (7 : Int32) then
            (some ((2 : Int32), M))
          else
            (if p0 = (8 : Int32) then
              (some ((-2 : Int32), M))
            else
              (some ((0 : Int32), M)))))))
set_option maxRecDepth 100000 in
set_option maxHeartbeats 4000000 in
theorem k_X7_turnOf (l : Launch) (N : Nat) (nc : Nat) (hnc : 45 ≤ nc) (M : Mem) (p0 : Int32) (r : Int32) (M' : Mem) (h : f_X7_turnOf N M p0 = some (r, M')) (d : Nat) (hd : 0 ≤ d) : Ct l d yX7_turnOf cX7_turnOf 1 (some .int) shp nc [.int p0] M (some (.int r)) M' := by
  unfold f_X7_turnOf at h
  refine Ct.of (by decide +kernel) (Nat.le_of_ble_eq_true rfl) ?_
  intro p e s m args below meth c A ad D cI cJ X hr
  refine r_sub (ls' := [(0, .int p0)]) [0] rfl ?_
  refine r_iload_n X 0 dX7_turnOf_0 rfl rfl ?_
  refine r_iconst X 3 dX7_turnOf_1 rfl ?_
  refine r_iceq X 10 dX7_turnOf_2 (by decide) (fun c1 => ?_) (fun c1 => ?_)
  · replace h := it_t c1 h
    refine r_iconst X 1 dX7_turnOf_10 rfl ?_
    refine r_goto X 51 dX7_turnOf_11 (by decide) ?_
    exact r_iretE X hr dX7_turnOf_51 h
  · replace h := it_f c1 h
    refine r_iload_n X 0 dX7_turnOf_5 rfl rfl ?_
    refine r_iconst X 4 dX7_turnOf_6 rfl ?_
    refine r_icne X 14 dX7_turnOf_7 (by decide) (fun c2 => ?_) (fun c2 => ?_)
    · replace h := it_f c2 h
      refine r_iload_n X 0 dX7_turnOf_14 rfl rfl ?_
      refine r_iconst X 5 dX7_turnOf_15 rfl ?_
      refine r_iceq X 25 dX7_turnOf_16 (by decide) (fun c3 => ?_) (fun c3 => ?_)
      · replace h := it_t c3 h
        refine r_iconst X (-1) dX7_turnOf_25 rfl ?_
        refine r_goto X 51 dX7_turnOf_26 (by decide) ?_
        exact r_iretE X hr dX7_turnOf_51 h
      · replace h := it_f c3 h
        refine r_iload_n X 0 dX7_turnOf_19 rfl rfl ?_
        refine r_bipush X 6 dX7_turnOf_20 rfl ?_
        refine r_icne X 29 dX7_turnOf_22 (by decide) (fun c4 => ?_) (fun c4 => ?_)
        · replace h := it_f c4 h
          refine r_iload_n X 0 dX7_turnOf_29 rfl rfl ?_
          refine r_bipush X 7 dX7_turnOf_30 rfl ?_
          refine r_icne X 39 dX7_turnOf_32 (by decide) (fun c5 => ?_) (fun c5 => ?_)
          · replace h := it_f c5 h
            refine r_iload_n X 0 dX7_turnOf_39 rfl rfl ?_
            refine r_bipush X 8 dX7_turnOf_40 rfl ?_
            refine r_icne X 50 dX7_turnOf_42 (by decide) (fun c6 => ?_) (fun c6 => ?_)
            · replace h := it_f c6 h
              refine r_iconst X 0 dX7_turnOf_50 rfl ?_
              exact r_iretE X hr dX7_turnOf_51 h
            · replace h := it_t c6 h
              refine r_bipush X (-2) dX7_turnOf_45 rfl ?_
              refine r_goto X 51 dX7_turnOf_47 (by decide) ?_
              exact r_iretE X hr dX7_turnOf_51 h
          · replace h := it_t c5 h
            refine r_iconst X 2 dX7_turnOf_35 rfl ?_
            refine r_goto X 51 dX7_turnOf_36 (by decide) ?_
            exact r_iretE X hr dX7_turnOf_51 h
        · replace h := it_t c4 h
          refine r_iconst X (-1) dX7_turnOf_25 rfl ?_
          refine r_goto X 51 dX7_turnOf_26 (by decide) ?_
          exact r_iretE X hr dX7_turnOf_51 h
    · replace h := it_t c2 h
      refine r_iconst X 1 dX7_turnOf_10 rfl ?_
      refine r_goto X 51 dX7_turnOf_11 (by decide) ?_
      exact r_iretE X hr dX7_turnOf_51 h
def f_X7_along (N : Nat) (M : Mem) (p0 : Int32) (p1 : Int32) (p2 : Int32) : Option Mem :=
  nm (p2 &&& (7 : Int32)) fun x1 =>
  if x1 = 0 then (
    nm (seI M 34 9 p0) fun M3 =>
    nm (seI M3 34 10 p1) fun M4 =>
    some M4)
  else if x1 = 1 then (
    nm (seI M 34 9 p1) fun M6 =>
    nm (seI M6 34 10 (p0 / (2 : Int32))) fun M7 =>
    some M7)
  else if x1 = 2 then (
    nm (seI M 34 9 (0 : Int32)) fun M9 =>
    nm (seI M9 34 10 (0 : Int32)) fun M10 =>
    some M10)
  else if x1 = 3 then (
    nm (seI M 34 9 (-p1)) fun M12 =>
    nm (seI M12 34 10 ((-p0) / (2 : Int32))) fun M13 =>
    some M13)
  else if x1 = 4 then (
    nm (seI M 34 9 (-p0)) fun M15 =>
    nm (seI M15 34 10 (-p1)) fun M16 =>
    some M16)
  else if x1 = 5 then (
    nm (seI M 34 9 (-p1)) fun M18 =>
    nm (seI M18 34 10 ((-p0) / (2 : Int32))) fun M19 =>
    some M19)
  else if x1 = 6 then (
    nm (seI M 34 9 (0 : Int32)) fun M21 =>
    nm (seI M21 34 10 (0 : Int32)) fun M22 =>
    some M22)
  else if x1 = 7 then (
    nm (seI M 34 9 p1) fun M24 =>
    nm (seI M24 34 10 (p0 / (2 : Int32))) fun M25 =>
    some M25)
  else (
    nm (seI M 34 9 (0 : Int32)) fun M26 =>
    nm (seI M26 34 10 (0 : Int32)) fun M27 =>
    some M27)
set_option maxRecDepth 100000 in
set_option maxHeartbeats 4000000 in
theorem k_X7_along (l : Launch) (N : Nat) (nc : Nat) (hnc : 45 ≤ nc) (M : Mem) (p0 : Int32) (p1 : Int32) (p2 : Int32) (M' : Mem) (h : f_X7_along N M p0 p1 p2 = some M') (d : Nat) (hd : 0 ≤ d) : Ct l d yX7_along cX7_along 4 none shp nc [.ref 34, .int p0, .int p1, .int p2] M none M' := by
  unfold f_X7_along at h
  refine Ct.of (by decide +kernel) (Nat.le_of_ble_eq_true rfl) ?_
  intro p e s m args below meth c A ad D cI cJ X hr
  refine r_sub (ls' := [(0, .ref 34), (1, .int p0), (2, .int p1), (3, .int p2)]) [0, 1, 2, 3] rfl ?_
  refine r_iload_n X 3 dX7_along_0 rfl rfl ?_
  refine r_bipush X 7 dX7_along_1 rfl ?_
  refine r_iand X dX7_along_3 ?_
  obtain ⟨x1, ex1, h⟩ := nm_ex h
  refine r_top ex1 ?_
  by_cases c2 : x1 = 0
  · replace h := it_t c2 h
    refine r_swIn X 0 c2 52 dX7_along_4 (by decide) (by decide) rfl (by decide) ?_
    refine r_aload_n X 0 dX7_along_52 rfl rfl ?_
    refine r_iload_n X 1 dX7_along_53 rfl rfl ?_
    obtain ⟨M3, eM3, h⟩ := nm_ex h
    refine r_puti X 9 in_X7 (ci := 6) rfl tyX7_ok nmX7 rfl (ltn hnc rfl) (Nat.le_of_ble_eq_true rfl) rfl w_618 rfl (ty := .int) rfl rfl rfl dX7_along_54 ?_
    refine r_mem eM3 ?_
    refine r_aload_n X 0 dX7_along_57 rfl rfl ?_
    refine r_iload_n X 2 dX7_along_58 rfl rfl ?_
    obtain ⟨M4, eM4, h⟩ := nm_ex h
    refine r_puti X 10 in_X7 (ci := 6) rfl tyX7_ok nmX7 rfl (ltn hnc rfl) (Nat.le_of_ble_eq_true rfl) rfl w_619 rfl (ty := .int) rfl rfl rfl dX7_along_59 ?_
    refine r_mem eM4 ?_
    exact r_vretE X hr dX7_along_62 h
  replace h := it_f c2 h
  by_cases c5 : x1 = 1
  · replace h := it_t c5 h
    refine r_swIn X 1 c5 63 dX7_along_4 (by decide) (by decide) rfl (by decide) ?_
    refine r_aload_n X 0 dX7_along_63 rfl rfl ?_
    refine r_iload_n X 2 dX7_along_64 rfl rfl ?_
    obtain ⟨M6, eM6, h⟩ := nm_ex h
    refine r_puti X 9 in_X7 (ci := 6) rfl tyX7_ok nmX7 rfl (ltn hnc rfl) (Nat.le_of_ble_eq_true rfl) rfl w_618 rfl (ty := .int) rfl rfl rfl dX7_along_65 ?_
    refine r_mem eM6 ?_
    refine r_aload_n X 0 dX7_along_68 rfl rfl ?_
    refine r_iload_n X 1 dX7_along_69 rfl rfl ?_
    refine r_iconst X 2 dX7_along_70 rfl ?_
    refine r_idiv X (by decide) dX7_along_71 ?_
    obtain ⟨M7, eM7, h⟩ := nm_ex h
    refine r_puti X 10 in_X7 (ci := 6) rfl tyX7_ok nmX7 rfl (ltn hnc rfl) (Nat.le_of_ble_eq_true rfl) rfl w_619 rfl (ty := .int) rfl rfl rfl dX7_along_72 ?_
    refine r_mem eM7 ?_
    exact r_vretE X hr dX7_along_75 h
  replace h := it_f c5 h
  by_cases c8 : x1 = 2
  · replace h := it_t c8 h
    refine r_swIn X 2 c8 104 dX7_along_4 (by decide) (by decide) rfl (by decide) ?_
    refine r_aload_n X 0 dX7_along_104 rfl rfl ?_
    refine r_iconst X 0 dX7_along_105 rfl ?_
    obtain ⟨M9, eM9, h⟩ := nm_ex h
    refine r_puti X 9 in_X7 (ci := 6) rfl tyX7_ok nmX7 rfl (ltn hnc rfl) (Nat.le_of_ble_eq_true rfl) rfl w_618 rfl (ty := .int) rfl rfl rfl dX7_along_106 ?_
    refine r_mem eM9 ?_
    refine r_aload_n X 0 dX7_along_109 rfl rfl ?_
    refine r_iconst X 0 dX7_along_110 rfl ?_
    obtain ⟨M10, eM10, h⟩ := nm_ex h
    refine r_puti X 10 in_X7 (ci := 6) rfl tyX7_ok nmX7 rfl (ltn hnc rfl) (Nat.le_of_ble_eq_true rfl) rfl w_619 rfl (ty := .int) rfl rfl rfl dX7_along_111 ?_
    refine r_mem eM10 ?_
    exact r_vretE X hr dX7_along_114 h
  replace h := it_f c8 h
  by_cases c11 : x1 = 3
  · replace h := it_t c11 h
    refine r_swIn X 3 c11 76 dX7_along_4 (by decide) (by decide) rfl (by decide) ?_
    refine r_aload_n X 0 dX7_along_76 rfl rfl ?_
    refine r_iload_n X 2 dX7_along_77 rfl rfl ?_
    refine r_ineg X dX7_along_78 ?_
    obtain ⟨M12, eM12, h⟩ := nm_ex h
    refine r_puti X 9 in_X7 (ci := 6) rfl tyX7_ok nmX7 rfl (ltn hnc rfl) (Nat.le_of_ble_eq_true rfl) rfl w_618 rfl (ty := .int) rfl rfl rfl dX7_along_79 ?_
    refine r_mem eM12 ?_
    refine r_aload_n X 0 dX7_along_82 rfl rfl ?_
    refine r_iload_n X 1 dX7_along_83 rfl rfl ?_
    refine r_ineg X dX7_along_84 ?_
    refine r_iconst X 2 dX7_along_85 rfl ?_
    refine r_idiv X (by decide) dX7_along_86 ?_
    obtain ⟨M13, eM13, h⟩ := nm_ex h
    refine r_puti X 10 in_X7 (ci := 6) rfl tyX7_ok nmX7 rfl (ltn hnc rfl) (Nat.le_of_ble_eq_true rfl) rfl w_619 rfl (ty := .int) rfl rfl rfl dX7_along_87 ?_
    refine r_mem eM13 ?_
    exact r_vretE X hr dX7_along_90 h
  replace h := it_f c11 h
  by_cases c14 : x1 = 4
  · replace h := it_t c14 h
    refine r_swIn X 4 c14 91 dX7_along_4 (by decide) (by decide) rfl (by decide) ?_
    refine r_aload_n X 0 dX7_along_91 rfl rfl ?_
    refine r_iload_n X 1 dX7_along_92 rfl rfl ?_
    refine r_ineg X dX7_along_93 ?_
    obtain ⟨M15, eM15, h⟩ := nm_ex h
    refine r_puti X 9 in_X7 (ci := 6) rfl tyX7_ok nmX7 rfl (ltn hnc rfl) (Nat.le_of_ble_eq_true rfl) rfl w_618 rfl (ty := .int) rfl rfl rfl dX7_along_94 ?_
    refine r_mem eM15 ?_
    refine r_aload_n X 0 dX7_along_97 rfl rfl ?_
    refine r_iload_n X 2 dX7_along_98 rfl rfl ?_
    refine r_ineg X dX7_along_99 ?_
    obtain ⟨M16, eM16, h⟩ := nm_ex h
    refine r_puti X 10 in_X7 (ci := 6) rfl tyX7_ok nmX7 rfl (ltn hnc rfl) (Nat.le_of_ble_eq_true rfl) rfl w_619 rfl (ty := .int) rfl rfl rfl dX7_along_100 ?_
    refine r_mem eM16 ?_
    exact r_vretE X hr dX7_along_103 h
  replace h := it_f c14 h
  by_cases c17 : x1 = 5
  · replace h := it_t c17 h
    refine r_swIn X 5 c17 76 dX7_along_4 (by decide) (by decide) rfl (by decide) ?_
    refine r_aload_n X 0 dX7_along_76 rfl rfl ?_
    refine r_iload_n X 2 dX7_along_77 rfl rfl ?_
    refine r_ineg X dX7_along_78 ?_
    obtain ⟨M18, eM18, h⟩ := nm_ex h
    refine r_puti X 9 in_X7 (ci := 6) rfl tyX7_ok nmX7 rfl (ltn hnc rfl) (Nat.le_of_ble_eq_true rfl) rfl w_618 rfl (ty := .int) rfl rfl rfl dX7_along_79 ?_
    refine r_mem eM18 ?_
    refine r_aload_n X 0 dX7_along_82 rfl rfl ?_
    refine r_iload_n X 1 dX7_along_83 rfl rfl ?_
    refine r_ineg X dX7_along_84 ?_
    refine r_iconst X 2 dX7_along_85 rfl ?_
    refine r_idiv X (by decide) dX7_along_86 ?_
    obtain ⟨M19, eM19, h⟩ := nm_ex h
    refine r_puti X 10 in_X7 (ci := 6) rfl tyX7_ok nmX7 rfl (ltn hnc rfl) (Nat.le_of_ble_eq_true rfl) rfl w_619 rfl (ty := .int) rfl rfl rfl dX7_along_87 ?_
    refine r_mem eM19 ?_
    exact r_vretE X hr dX7_along_90 h
  replace h := it_f c17 h
  by_cases c20 : x1 = 6
  · replace h := it_t c20 h
    refine r_swIn X 6 c20 104 dX7_along_4 (by decide) (by decide) rfl (by decide) ?_
    refine r_aload_n X 0 dX7_along_104 rfl rfl ?_
    refine r_iconst X 0 dX7_along_105 rfl ?_
    obtain ⟨M21, eM21, h⟩ := nm_ex h
    refine r_puti X 9 in_X7 (ci := 6) rfl tyX7_ok nmX7 rfl (ltn hnc rfl) (Nat.le_of_ble_eq_true rfl) rfl w_618 rfl (ty := .int) rfl rfl rfl dX7_along_106 ?_
    refine r_mem eM21 ?_
    refine r_aload_n X 0 dX7_along_109 rfl rfl ?_
    refine r_iconst X 0 dX7_along_110 rfl ?_
    obtain ⟨M22, eM22, h⟩ := nm_ex h
    refine r_puti X 10 in_X7 (ci := 6) rfl tyX7_ok nmX7 rfl (ltn hnc rfl) (Nat.le_of_ble_eq_true rfl) rfl w_619 rfl (ty := .int) rfl rfl rfl dX7_along_111 ?_
    refine r_mem eM22 ?_
    exact r_vretE X hr dX7_along_114 h
  replace h := it_f c20 h
  by_cases c23 : x1 = 7
  · replace h := it_t c23 h
    refine r_swIn X 7 c23 63 dX7_along_4 (by decide) (by decide) rfl (by decide) ?_
    refine r_aload_n X 0 dX7_along_63 rfl rfl ?_
    refine r_iload_n X 2 dX7_along_64 rfl rfl ?_
    obtain ⟨M24, eM24, h⟩ := nm_ex h
    refine r_puti X 9 in_X7 (ci := 6) rfl tyX7_ok nmX7 rfl (ltn hnc rfl) (Nat.le_of_ble_eq_true rfl) rfl w_618 rfl (ty := .int) rfl rfl rfl dX7_along_65 ?_
    refine r_mem eM24 ?_
    refine r_aload_n X 0 dX7_along_68 rfl rfl ?_
    refine r_iload_n X 1 dX7_along_69 rfl rfl ?_
    refine r_iconst X 2 dX7_along_70 rfl ?_
    refine r_idiv X (by decide) dX7_along_71 ?_
    obtain ⟨M25, eM25, h⟩ := nm_ex h
    refine r_puti X 10 in_X7 (ci := 6) rfl tyX7_ok nmX7 rfl (ltn hnc rfl) (Nat.le_of_ble_eq_true rfl) rfl w_619 rfl (ty := .int) rfl rfl rfl dX7_along_72 ?_
    refine r_mem eM25 ?_
    exact r_vretE X hr dX7_along_75 h
  replace h := it_f c23 h
  have hsw : Int32.toInt x1 < 0 ∨ 7 < Int32.toInt x1 := sw_out (fun v9 h1 h2 h3 => by
    rcases (show v9 = 0 ∨ v9 = 1 ∨ v9 = 2 ∨ v9 = 3 ∨ v9 = 4 ∨ v9 = 5 ∨ v9 = 6 ∨ v9 = 7 by omega) with rfl | rfl | rfl | rfl | rfl | rfl | rfl | rfl
    · exact c2 (Int32.toInt_inj.mp (h3.trans (by decide)))
    · exact c5 (Int32.toInt_inj.mp (h3.trans (by decide)))
    · exact c8 (Int32.toInt_inj.mp (h3.trans (by decide)))
    · exact c11 (Int32.toInt_inj.mp (h3.trans (by decide)))
    · exact c14 (Int32.toInt_inj.mp (h3.trans (by decide)))
    · exact c17 (Int32.toInt_inj.mp (h3.trans (by decide)))
    · exact c20 (Int32.toInt_inj.mp (h3.trans (by decide)))
    · exact c23 (Int32.toInt_inj.mp (h3.trans (by decide))))
  refine r_swOut X 104 dX7_along_4 hsw (by decide) ?_
  refine r_aload_n X 0 dX7_along_104 rfl rfl ?_
  refine r_iconst X 0 dX7_along_105 rfl ?_
  obtain ⟨M26, eM26, h⟩ := nm_ex h
  refine r_puti X 9 in_X7 (ci := 6) rfl tyX7_ok nmX7 rfl (ltn hnc rfl) (Nat.le_of_ble_eq_true rfl) rfl w_618 rfl (ty := .int) rfl rfl rfl dX7_along_106 ?_
  refine r_mem eM26 ?_
  refine r_aload_n X 0 dX7_along_109 rfl rfl ?_
  refine r_iconst X 0 dX7_along_110 rfl ?_
  obtain ⟨M27, eM27, h⟩ := nm_ex h
  refine r_puti X 10 in_X7 (ci := 6) rfl tyX7_ok nmX7 rfl (ltn hnc rfl) (Nat.le_of_ble_eq_true rfl) rfl w_619 rfl (ty := .int) rfl rfl rfl dX7_along_111 ?_
  refine r_mem eM27 ?_
  exact r_vretE X hr dX7_along_114 h
def f_X7_adds (N : Nat) (M : Mem) (p0 : Int32) (p1 : Int32) (p2 : Int32) (p3 : Int32) : Option Mem :=
  bd (f_X7_along N M p1 p2 p3) fun M1 =>
  ck (inb p0 125) <|
  ck (inb p0 125) <|
  nm (seI M1 39 (ix p0) ((M1.1 39 (ix p0)) + (M1.1 34 9))) fun M5 =>
  ck (inb (p0 + (1 : Int32)) 125) <|
  ck (inb (p0 + (1 : Int32)) 125) <|
  nm (seI M5 39 (ix (p0 + (1 : Int32))) ((M5.1 39 (ix (p0 + (1 : Int32)))) + (M5.1 34 10))) fun M8 =>
  bd (f_X7_along N M8 p1 p2 (p3 - (2 : Int32))) fun M9 =>
  ck (inb (p0 + (2 : Int32)) 125) <|
  ck (inb (p0 + (2 : Int32)) 125) <|
  nm (seI M9 39 (ix (p0 + (2 : Int32))) ((M9.1 39 (ix (p0 + (2 : Int32)))) + (M9.1 34 9))) fun M13 =>
  ck (inb (p0 + (3 : Int32)) 125) <|
  ck (inb (p0 + (3 : Int32)) 125) <|
  nm (seI M13 39 (ix (p0 + (3 : Int32))) ((M13.1 39 (ix (p0 + (3 : Int32)))) + (M13.1 34 10))) fun M16 =>
  some M16
set_option maxRecDepth 100000 in
set_option maxHeartbeats 4000000 in
theorem k_X7_adds (l : Launch) (N : Nat) (nc : Nat) (hnc : 45 ≤ nc) (M : Mem) (p0 : Int32) (p1 : Int32) (p2 : Int32) (p3 : Int32) (M' : Mem) (h : f_X7_adds N M p0 p1 p2 p3 = some M') (d : Nat) (hd : 1 ≤ d) : Ct l d yX7_adds cX7_adds 5 none shp nc [.ref 34, .int p0, .int p1, .int p2, .int p3] M none M' := by
  obtain ⟨d, rfl⟩ : ∃ q, d = q + 1 := ⟨d - 1, by omega⟩
  unfold f_X7_adds at h
  refine Ct.of (by decide +kernel) (Nat.le_of_ble_eq_true rfl) ?_
  intro p e s m args below meth c A ad D cI cJ X hr
  refine r_sub (ls' := [(0, .ref 34), (1, .int p0), (2, .int p1), (3, .int p2), (4, .int p3)]) [0, 1, 2, 3, 4] rfl ?_
  refine r_aload_n X 0 dX7_adds_0 rfl rfl ?_
  refine r_iload_n X 2 dX7_adds_1 rfl rfl ?_
  refine r_iload_n X 3 dX7_adds_2 rfl rfl ?_
  refine r_iload X 4 dX7_adds_3 rfl ?_
  obtain ⟨M1, h2, h⟩ := bd_ex h
  refine r_callV X (st := []) (av := [.int p1, .int p2, .int p3]) (k := 34) (ci := 6) (k_X7_along l N _ hnc _ _ _ _ _ h2 d (by omega)) (fitR_s (Nat.le_of_ble_eq_true rfl)) ⟨Nat.le_refl 0, Nat.le_refl 0⟩ rfl (ltn hnc rfl) rfl w_742 w_47 w_741 w_22 w_739 hy_X7_along rfl (Nat.le_of_ble_eq_true rfl) dX7_adds_5 ?_
  refine r_aload_n X 0 dX7_adds_8 rfl rfl ?_
  refine r_getr X 6 39 in_X7 (ci := 6) rfl rfl (ltn hnc rfl) (Nat.le_of_ble_eq_true rfl) rfl w_615 dX7_adds_9 (by decide) ?_
  refine r_iload_n X 1 dX7_adds_12 rfl rfl ?_
  refine r_dup2 X dX7_adds_13 rfl rfl ?_
  obtain ⟨c3, h⟩ := ck_ex h
  refine r_iald X (n := 125) rfl (Or.inl (ltn hnc rfl)) c3 dX7_adds_14 ?_
  refine r_aload_n X 0 dX7_adds_15 rfl rfl ?_
  refine r_geti X 9 in_X7 (ci := 6) rfl rfl (ltn hnc rfl) (Nat.le_of_ble_eq_true rfl) rfl w_618 dX7_adds_16 ?_
  refine r_iadd X dX7_adds_19 ?_
  obtain ⟨c4, h⟩ := ck_ex h
  obtain ⟨M5, eM5, h⟩ := nm_ex h
  refine r_iast X (n := 125) rfl (ltn hnc rfl) c4 dX7_adds_20 ?_
  refine r_mem eM5 ?_
  refine r_aload_n X 0 dX7_adds_21 rfl rfl ?_
  refine r_getr X 6 39 in_X7 (ci := 6) rfl rfl (ltn hnc rfl) (Nat.le_of_ble_eq_true rfl) rfl w_615 dX7_adds_22 (by decide) ?_
  refine r_iload_n X 1 dX7_adds_25 rfl rfl ?_
  refine r_iconst X 1 dX7_adds_26 rfl ?_
  refine r_iadd X dX7_adds_27 ?_
  refine r_dup2 X dX7_adds_28 rfl rfl ?_
  obtain ⟨c6, h⟩ := ck_ex h
  refine r_iald X (n := 125) rfl (Or.inl (ltn hnc rfl)) c6 dX7_adds_29 ?_
  refine r_aload_n X 0 dX7_adds_30 rfl rfl ?_
  refine r_geti X 10 in_X7 (ci := 6) rfl rfl (ltn hnc rfl) (Nat.le_of_ble_eq_true rfl) rfl w_619 dX7_adds_31 ?_
  refine r_iadd X dX7_adds_34 ?_
  obtain ⟨c7, h⟩ := ck_ex h
  obtain ⟨M8, eM8, h⟩ := nm_ex h
  refine r_iast X (n := 125) rfl (ltn hnc rfl) c7 dX7_adds_35 ?_
  refine r_mem eM8 ?_
  refine r_aload_n X 0 dX7_adds_36 rfl rfl ?_
  refine r_iload_n X 2 dX7_adds_37 rfl rfl ?_
  refine r_iload_n X 3 dX7_adds_38 rfl rfl ?_
  refine r_iload X 4 dX7_adds_39 rfl ?_
  refine r_iconst X 2 dX7_adds_41 rfl ?_
  refine r_isub X dX7_adds_42 ?_
  obtain ⟨M9, h10, h⟩ := bd_ex h
  refine r_callV X (st := []) (av := [.int p1, .int p2, .int (p3 - (2 : Int32))]) (k := 34) (ci := 6) (k_X7_along l N _ hnc _ _ _ _ _ h10 d (by omega)) (fitR_s (Nat.le_of_ble_eq_true rfl)) ⟨Nat.le_refl 0, Nat.le_refl 0⟩ rfl (ltn hnc rfl) rfl w_742 w_47 w_741 w_22 w_739 hy_X7_along rfl (Nat.le_of_ble_eq_true rfl) dX7_adds_43 ?_
  refine r_aload_n X 0 dX7_adds_46 rfl rfl ?_
  refine r_getr X 6 39 in_X7 (ci := 6) rfl rfl (ltn hnc rfl) (Nat.le_of_ble_eq_true rfl) rfl w_615 dX7_adds_47 (by decide) ?_
  refine r_iload_n X 1 dX7_adds_50 rfl rfl ?_
  refine r_iconst X 2 dX7_adds_51 rfl ?_
  refine r_iadd X dX7_adds_52 ?_
  refine r_dup2 X dX7_adds_53 rfl rfl ?_
  obtain ⟨c11, h⟩ := ck_ex h
  refine r_iald X (n := 125) rfl (Or.inl (ltn hnc rfl)) c11 dX7_adds_54 ?_
  refine r_aload_n X 0 dX7_adds_55 rfl rfl ?_
  refine r_geti X 9 in_X7 (ci := 6) rfl rfl (ltn hnc rfl) (Nat.le_of_ble_eq_true rfl) rfl w_618 dX7_adds_56 ?_
  refine r_iadd X dX7_adds_59 ?_
  obtain ⟨c12, h⟩ := ck_ex h
  obtain ⟨M13, eM13, h⟩ := nm_ex h
  refine r_iast X (n := 125) rfl (ltn hnc rfl) c12 dX7_adds_60 ?_
  refine r_mem eM13 ?_
  refine r_aload_n X 0 dX7_adds_61 rfl rfl ?_
  refine r_getr X 6 39 in_X7 (ci := 6) rfl rfl (ltn hnc rfl) (Nat.le_of_ble_eq_true rfl) rfl w_615 dX7_adds_62 (by decide) ?_
  refine r_iload_n X 1 dX7_adds_65 rfl rfl ?_
  refine r_iconst X 3 dX7_adds_66 rfl ?_
  refine r_iadd X dX7_adds_67 ?_
  refine r_dup2 X dX7_adds_68 rfl rfl ?_
  obtain ⟨c14, h⟩ := ck_ex h
  refine r_iald X (n := 125) rfl (Or.inl (ltn hnc rfl)) c14 dX7_adds_69 ?_
  refine r_aload_n X 0 dX7_adds_70 rfl rfl ?_
  refine r_geti X 10 in_X7 (ci := 6) rfl rfl (ltn hnc rfl) (Nat.le_of_ble_eq_true rfl) rfl w_619 dX7_adds_71 ?_
  refine r_iadd X dX7_adds_74 ?_
  obtain ⟨c15, h⟩ := ck_ex h
  obtain ⟨M16, eM16, h⟩ := nm_ex h
  refine r_iast X (n := 125) rfl (ltn hnc rfl) c15 dX7_adds_75 ?_
  refine r_mem eM16 ?_
  exact r_vretE X hr dX7_adds_76 h
def l_X7_lays_16 (N : Nat)    : Nat → Mem → Int32 → Int32 → Int32 → Option Mem
  | 0, _, _, _, _ => none
  | n + 1, M, v2, v3, v4 =>
    if (5 : Int32) ≤ v4 then
      (ck (inb (v3 + (4 : Int32)) 125) <|
      nm (M.1 39 (ix (v3 + (4 : Int32)))) fun x5 =>
      bd2 (f_X7_kindOf N M v2) fun r7 M6 =>
      ck (inb ((7 : Int32) + r7) 56) <|
      nm (M6.1 36 (ix ((7 : Int32) + r7))) fun x10 =>
      bd2 (f_X7_turnOf N M6 v2) fun r12 M11 =>
      if 0 ≤ r12 then
        (nm (x5 + (2 : Int32)) fun x15 =>
        if r12 = 0 then
          (bd (f_X7_adds N M11 v3 ((2 : Int32) * x10) (0 : Int32) x5) fun M37 =>
          ck (inb (v3 + (4 : Int32)) 125) <|
          nm (seI M37 39 (ix (v3 + (4 : Int32))) ((x5 + r12) &&& (7 : Int32))) fun M40 =>
          some M40)
        else
          (if r12 = (1 : Int32) then
            (bd (f_X7_adds N M11 v3 (0 : Int32) x10 x5) fun M18 =>
            bd (f_X7_adds N M18 v3 ((2 : Int32) * x10) (-x10) x15) fun M20 =>
            ck (inb (v3 + (4 : Int32)) 125) <|
            nm (seI M20 39 (ix (v3 + (4 : Int32))) ((x5 + r12) &&& (7 : Int32))) fun M23 =>
            some M23)
          else
            (if r12 = (-1 : Int32) then
              (bd (f_X7_adds N M11 v3 (0 : Int32) x10 x5) fun M31 =>
              bd (f_X7_adds N M31 v3 ((2 : Int32) * x10) (-x10) x15) fun M33 =>
              ck (inb (v3 + (4 : Int32)) 125) <|
              nm (seI M33 39 (ix (v3 + (4 : Int32))) ((x5 + r12) &&& (7 : Int32))) fun M36 =>
              some M36)
            else
              (bd (f_X7_adds N M11 v3 ((2 : Int32) * x10) (0 : Int32) x5) fun M25 =>
              bd (f_X7_adds N M25 v3 ((2 : Int32) * x10) (0 : Int32) x15) fun M27 =>
              ck (inb (v3 + (4 : Int32)) 125) <|
              nm (seI M27 39 (ix (v3 + (4 : Int32))) ((x5 + r12) &&& (7 : Int32))) fun M30 =>
              some M30))))
      else
        (nm (x5 - (2 : Int32)) fun x41 =>
        if r12 = 0 then
          (bd (f_X7_adds N M11 v3 ((2 : Int32) * x10) (0 : Int32) x5) fun M63 =>
          ck (inb (v3 + (4 : Int32)) 125) <|
          nm (seI M63 39 (ix (v3 + (4 : Int32))) ((x5 + r12) &&& (7 : Int32))) fun M66 =>
          some M66)
        else
          (if r12 = (1 : Int32) then
            (bd (f_X7_adds N M11 v3 (0 : Int32) x10 x5) fun M44 =>
            bd (f_X7_adds N M44 v3 ((2 : Int32) * x10) (-x10) x41) fun M46 =>
            ck (inb (v3 + (4 : Int32)) 125) <|
            nm (seI M46 39 (ix (v3 + (4 : Int32))) ((x5 + r12) &&& (7 : Int32))) fun M49 =>
            some M49)
          else
            (if r12 = (-1 : Int32) then
              (bd (f_X7_adds N M11 v3 (0 : Int32) x10 x5) fun M57 =>
              bd (f_X7_adds N M57 v3 ((2 : Int32) * x10) (-x10) x41) fun M59 =>
              ck (inb (v3 + (4 : Int32)) 125) <|
              nm (seI M59 39 (ix (v3 + (4 : Int32))) ((x5 + r12) &&& (7 : Int32))) fun M62 =>
              some M62)
            else
              (bd (f_X7_adds N M11 v3 ((2 : Int32) * x10) (0 : Int32) x5) fun M51 =>
              bd (f_X7_adds N M51 v3 ((2 : Int32) * x10) (0 : Int32) x41) fun M53 =>
              ck (inb (v3 + (4 : Int32)) 125) <|
              nm (seI M53 39 (ix (v3 + (4 : Int32))) ((x5 + r12) &&& (7 : Int32))) fun M56 =>
              some M56)))))
    else
      (ck (inb ((v3 - (5 : Int32)) + v4) 125) <|
      ck (inb (v3 + v4) 125) <|
      nm (seI M 39 (ix (v3 + v4)) (M.1 39 (ix ((v3 - (5 : Int32)) + v4)))) fun M69 =>
      l_X7_lays_16 N n M69 v2 v3 (v4 + 1))
def f_X7_lays (N : Nat) (M : Mem) (p0 : Int32) : Option Mem :=
  ck (inb p0 24) <|
  nm ((5 : Int32) * (p0 + (1 : Int32))) fun x2 =>
  l_X7_lays_16 N N M (M.1 40 (ix p0)) x2 (0 : Int32)
set_option maxRecDepth 100000 in
set_option maxHeartbeats 4000000 in
theorem k_X7_lays (l : Launch) (N : Nat) (nc : Nat) (hnc : 45 ≤ nc) (M : Mem) (p0 : Int32) (M' : Mem) (h : f_X7_lays N M p0 = some M') (d : Nat) (hd : 2 ≤ d) : Ct l d yX7_lays cX7_lays 8 none shp nc [.ref 34, .int p0] M none M' := by
  obtain ⟨d, rfl⟩ : ∃ q, d = q + 1 := ⟨d - 1, by omega⟩
  unfold f_X7_lays at h
  refine Ct.of (by decide +kernel) (Nat.le_of_ble_eq_true rfl) ?_
  intro p e s m args below meth c A ad D cI cJ X hr
  have hl16 : ∀ (n : Nat) (M : Mem) (v2 : Int32) (v3 : Int32) (v4 : Int32), l_X7_lays_16 N n M v2 v3 v4 = some M' → AW p l e (rmd (d + 1)) s m args below meth c 8 A ad D cI cJ shp nc 0 0 (MQ below (Qq A ad D cI cJ shp nc none M') args s 0 0 A) M 16 [(0, .ref 34), (2, .int v2), (3, .int v3), (4, .int v4)] [] := by
    intro n
    induction n with
    | zero => intro M v2 v3 v4 h; cases h
    | succ n ih =>
      intro M v2 v3 v4 h
      rw [l_X7_lays_16] at h
      refine r_iload X 3 dX7_lays_16 rfl ?_
      refine r_iconst X 5 dX7_lays_18 rfl ?_
      refine r_icge X 48 dX7_lays_19 (by decide) (fun c3 => ?_) (fun c3 => ?_)
      · replace h := it_t c3 h
        refine r_aload_n X 0 dX7_lays_48 rfl rfl ?_
        refine r_getr X 6 39 in_X7 (ci := 6) rfl rfl (ltn hnc rfl) (Nat.le_of_ble_eq_true rfl) rfl w_615 dX7_lays_49 (by decide) ?_
        refine r_iload_n X 2 dX7_lays_52 rfl rfl ?_
        refine r_iconst X 4 dX7_lays_53 rfl ?_
        refine r_iadd X dX7_lays_54 ?_
        obtain ⟨c4, h⟩ := ck_ex h
        refine r_iald X (n := 125) rfl (Or.inl (ltn hnc rfl)) c4 dX7_lays_55 ?_
        obtain ⟨x5, ex5, h⟩ := nm_ex h
        refine r_top ex5 ?_
        refine r_istore X [(4, .int x5), (0, .ref 34), (2, .int v2), (3, .int v3)] dX7_lays_56 (Nat.le_of_ble_eq_true rfl) rfl ?_
        refine r_aload_n X 1 dX7_lays_58 rfl rfl ?_
        refine r_getr X 1 36 in_X7 (ci := 6) rfl rfl (ltn hnc rfl) (Nat.le_of_ble_eq_true rfl) rfl w_610 dX7_lays_59 (by decide) ?_
        refine r_bipush X 7 dX7_lays_62 rfl ?_
        refine r_iload_n X 2 dX7_lays_64 rfl rfl ?_
        obtain ⟨r7, M6, h8, h⟩ := bd2_ex h
        refine r_callS X (st := [.int (7 : Int32), .ref 36]) (av := [.int v2]) (k_X7_kindOf l N _ hnc _ _ _ _ h8 d (by omega)) (fitR_s (Nat.le_of_ble_eq_true rfl)) ⟨Nat.le_refl 0, Nat.le_refl 0⟩ w_731 w_47 w_730 w_729 hy_X7_kindOf rfl (Nat.le_of_ble_eq_true rfl) dX7_lays_65 ?_
        refine r_iadd X dX7_lays_68 ?_
        obtain ⟨c9, h⟩ := ck_ex h
        refine r_iald X (n := 56) rfl (Or.inl (ltn hnc rfl)) c9 dX7_lays_69 ?_
        obtain ⟨x10, ex10, h⟩ := nm_ex h
        refine r_top ex10 ?_
        refine r_istore X [(5, .int x10), (4, .int x5), (0, .ref 34), (2, .int v2), (3, .int v3)] dX7_lays_70 (Nat.le_of_ble_eq_true rfl) rfl ?_
        refine r_iload_n X 3 dX7_lays_72 rfl rfl ?_
        obtain ⟨r12, M11, h13, h⟩ := bd2_ex h
        refine r_callS X (st := []) (av := [.int v2]) (k_X7_turnOf l N _ hnc _ _ _ _ h13 d (by omega)) (fitR_s (Nat.le_of_ble_eq_true rfl)) ⟨Nat.le_refl 0, Nat.le_refl 0⟩ w_734 w_47 w_733 w_732 hy_X7_turnOf rfl (Nat.le_of_ble_eq_true rfl) dX7_lays_73 ?_
        refine r_istore X [(6, .int r12), (5, .int x10), (4, .int x5), (0, .ref 34), (2, .int v2), (3, .int v3)] dX7_lays_76 (Nat.le_of_ble_eq_true rfl) rfl ?_
        refine r_iload X 0 dX7_lays_78 rfl ?_
        refine r_ifge X 90 dX7_lays_80 (by decide) (fun c14 => ?_) (fun c14 => ?_)
        · replace h := it_t c14 h
          refine r_iload X 2 dX7_lays_90 rfl ?_
          refine r_iconst X 2 dX7_lays_92 rfl ?_
          refine r_iadd X dX7_lays_93 ?_
          obtain ⟨x15, ex15, h⟩ := nm_ex h
          refine r_top ex15 ?_
          refine r_istore X [(7, .int x15), (6, .int r12), (5, .int x10), (4, .int x5), (0, .ref 34), (2, .int v2), (3, .int v3)] dX7_lays_94 (Nat.le_of_ble_eq_true rfl) rfl ?_
          refine r_iload X 1 dX7_lays_96 rfl ?_
          refine r_ifne X 116 dX7_lays_98 (by decide) (fun c16 => ?_) (fun c16 => ?_)
          · replace h := it_f c16 h
            refine r_iload X 1 dX7_lays_116 rfl ?_
            refine r_iconst X 1 dX7_lays_118 rfl ?_
            refine r_iceq X 128 dX7_lays_119 (by decide) (fun c17 => ?_) (fun c17 => ?_)
            · replace h := it_t c17 h
              refine r_aload_n X 4 dX7_lays_128 rfl rfl ?_
              refine r_iload_n X 6 dX7_lays_129 rfl rfl ?_
              refine r_iconst X 0 dX7_lays_130 rfl ?_
              refine r_iload X 2 dX7_lays_131 rfl ?_
              refine r_iload X 3 dX7_lays_133 rfl ?_
              obtain ⟨M18, h19, h⟩ := bd_ex h
              refine r_callV X (st := []) (av := [.int v3, .int (0 : Int32), .int x10, .int x5]) (k := 34) (ci := 6) (k_X7_adds l N _ hnc _ _ _ _ _ _ h19 d (by omega)) (fitR_s (Nat.le_of_ble_eq_true rfl)) ⟨Nat.le_refl 0, Nat.le_refl 0⟩ rfl (ltn hnc rfl) rfl w_738 w_47 w_737 w_21 w_735 hy_X7_adds rfl (Nat.le_of_ble_eq_true rfl) dX7_lays_135 ?_
              refine r_aload_n X 4 dX7_lays_138 rfl rfl ?_
              refine r_iload_n X 6 dX7_lays_139 rfl rfl ?_
              refine r_iconst X 2 dX7_lays_140 rfl ?_
              refine r_iload X 2 dX7_lays_141 rfl ?_
              refine r_imul X dX7_lays_143 ?_
              refine r_iload X 2 dX7_lays_144 rfl ?_
              refine r_ineg X dX7_lays_146 ?_
              refine r_iload X 0 dX7_lays_147 rfl ?_
              obtain ⟨M20, h21, h⟩ := bd_ex h
              refine r_callV X (st := []) (av := [.int v3, .int ((2 : Int32) * x10), .int (-x10), .int x15]) (k := 34) (ci := 6) (k_X7_adds l N _ hnc _ _ _ _ _ _ h21 d (by omega)) (fitR_s (Nat.le_of_ble_eq_true rfl)) ⟨Nat.le_refl 0, Nat.le_refl 0⟩ rfl (ltn hnc rfl) rfl w_738 w_47 w_737 w_21 w_735 hy_X7_adds rfl (Nat.le_of_ble_eq_true rfl) dX7_lays_149 ?_
              refine r_goto X 179 dX7_lays_152 (by decide) ?_
              refine r_aload_n X 4 dX7_lays_179 rfl rfl ?_
              refine r_getr X 6 39 in_X7 (ci := 6) rfl rfl (ltn hnc rfl) (Nat.le_of_ble_eq_true rfl) rfl w_615 dX7_lays_180 (by decide) ?_
              refine r_iload_n X 6 dX7_lays_183 rfl rfl ?_
              refine r_iconst X 4 dX7_lays_184 rfl ?_
              refine r_iadd X dX7_lays_185 ?_
              refine r_iload X 3 dX7_lays_186 rfl ?_
              refine r_iload X 1 dX7_lays_188 rfl ?_
              refine r_iadd X dX7_lays_190 ?_
              refine r_bipush X 7 dX7_lays_191 rfl ?_
              refine r_iand X dX7_lays_193 ?_
              obtain ⟨c22, h⟩ := ck_ex h
              obtain ⟨M23, eM23, h⟩ := nm_ex h
              refine r_iast X (n := 125) rfl (ltn hnc rfl) c22 dX7_lays_194 ?_
              refine r_mem eM23 ?_
              exact r_vretE X hr dX7_lays_195 h
            · replace h := it_f c17 h
              refine r_iload X 1 dX7_lays_122 rfl ?_
              refine r_iconst X (-1) dX7_lays_124 rfl ?_
              refine r_icne X 155 dX7_lays_125 (by decide) (fun c24 => ?_) (fun c24 => ?_)
              · replace h := it_f c24 h
                refine r_aload_n X 4 dX7_lays_155 rfl rfl ?_
                refine r_iload_n X 6 dX7_lays_156 rfl rfl ?_
                refine r_iconst X 2 dX7_lays_157 rfl ?_
                refine r_iload X 2 dX7_lays_158 rfl ?_
                refine r_imul X dX7_lays_160 ?_
                refine r_iconst X 0 dX7_lays_161 rfl ?_
                refine r_iload X 3 dX7_lays_162 rfl ?_
                obtain ⟨M25, h26, h⟩ := bd_ex h
                refine r_callV X (st := []) (av := [.int v3, .int ((2 : Int32) * x10), .int (0 : Int32), .int x5]) (k := 34) (ci := 6) (k_X7_adds l N _ hnc _ _ _ _ _ _ h26 d (by omega)) (fitR_s (Nat.le_of_ble_eq_true rfl)) ⟨Nat.le_refl 0, Nat.le_refl 0⟩ rfl (ltn hnc rfl) rfl w_738 w_47 w_737 w_21 w_735 hy_X7_adds rfl (Nat.le_of_ble_eq_true rfl) dX7_lays_164 ?_
                refine r_aload_n X 4 dX7_lays_167 rfl rfl ?_
                refine r_iload_n X 6 dX7_lays_168 rfl rfl ?_
                refine r_iconst X 2 dX7_lays_169 rfl ?_
                refine r_iload X 2 dX7_lays_170 rfl ?_
                refine r_imul X dX7_lays_172 ?_
                refine r_iconst X 0 dX7_lays_173 rfl ?_
                refine r_iload X 0 dX7_lays_174 rfl ?_
                obtain ⟨M27, h28, h⟩ := bd_ex h
                refine r_callV X (st := []) (av := [.int v3, .int ((2 : Int32) * x10), .int (0 : Int32), .int x15]) (k := 34) (ci := 6) (k_X7_adds l N _ hnc _ _ _ _ _ _ h28 d (by omega)) (fitR_s (Nat.le_of_ble_eq_true rfl)) ⟨Nat.le_refl 0, Nat.le_refl 0⟩ rfl (ltn hnc rfl) rfl w_738 w_47 w_737 w_21 w_735 hy_X7_adds rfl (Nat.le_of_ble_eq_true rfl) dX7_lays_176 ?_
                refine r_aload_n X 4 dX7_lays_179 rfl rfl ?_
                refine r_getr X 6 39 in_X7 (ci := 6) rfl rfl (ltn hnc rfl) (Nat.le_of_ble_eq_true rfl) rfl w_615 dX7_lays_180 (by decide) ?_
                refine r_iload_n X 6 dX7_lays_183 rfl rfl ?_
                refine r_iconst X 4 dX7_lays_184 rfl ?_
                refine r_iadd X dX7_lays_185 ?_
                refine r_iload X 3 dX7_lays_186 rfl ?_
                refine r_iload X 1 dX7_lays_188 rfl ?_
                refine r_iadd X dX7_lays_190 ?_
                refine r_bipush X 7 dX7_lays_191 rfl ?_
                refine r_iand X dX7_lays_193 ?_
                obtain ⟨c29, h⟩ := ck_ex h
                obtain ⟨M30, eM30, h⟩ := nm_ex h
                refine r_iast X (n := 125) rfl (ltn hnc rfl) c29 dX7_lays_194 ?_
                refine r_mem eM30 ?_
                exact r_vretE X hr dX7_lays_195 h
              · replace h := it_t c24 h
                refine r_aload_n X 4 dX7_lays_128 rfl rfl ?_
                refine r_iload_n X 6 dX7_lays_129 rfl rfl ?_
                refine r_iconst X 0 dX7_lays_130 rfl ?_
                refine r_iload X 2 dX7_lays_131 rfl ?_
                refine r_iload X 3 dX7_lays_133 rfl ?_
                obtain ⟨M31, h32, h⟩ := bd_ex h
                refine r_callV X (st := []) (av := [.int v3, .int (0 : Int32), .int x10, .int x5]) (k := 34) (ci := 6) (k_X7_adds l N _ hnc _ _ _ _ _ _ h32 d (by omega)) (fitR_s (Nat.le_of_ble_eq_true rfl)) ⟨Nat.le_refl 0, Nat.le_refl 0⟩ rfl (ltn hnc rfl) rfl w_738 w_47 w_737 w_21 w_735 hy_X7_adds rfl (Nat.le_of_ble_eq_true rfl) dX7_lays_135 ?_
                refine r_aload_n X 4 dX7_lays_138 rfl rfl ?_
                refine r_iload_n X 6 dX7_lays_139 rfl rfl ?_
                refine r_iconst X 2 dX7_lays_140 rfl ?_
                refine r_iload X 2 dX7_lays_141 rfl ?_
                refine r_imul X dX7_lays_143 ?_
                refine r_iload X 2 dX7_lays_144 rfl ?_
                refine r_ineg X dX7_lays_146 ?_
                refine r_iload X 0 dX7_lays_147 rfl ?_
                obtain ⟨M33, h34, h⟩ := bd_ex h
                refine r_callV X (st := []) (av := [.int v3, .int ((2 : Int32) * x10), .int (-x10), .int x15]) (k := 34) (ci := 6) (k_X7_adds l N _ hnc _ _ _ _ _ _ h34 d (by omega)) (fitR_s (Nat.le_of_ble_eq_true rfl)) ⟨Nat.le_refl 0, Nat.le_refl 0⟩ rfl (ltn hnc rfl) rfl w_738 w_47 w_737 w_21 w_735 hy_X7_adds rfl (Nat.le_of_ble_eq_true rfl) dX7_lays_149 ?_
                refine r_goto X 179 dX7_lays_152 (by decide) ?_
                refine r_aload_n X 4 dX7_lays_179 rfl rfl ?_
                refine r_getr X 6 39 in_X7 (ci := 6) rfl rfl (ltn hnc rfl) (Nat.le_of_ble_eq_true rfl) rfl w_615 dX7_lays_180 (by decide) ?_
                refine r_iload_n X 6 dX7_lays_183 rfl rfl ?_
                refine r_iconst X 4 dX7_lays_184 rfl ?_
                refine r_iadd X dX7_lays_185 ?_
                refine r_iload X 3 dX7_lays_186 rfl ?_
                refine r_iload X 1 dX7_lays_188 rfl ?_
                refine r_iadd X dX7_lays_190 ?_
                refine r_bipush X 7 dX7_lays_191 rfl ?_
                refine r_iand X dX7_lays_193 ?_
                obtain ⟨c35, h⟩ := ck_ex h
                obtain ⟨M36, eM36, h⟩ := nm_ex h
                refine r_iast X (n := 125) rfl (ltn hnc rfl) c35 dX7_lays_194 ?_
                refine r_mem eM36 ?_
                exact r_vretE X hr dX7_lays_195 h
          · replace h := it_t c16 h
            refine r_aload_n X 4 dX7_lays_101 rfl rfl ?_
            refine r_iload_n X 6 dX7_lays_102 rfl rfl ?_
            refine r_iconst X 2 dX7_lays_103 rfl ?_
            refine r_iload X 2 dX7_lays_104 rfl ?_
            refine r_imul X dX7_lays_106 ?_
            refine r_iconst X 0 dX7_lays_107 rfl ?_
            refine r_iload X 3 dX7_lays_108 rfl ?_
            obtain ⟨M37, h38, h⟩ := bd_ex h
            refine r_callV X (st := []) (av := [.int v3, .int ((2 : Int32) * x10), .int (0 : Int32), .int x5]) (k := 34) (ci := 6) (k_X7_adds l N _ hnc _ _ _ _ _ _ h38 d (by omega)) (fitR_s (Nat.le_of_ble_eq_true rfl)) ⟨Nat.le_refl 0, Nat.le_refl 0⟩ rfl (ltn hnc rfl) rfl w_738 w_47 w_737 w_21 w_735 hy_X7_adds rfl (Nat.le_of_ble_eq_true rfl) dX7_lays_110 ?_
            refine r_goto X 179 dX7_lays_113 (by decide) ?_
            refine r_aload_n X 4 dX7_lays_179 rfl rfl ?_
            refine r_getr X 6 39 in_X7 (ci := 6) rfl rfl (ltn hnc rfl) (Nat.le_of_ble_eq_true rfl) rfl w_615 dX7_lays_180 (by decide) ?_
            refine r_iload_n X 6 dX7_lays_183 rfl rfl ?_
            refine r_iconst X 4 dX7_lays_184 rfl ?_
            refine r_iadd X dX7_lays_185 ?_
            refine r_iload X 3 dX7_lays_186 rfl ?_
            refine r_iload X 1 dX7_lays_188 rfl ?_
            refine r_iadd X dX7_lays_190 ?_
            refine r_bipush X 7 dX7_lays_191 rfl ?_
            refine r_iand X dX7_lays_193 ?_
            obtain ⟨c39, h⟩ := ck_ex h
            obtain ⟨M40, eM40, h⟩ := nm_ex h
            refine r_iast X (n := 125) rfl (ltn hnc rfl) c39 dX7_lays_194 ?_
            refine r_mem eM40 ?_
            exact r_vretE X hr dX7_lays_195 h
        · replace h := it_f c14 h
          refine r_iload X 2 dX7_lays_83 rfl ?_
          refine r_iconst X 2 dX7_lays_85 rfl ?_
          refine r_isub X dX7_lays_86 ?_
          refine r_goto X 94 dX7_lays_87 (by decide) ?_
          obtain ⟨x41, ex41, h⟩ := nm_ex h
          refine r_top ex41 ?_
          refine r_istore X [(7, .int x41), (6, .int r12), (5, .int x10), (4, .int x5), (0, .ref 34), (2, .int v2), (3, .int v3)] dX7_lays_94 (Nat.le_of_ble_eq_true rfl) rfl ?_
          refine r_iload X 1 dX7_lays_96 rfl ?_
          refine r_ifne X 116 dX7_lays_98 (by decide) (fun c42 => ?_) (fun c42 => ?_)
          · replace h := it_f c42 h
            refine r_iload X 1 dX7_lays_116 rfl ?_
            refine r_iconst X 1 dX7_lays_118 rfl ?_
            refine r_iceq X 128 dX7_lays_119 (by decide) (fun c43 => ?_) (fun c43 => ?_)
            · replace h := it_t c43 h
              refine r_aload_n X 4 dX7_lays_128 rfl rfl ?_
              refine r_iload_n X 6 dX7_lays_129 rfl rfl ?_
              refine r_iconst X 0 dX7_lays_130 rfl ?_
              refine r_iload X 2 dX7_lays_131 rfl ?_
              refine r_iload X 3 dX7_lays_133 rfl ?_
              obtain ⟨M44, h45, h⟩ := bd_ex h
              refine r_callV X (st := []) (av := [.int v3, .int (0 : Int32), .int x10, .int x5]) (k := 34) (ci := 6) (k_X7_adds l N _ hnc _ _ _ _ _ _ h45 d (by omega)) (fitR_s (Nat.le_of_ble_eq_true rfl)) ⟨Nat.le_refl 0, Nat.le_refl 0⟩ rfl (ltn hnc rfl) rfl w_738 w_47 w_737 w_21 w_735 hy_X7_adds rfl (Nat.le_of_ble_eq_true rfl) dX7_lays_135 ?_
              refine r_aload_n X 4 dX7_lays_138 rfl rfl ?_
              refine r_iload_n X 6 dX7_lays_139 rfl rfl ?_
              refine r_iconst X 2 dX7_lays_140 rfl ?_
              refine r_iload X 2 dX7_lays_141 rfl ?_
              refine r_imul X dX7_lays_143 ?_
              refine r_iload X 2 dX7_lays_144 rfl ?_
              refine r_ineg X dX7_lays_146 ?_
              refine r_iload X 0 dX7_lays_147 rfl ?_
              obtain ⟨M46, h47, h⟩ := bd_ex h
              refine r_callV X (st := []) (av := [.int v3, .int ((2 : Int32) * x10), .int (-x10), .int x41]) (k := 34) (ci := 6) (k_X7_adds l N _ hnc _ _ _ _ _ _ h47 d (by omega)) (fitR_s (Nat.le_of_ble_eq_true rfl)) ⟨Nat.le_refl 0, Nat.le_refl 0⟩ rfl (ltn hnc rfl) rfl w_738 w_47 w_737 w_21 w_735 hy_X7_adds rfl (Nat.le_of_ble_eq_true rfl) dX7_lays_149 ?_
              refine r_goto X 179 dX7_lays_152 (by decide) ?_
              refine r_aload_n X 4 dX7_lays_179 rfl rfl ?_
              refine r_getr X 6 39 in_X7 (ci := 6) rfl rfl (ltn hnc rfl) (Nat.le_of_ble_eq_true rfl) rfl w_615 dX7_lays_180 (by decide) ?_
              refine r_iload_n X 6 dX7_lays_183 rfl rfl ?_
              refine r_iconst X 4 dX7_lays_184 rfl ?_
              refine r_iadd X dX7_lays_185 ?_
              refine r_iload X 3 dX7_lays_186 rfl ?_
              refine r_iload X 1 dX7_lays_188 rfl ?_
              refine r_iadd X dX7_lays_190 ?_
              refine r_bipush X 7 dX7_lays_191 rfl ?_
              refine r_iand X dX7_lays_193 ?_
              obtain ⟨c48, h⟩ := ck_ex h
              obtain ⟨M49, eM49, h⟩ := nm_ex h
              refine r_iast X (n := 125) rfl (ltn hnc rfl) c48 dX7_lays_194 ?_
              refine r_mem eM49 ?_
              exact r_vretE X hr dX7_lays_195 h
            · replace h := it_f c43 h
              refine r_iload X 1 dX7_lays_122 rfl ?_
              refine r_iconst X (-1) dX7_lays_124 rfl ?_
              refine r_icne X 155 dX7_lays_125 (by decide) (fun c50 => ?_) (fun c50 => ?_)
              · replace h := it_f c50 h
                refine r_aload_n X 4 dX7_lays_155 rfl rfl ?_
                refine r_iload_n X 6 dX7_lays_156 rfl rfl ?_
                refine r_iconst X 2 dX7_lays_157 rfl ?_
                refine r_iload X 2 dX7_lays_158 rfl ?_
                refine r_imul X dX7_lays_160 ?_
                refine r_iconst X 0 dX7_lays_161 rfl ?_
                refine r_iload X 3 dX7_lays_162 rfl ?_
                obtain ⟨M51, h52, h⟩ := bd_ex h
                refine r_callV X (st := []) (av := [.int v3, .int ((2 : Int32) * x10), .int (0 : Int32), .int x5]) (k := 34) (ci := 6) (k_X7_adds l N _ hnc _ _ _ _ _ _ h52 d (by omega)) (fitR_s (Nat.le_of_ble_eq_true rfl)) ⟨Nat.le_refl 0, Nat.le_refl 0⟩ rfl (ltn hnc rfl) rfl w_738 w_47 w_737 w_21 w_735 hy_X7_adds rfl (Nat.le_of_ble_eq_true rfl) dX7_lays_164 ?_
                refine r_aload_n X 4 dX7_lays_167 rfl rfl ?_
                refine r_iload_n X 6 dX7_lays_168 rfl rfl ?_
                refine r_iconst X 2 dX7_lays_169 rfl ?_
                refine r_iload X 2 dX7_lays_170 rfl ?_
                refine r_imul X dX7_lays_172 ?_
                refine r_iconst X 0 dX7_lays_173 rfl ?_
                refine r_iload X 0 dX7_lays_174 rfl ?_
                obtain ⟨M53, h54, h⟩ := bd_ex h
                refine r_callV X (st := []) (av := [.int v3, .int ((2 : Int32) * x10), .int (0 : Int32), .int x41]) (k := 34) (ci := 6) (k_X7_adds l N _ hnc _ _ _ _ _ _ h54 d (by omega)) (fitR_s (Nat.le_of_ble_eq_true rfl)) ⟨Nat.le_refl 0, Nat.le_refl 0⟩ rfl (ltn hnc rfl) rfl w_738 w_47 w_737 w_21 w_735 hy_X7_adds rfl (Nat.le_of_ble_eq_true rfl) dX7_lays_176 ?_
                refine r_aload_n X 4 dX7_lays_179 rfl rfl ?_
                refine r_getr X 6 39 in_X7 (ci := 6) rfl rfl (ltn hnc rfl) (Nat.le_of_ble_eq_true rfl) rfl w_615 dX7_lays_180 (by decide) ?_
                refine r_iload_n X 6 dX7_lays_183 rfl rfl ?_
                refine r_iconst X 4 dX7_lays_184 rfl ?_
                refine r_iadd X dX7_lays_185 ?_
                refine r_iload X 3 dX7_lays_186 rfl ?_
                refine r_iload X 1 dX7_lays_188 rfl ?_
                refine r_iadd X dX7_lays_190 ?_
                refine r_bipush X 7 dX7_lays_191 rfl ?_
                refine r_iand X dX7_lays_193 ?_
                obtain ⟨c55, h⟩ := ck_ex h
                obtain ⟨M56, eM56, h⟩ := nm_ex h
                refine r_iast X (n := 125) rfl (ltn hnc rfl) c55 dX7_lays_194 ?_
                refine r_mem eM56 ?_
                exact r_vretE X hr dX7_lays_195 h
              · replace h := it_t c50 h
                refine r_aload_n X 4 dX7_lays_128 rfl rfl ?_
                refine r_iload_n X 6 dX7_lays_129 rfl rfl ?_
                refine r_iconst X 0 dX7_lays_130 rfl ?_
                refine r_iload X 2 dX7_lays_131 rfl ?_
                refine r_iload X 3 dX7_lays_133 rfl ?_
                obtain ⟨M57, h58, h⟩ := bd_ex h
                refine r_callV X (st := []) (av := [.int v3, .int (0 : Int32), .int x10, .int x5]) (k := 34) (ci := 6) (k_X7_adds l N _ hnc _ _ _ _ _ _ h58 d (by omega)) (fitR_s (Nat.le_of_ble_eq_true rfl)) ⟨Nat.le_refl 0, Nat.le_refl 0⟩ rfl (ltn hnc rfl) rfl w_738 w_47 w_737 w_21 w_735 hy_X7_adds rfl (Nat.le_of_ble_eq_true rfl) dX7_lays_135 ?_
                refine r_aload_n X 4 dX7_lays_138 rfl rfl ?_
                refine r_iload_n X 6 dX7_lays_139 rfl rfl ?_
                refine r_iconst X 2 dX7_lays_140 rfl ?_
                refine r_iload X 2 dX7_lays_141 rfl ?_
                refine r_imul X dX7_lays_143 ?_
                refine r_iload X 2 dX7_lays_144 rfl ?_
                refine r_ineg X dX7_lays_146 ?_
                refine r_iload X 0 dX7_lays_147 rfl ?_
                obtain ⟨M59, h60, h⟩ := bd_ex h
                refine r_callV X (st := []) (av := [.int v3, .int ((2 : Int32) * x10), .int (-x10), .int x41]) (k := 34) (ci := 6) (k_X7_adds l N _ hnc _ _ _ _ _ _ h60 d (by omega)) (fitR_s (Nat.le_of_ble_eq_true rfl)) ⟨Nat.le_refl 0, Nat.le_refl 0⟩ rfl (ltn hnc rfl) rfl w_738 w_47 w_737 w_21 w_735 hy_X7_adds rfl (Nat.le_of_ble_eq_true rfl) dX7_lays_149 ?_
                refine r_goto X 179 dX7_lays_152 (by decide) ?_
                refine r_aload_n X 4 dX7_lays_179 rfl rfl ?_
                refine r_getr X 6 39 in_X7 (ci := 6) rfl rfl (ltn hnc rfl) (Nat.le_of_ble_eq_true rfl) rfl w_615 dX7_lays_180 (by decide) ?_
                refine r_iload_n X 6 dX7_lays_183 rfl rfl ?_
                refine r_iconst X 4 dX7_lays_184 rfl ?_
                refine r_iadd X dX7_lays_185 ?_
                refine r_iload X 3 dX7_lays_186 rfl ?_
                refine r_iload X 1 dX7_lays_188 rfl ?_
                refine r_iadd X dX7_lays_190 ?_
                refine r_bipush X 7 dX7_lays_191 rfl ?_
                refine r_iand X dX7_lays_193 ?_
                obtain ⟨c61, h⟩ := ck_ex h
                obtain ⟨M62, eM62, h⟩ := nm_ex h
                refine r_iast X (n := 125) rfl (ltn hnc rfl) c61 dX7_lays_194 ?_
                refine r_mem eM62 ?_
                exact r_vretE X hr dX7_lays_195 h
          · replace h := it_t c42 h
            refine r_aload_n X 4 dX7_lays_101 rfl rfl ?_
            refine r_iload_n X 6 dX7_lays_102 rfl rfl ?_
            refine r_iconst X 2 dX7_lays_103 rfl ?_
            refine r_iload X 2 dX7_lays_104 rfl ?_
            refine r_imul X dX7_lays_106 ?_
            refine r_iconst X 0 dX7_lays_107 rfl ?_
            refine r_iload X 3 dX7_lays_108 rfl ?_
            obtain ⟨M63, h64, h⟩ := bd_ex h
            refine r_callV X (st := []) (av := [.int v3, .int ((2 : Int32) * x10), .int (0 : Int32), .int x5]) (k := 34) (ci := 6) (k_X7_adds l N _ hnc _ _ _ _ _ _ h64 d (by omega)) (fitR_s (Nat.le_of_ble_eq_true rfl)) ⟨Nat.le_refl 0, Nat.le_refl 0⟩ rfl (ltn hnc rfl) rfl w_738 w_47 w_737 w_21 w_735 hy_X7_adds rfl (Nat.le_of_ble_eq_true rfl) dX7_lays_110 ?_
            refine r_goto X 179 dX7_lays_113 (by decide) ?_
            refine r_aload_n X 4 dX7_lays_179 rfl rfl ?_
            refine r_getr X 6 39 in_X7 (ci := 6) rfl rfl (ltn hnc rfl) (Nat.le_of_ble_eq_true rfl) rfl w_615 dX7_lays_180 (by decide) ?_
            refine r_iload_n X 6 dX7_lays_183 rfl rfl ?_
            refine r_iconst X 4 dX7_lays_184 rfl ?_
            refine r_iadd X dX7_lays_185 ?_
            refine r_iload X 3 dX7_lays_186 rfl ?_
            refine r_iload X 1 dX7_lays_188 rfl ?_
            refine r_iadd X dX7_lays_190 ?_
            refine r_bipush X 7 dX7_lays_191 rfl ?_
            refine r_iand X dX7_lays_193 ?_
            obtain ⟨c65, h⟩ := ck_ex h
            obtain ⟨M66, eM66, h⟩ := nm_ex h
            refine r_iast X (n := 125) rfl (ltn hnc rfl) c65 dX7_lays_194 ?_
            refine r_mem eM66 ?_
            exact r_vretE X hr dX7_lays_195 h
      · replace h := it_f c3 h
        refine r_aload_n X 0 dX7_lays_22 rfl rfl ?_
        refine r_getr X 6 39 in_X7 (ci := 6) rfl rfl (ltn hnc rfl) (Nat.le_of_ble_eq_true rfl) rfl w_615 dX7_lays_23 (by decide) ?_
        refine r_iload_n X 2 dX7_lays_26 rfl rfl ?_
        refine r_iload X 3 dX7_lays_27 rfl ?_
        refine r_iadd X dX7_lays_29 ?_
        refine r_aload_n X 0 dX7_lays_30 rfl rfl ?_
        refine r_getr X 6 39 in_X7 (ci := 6) rfl rfl (ltn hnc rfl) (Nat.le_of_ble_eq_true rfl) rfl w_615 dX7_lays_31 (by decide) ?_
        refine r_iload_n X 2 dX7_lays_34 rfl rfl ?_
        refine r_iconst X 5 dX7_lays_35 rfl ?_
        refine r_isub X dX7_lays_36 ?_
        refine r_iload X 3 dX7_lays_37 rfl ?_
        refine r_iadd X dX7_lays_39 ?_
        obtain ⟨c67, h⟩ := ck_ex h
        refine r_iald X (n := 125) rfl (Or.inl (ltn hnc rfl)) c67 dX7_lays_40 ?_
        obtain ⟨c68, h⟩ := ck_ex h
        obtain ⟨M69, eM69, h⟩ := nm_ex h
        refine r_iast X (n := 125) rfl (ltn hnc rfl) c68 dX7_lays_41 ?_
        refine r_mem eM69 ?_
        refine r_iinc X [(4, .int (v4 + 1)), (0, .ref 34), (2, .int v2), (3, .int v3)] 3 (v4 + 1) dX7_lays_42 rfl rfl (Nat.le_of_ble_eq_true rfl) rfl ?_
        refine r_goto X 16 dX7_lays_45 (by decide) ?_
        refine r_sub (ls' := [(0, .ref 34), (2, .int v2), (3, .int v3), (4, .int (v4 + 1))]) [1, 2, 3, 0] rfl ?_
        exact ih M69 v2 v3 (v4 + 1) h
  refine r_sub (ls' := [(0, .ref 34), (1, .int p0)]) [0, 1] rfl ?_
  refine r_aload_n X 0 dX7_lays_0 rfl rfl ?_
  refine r_getr X 7 40 in_X7 (ci := 6) rfl rfl (ltn hnc rfl) (Nat.le_of_ble_eq_true rfl) rfl w_616 dX7_lays_1 (by decide) ?_
  refine r_iload_n X 1 dX7_lays_4 rfl rfl ?_
  obtain ⟨c1, h⟩ := ck_ex h
  refine r_iald X (n := 24) rfl (Or.inl (ltn hnc rfl)) c1 dX7_lays_5 ?_
  refine r_istore_n X [(2, .int (M.1 40 (ix p0))), (0, .ref 34), (1, .int p0)] dX7_lays_6 rfl (Nat.le_of_ble_eq_true rfl) rfl ?_
  refine r_iconst X 5 dX7_lays_7 rfl ?_
  refine r_iload_n X 2 dX7_lays_8 rfl rfl ?_
  refine r_iconst X 1 dX7_lays_9 rfl ?_
  refine r_iadd X dX7_lays_10 ?_
  refine r_imul X dX7_lays_11 ?_
  obtain ⟨x2, ex2, h⟩ := nm_ex h
  refine r_top ex2 ?_
  refine r_istore_n X [(3, .int x2), (2, .int (M.1 40 (ix p0))), (0, .ref 34), (1, .int p0)] dX7_lays_12 rfl (Nat.le_of_ble_eq_true rfl) rfl ?_
  refine r_iconst X 0 dX7_lays_13 rfl ?_
  refine r_istore X [(4, .int (0 : Int32)), (3, .int x2), (2, .int (M.1 40 (ix p0))), (0, .ref 34), (1, .int p0)] dX7_lays_14 (Nat.le_of_ble_eq_true rfl) rfl ?_
  refine r_sub (ls' := [(0, .ref 34), (2, .int (M.1 40 (ix p0))), (3, .int x2), (4, .int (0 : Int32))]) [3, 2, 1, 0] rfl ?_
  exact hl16  N M (M.1 40 (ix p0)) x2 (0 : Int32) h
def l_X7_takes_13 (N : Nat)    : Nat → Mem → Int32 → Option Mem
  | 0, _, _ => none
  | n + 1, M, v1 =>
    if (M.1 34 8) ≤ v1 then
      (some M)
    else
      (ck (inb ((31 : Int32) + v1) 56) <|
      ck (inb v1 24) <|
      nm (seI M 40 (ix v1) (M.1 36 (ix ((31 : Int32) + v1)))) fun M5 =>
      bd (f_X7_lays N M5 v1) fun M6 =>
      l_X7_takes_13 N n M6 (v1 + 1))
def f_X7_takes (N : Nat) (M : Mem)  : Option Mem :=
  nm (seI M 34 8 (M.1 36 (ix (55 : Int32)))) fun M1 =>
  l_X7_takes_13 N N M1 (0 : Int32)
set_option maxRecDepth 100000 in
set_option maxHeartbeats 4000000 in
theorem k_X7_takes (l : Launch) (N : Nat) (nc : Nat) (hnc : 45 ≤ nc) (M : Mem)  (M' : Mem) (h : f_X7_takes N M  = some M') (d : Nat) (hd : 3 ≤ d) : Ct l d yX7_takes cX7_takes 2 none shp nc [.ref 34] M none M' := by
  obtain ⟨d, rfl⟩ : ∃ q, d = q + 1 := ⟨d - 1, by omega⟩
  unfold f_X7_takes at h
  refine Ct.of (by decide +kernel) (Nat.le_of_ble_eq_true rfl) ?_
  intro p e s m args below meth c A ad D cI cJ X hr
  have hl13 : ∀ (n : Nat) (M : Mem) (v1 : Int32), l_X7_takes_13 N n M v1 = some M' → AW p l e (rmd (d + 1)) s m args below meth c 2 A ad D cI cJ shp nc 0 0 (MQ below (Qq A ad D cI cJ shp nc none M') args s 0 0 A) M 13 [(0, .ref 34), (1, .int v1)] [] := by
    intro n
    induction n with
    | zero => intro M v1 h; cases h
    | succ n ih =>
      intro M v1 h
      rw [l_X7_takes_13] at h
      refine r_iload_n X 1 dX7_takes_13 rfl rfl ?_
      refine r_aload_n X 0 dX7_takes_14 rfl rfl ?_
      refine r_geti X 8 in_X7 (ci := 6) rfl rfl (ltn hnc rfl) (Nat.le_of_ble_eq_true rfl) rfl w_617 dX7_takes_15 ?_
      refine r_icge X 47 dX7_takes_18 (by decide) (fun c2 => ?_) (fun c2 => ?_)
      · replace h := it_t c2 h
        exact r_vretE X hr dX7_takes_47 h
      · replace h := it_f c2 h
        refine r_aload_n X 0 dX7_takes_21 rfl rfl ?_
        refine r_getr X 7 40 in_X7 (ci := 6) rfl rfl (ltn hnc rfl) (Nat.le_of_ble_eq_true rfl) rfl w_616 dX7_takes_22 (by decide) ?_
        refine r_iload_n X 1 dX7_takes_25 rfl rfl ?_
        refine r_aload_n X 0 dX7_takes_26 rfl rfl ?_
        refine r_getr X 1 36 in_X7 (ci := 6) rfl rfl (ltn hnc rfl) (Nat.le_of_ble_eq_true rfl) rfl w_610 dX7_takes_27 (by decide) ?_
        refine r_bipush X 31 dX7_takes_30 rfl ?_
        refine r_iload_n X 1 dX7_takes_32 rfl rfl ?_
        refine r_iadd X dX7_takes_33 ?_
        obtain ⟨c3, h⟩ := ck_ex h
        refine r_iald X (n := 56) rfl (Or.inl (ltn hnc rfl)) c3 dX7_takes_34 ?_
        obtain ⟨c4, h⟩ := ck_ex h
        obtain ⟨M5, eM5, h⟩ := nm_ex h
        refine r_iast X (n := 24) rfl (ltn hnc rfl) c4 dX7_takes_35 ?_
        refine r_mem eM5 ?_
        refine r_aload_n X 0 dX7_takes_36 rfl rfl ?_
        refine r_iload_n X 1 dX7_takes_37 rfl rfl ?_
        obtain ⟨M6, h7, h⟩ := bd_ex h
        refine r_callV X (st := []) (av := [.int v1]) (k := 34) (ci := 6) (k_X7_lays l N _ hnc _ _ _ h7 d (by omega)) (fitR_s (Nat.le_of_ble_eq_true rfl)) ⟨Nat.le_refl 0, Nat.le_refl 0⟩ rfl (ltn hnc rfl) rfl w_728 w_47 w_727 w_20 w_725 hy_X7_lays rfl (Nat.le_of_ble_eq_true rfl) dX7_takes_38 ?_
        refine r_iinc X [(1, .int (v1 + 1)), (0, .ref 34)] 1 (v1 + 1) dX7_takes_41 rfl rfl (Nat.le_of_ble_eq_true rfl) rfl ?_
        refine r_goto X 13 dX7_takes_44 (by decide) ?_
        refine r_sub (ls' := [(0, .ref 34), (1, .int (v1 + 1))]) [1, 0] rfl ?_
        exact ih M6 (v1 + 1) h
  refine r_sub (ls' := [(0, .ref 34)]) [0] rfl ?_
  refine r_aload_n X 0 dX7_takes_0 rfl rfl ?_
  refine r_aload_n X 0 dX7_takes_1 rfl rfl ?_
  refine r_getr X 1 36 in_X7 (ci := 6) rfl rfl (ltn hnc rfl) (Nat.le_of_ble_eq_true rfl) rfl w_610 dX7_takes_2 (by decide) ?_
  refine r_bipush X 55 dX7_takes_5 rfl ?_
  refine r_iald X (n := 56) rfl (Or.inl (ltn hnc rfl)) (by decide) dX7_takes_7 ?_
  obtain ⟨M1, eM1, h⟩ := nm_ex h
  refine r_puti X 8 in_X7 (ci := 6) rfl tyX7_ok nmX7 rfl (ltn hnc rfl) (Nat.le_of_ble_eq_true rfl) rfl w_617 rfl (ty := .int) rfl rfl rfl dX7_takes_8 ?_
  refine r_mem eM1 ?_
  refine r_iconst X 0 dX7_takes_11 rfl ?_
  refine r_istore_n X [(1, .int (0 : Int32)), (0, .ref 34)] dX7_takes_12 rfl (Nat.le_of_ble_eq_true rfl) rfl ?_
  refine r_sub (ls' := [(0, .ref 34), (1, .int (0 : Int32))]) [1, 0] rfl ?_
  exact hl13  N M1 (0 : Int32) h
def f_X7_joint (N : Nat) (M : Mem) (p0 : Int32) (p1 : Int32) : Option (Int32 × Mem) :=
  bd2 (f_X7_isIn N M p0 ((M.1 36 (ix (55 : Int32))) + (1 : Int32))) fun r2 M1 =>
  if r2 = 0 then
    (bd2 (f_X7_refuse N M1 (-1 : Int32)) fun r16 M15 =>
    some ((1000000000 : Int32) - r16, M15))
  else
    (bd2 (f_X7_isIn N M1 p1 (5 : Int32)) fun r6 M5 =>
    if r6 = 0 then
      (bd2 (f_X7_refuse N M5 (-2 : Int32)) fun r13 M12 =>
      some ((1000000000 : Int32) - r13, M12))
    else
      (bd (f_X7_takes N M5 ) fun M9 =>
      ck (inb (((5 : Int32) * p0) + p1) 125) <|
      some (M9.1 39 (ix (((5 : Int32) * p0) + p1)), M9)))
set_option maxRecDepth 100000 in
set_option maxHeartbeats 4000000 in
theorem k_X7_joint (l : Launch) (N : Nat) (nc : Nat) (hnc : 45 ≤ nc) (M : Mem) (p0 : Int32) (p1 : Int32) (r : Int32) (M' : Mem) (h : f_X7_joint N M p0 p1 = some (r, M')) (d : Nat) (hd : 4 ≤ d) : Ct l d yX7_joint cX7_joint 3 (some .int) shp nc [.ref 34, .int p0, .int p1] M (some (.int r)) M' := by
  obtain ⟨d, rfl⟩ : ∃ q, d = q + 1 := ⟨d - 1, by omega⟩
  unfold f_X7_joint at h
  refine Ct.of (by decide +kernel) (Nat.le_of_ble_eq_true rfl) ?_
  intro p e s m args below meth c A ad D cI cJ X hr
  refine r_sub (ls' := [(0, .ref 34), (1, .int p0), (2, .int p1)]) [0, 1, 2] rfl ?_
  refine r_iload_n X 1 dX7_joint_0 rfl rfl ?_
  refine r_aload_n X 0 dX7_joint_1 rfl rfl ?_
  refine r_getr X 1 36 in_X7 (ci := 6) rfl rfl (ltn hnc rfl) (Nat.le_of_ble_eq_true rfl) rfl w_610 dX7_joint_2 (by decide) ?_
  refine r_bipush X 55 dX7_joint_5 rfl ?_
  refine r_iald X (n := 56) rfl (Or.inl (ltn hnc rfl)) (by decide) dX7_joint_7 ?_
  refine r_iconst X 1 dX7_joint_8 rfl ?_
  refine r_iadd X dX7_joint_9 ?_
  obtain ⟨r2, M1, h3, h⟩ := bd2_ex h
  refine r_callS X (st := []) (av := [.int p0, .int ((M.1 36 (ix (55 : Int32))) + (1 : Int32))]) (k_X7_isIn l N _ hnc _ _ _ _ _ h3 d (by omega)) (fitR_s (Nat.le_of_ble_eq_true rfl)) ⟨Nat.le_refl 0, Nat.le_refl 0⟩ w_704 w_47 w_703 w_702 hy_X7_isIn rfl (Nat.le_of_ble_eq_true rfl) dX7_joint_10 ?_
  refine r_ifne X 25 dX7_joint_13 (by decide) (fun c4 => ?_) (fun c4 => ?_)
  · replace h := it_f c4 h
    refine r_iload_n X 2 dX7_joint_25 rfl rfl ?_
    refine r_iconst X 5 dX7_joint_26 rfl ?_
    obtain ⟨r6, M5, h7, h⟩ := bd2_ex h
    refine r_callS X (st := []) (av := [.int p1, .int (5 : Int32)]) (k_X7_isIn l N _ hnc _ _ _ _ _ h7 d (by omega)) (fitR_s (Nat.le_of_ble_eq_true rfl)) ⟨Nat.le_refl 0, Nat.le_refl 0⟩ w_704 w_47 w_703 w_702 hy_X7_isIn rfl (Nat.le_of_ble_eq_true rfl) dX7_joint_27 ?_
    refine r_ifne X 43 dX7_joint_30 (by decide) (fun c8 => ?_) (fun c8 => ?_)
    · replace h := it_f c8 h
      refine r_aload_n X 0 dX7_joint_43 rfl rfl ?_
      obtain ⟨M9, h10, h⟩ := bd_ex h
      refine r_callV X (st := []) (av := []) (k := 34) (ci := 6) (k_X7_takes l N _ hnc _  _ h10 d (by omega)) (fitR_s (Nat.le_of_ble_eq_true rfl)) ⟨Nat.le_refl 0, Nat.le_refl 0⟩ rfl (ltn hnc rfl) rfl w_724 w_47 w_723 w_19 w_721 hy_X7_takes rfl (Nat.le_of_ble_eq_true rfl) dX7_joint_44 ?_
      refine r_aload_n X 0 dX7_joint_47 rfl rfl ?_
      refine r_getr X 6 39 in_X7 (ci := 6) rfl rfl (ltn hnc rfl) (Nat.le_of_ble_eq_true rfl) rfl w_615 dX7_joint_48 (by decide) ?_
      refine r_iconst X 5 dX7_joint_51 rfl ?_
      refine r_iload_n X 1 dX7_joint_52 rfl rfl ?_
      refine r_imul X dX7_joint_53 ?_
      refine r_iload_n X 2 dX7_joint_54 rfl rfl ?_
      refine r_iadd X dX7_joint_55 ?_
      obtain ⟨c11, h⟩ := ck_ex h
      refine r_iald X (n := 125) rfl (Or.inl (ltn hnc rfl)) c11 dX7_joint_56 ?_
      exact r_iretE X hr dX7_joint_57 h
    · replace h := it_t c8 h
      refine r_ldc X w_720 dX7_joint_33 ?_
      refine r_aload_n X 0 dX7_joint_35 rfl rfl ?_
      refine r_bipush X (-2) dX7_joint_36 rfl ?_
      obtain ⟨r13, M12, h14, h⟩ := bd2_ex h
      refine r_callV X (st := [.int (1000000000 : Int32)]) (av := [.int (-2 : Int32)]) (k := 34) (ci := 6) (k_X7_refuse l N _ hnc _ _ _ _ h14 d (by omega)) (fitR_s (Nat.le_of_ble_eq_true rfl)) ⟨Nat.le_refl 0, Nat.le_refl 0⟩ rfl (ltn hnc rfl) rfl w_689 w_47 w_688 w_18 w_686 hy_X7_refuse rfl (Nat.le_of_ble_eq_true rfl) dX7_joint_38 ?_
      refine r_isub X dX7_joint_41 ?_
      exact r_iretE X hr dX7_joint_42 h
  · replace h := it_t c4 h
    refine r_ldc X w_720 dX7_joint_16 ?_
    refine r_aload_n X 0 dX7_joint_18 rfl rfl ?_
    refine r_iconst X (-1) dX7_joint_19 rfl ?_
    obtain ⟨r16, M15, h17, h⟩ := bd2_ex h
    refine r_callV X (st := [.int (1000000000 : Int32)]) (av := [.int (-1 : Int32)]) (k := 34) (ci := 6) (k_X7_refuse l N _ hnc _ _ _ _ h17 d (by omega)) (fitR_s (Nat.le_of_ble_eq_true rfl)) ⟨Nat.le_refl 0, Nat.le_refl 0⟩ rfl (ltn hnc rfl) rfl w_689 w_47 w_688 w_18 w_686 hy_X7_refuse rfl (Nat.le_of_ble_eq_true rfl) dX7_joint_20 ?_
    refine r_isub X dX7_joint_23 ?_
    exact r_iretE X hr dX7_joint_24 h
def f_X5_end (N : Nat) (M : Mem)  : Option (Int64 × Mem) :=
  bd2 (f_X6_placeAt shp N M 18 (M.1 17 4)) fun r2 M1 =>
  some (r2, M1)
set_option maxRecDepth 100000 in
set_option maxHeartbeats 4000000 in
theorem k_X5_end (l : Launch) (N : Nat) (nc : Nat) (hnc : 34 ≤ nc) (M : Mem)  (r : Int64) (M' : Mem) (h : f_X5_end N M  = some (r, M')) (d : Nat) (hd : 1 ≤ d) : Ct l d yX5_end cX5_end 1 (some .long) shp nc [.ref 17] M (some (.long r)) M' := by
  obtain ⟨d, rfl⟩ : ∃ q, d = q + 1 := ⟨d - 1, by omega⟩
  unfold f_X5_end at h
  refine Ct.of (by decide +kernel) (Nat.le_of_ble_eq_true rfl) ?_
  intro p e s m args below meth c A ad D cI cJ X hr
  refine r_sub (ls' := [(0, .ref 17)]) [0] rfl ?_
  refine r_aload_n X 0 dX5_end_0 rfl rfl ?_
  refine r_getr X 1 18 in_X5 (ci := 4) rfl rfl (ltn hnc rfl) (Nat.le_of_ble_eq_true rfl) rfl w_127 dX5_end_1 (by decide) ?_
  refine r_aload_n X 0 dX5_end_4 rfl rfl ?_
  refine r_geti X 4 in_X5 (ci := 4) rfl rfl (ltn hnc rfl) (Nat.le_of_ble_eq_true rfl) rfl w_133 dX5_end_5 ?_
  obtain ⟨r2, M1, h3, h⟩ := bd2_ex h
  refine r_callSN X (st := []) (av := [.ref 18, .int (M.1 17 4)]) (k_X6_placeAt l N _ _ _ _ _ (Or.inl (ltn hnc rfl)) _ _ h3 d (by omega)) (fitR_s (Nat.le_of_ble_eq_true rfl)) ⟨Nat.le_refl 0, Nat.le_refl 0⟩ w_343 w_39 w_342 w_365 hy_X6_placeAt rfl (Nat.le_of_ble_eq_true rfl) dX5_end_8 ?_
  exact r_lretE X hr dX5_end_11 h
def f_X5_isClosed (N : Nat) (M : Mem)  : Option (Int32 × Mem) :=
  if (M.1 17 4) ≤ 0 then
    (some ((0 : Int32), M))
  else
    (bd2 (f_X5_end N M ) fun r3 M2 =>
    if (lg_cmp r3 (0 : Int64)) = 0 then
      (bd2 (f_X6_at shp N M2 19 (M2.1 17 4)) fun r7 M6 =>
      if r7 = 0 then
        (some ((1 : Int32), M6))
      else
        (some ((0 : Int32), M6)))
    else
      (some ((0 : Int32), M2)))
set_option maxRecDepth 100000 in
set_option maxHeartbeats 4000000 in
theorem k_X5_isClosed (l : Launch) (N : Nat) (nc : Nat) (hnc : 34 ≤ nc) (M : Mem)  (r : Int32) (M' : Mem) (h : f_X5_isClosed N M  = some (r, M')) (d : Nat) (hd : 2 ≤ d) : Ct l d yX5_isClosed cX5_isClosed 1 (some .boolean) shp nc [.ref 17] M (some (.int r)) M' := by
  obtain ⟨d, rfl⟩ : ∃ q, d = q + 1 := ⟨d - 1, by omega⟩
  unfold f_X5_isClosed at h
  refine Ct.of (by decide +kernel) (Nat.le_of_ble_eq_true rfl) ?_
  intro p e s m args below meth c A ad D cI cJ X hr
  refine r_sub (ls' := [(0, .ref 17)]) [0] rfl ?_
  refine r_aload_n X 0 dX5_isClosed_0 rfl rfl ?_
  refine r_geti X 4 in_X5 (ci := 4) rfl rfl (ltn hnc rfl) (Nat.le_of_ble_eq_true rfl) rfl w_133 dX5_isClosed_1 ?_
  refine r_ifle X 34 dX5_isClosed_4 (by decide) (fun c1 => ?_) (fun c1 => ?_)
  · replace h := it_t c1 h
    refine r_iconst X 0 dX5_isClosed_34 rfl ?_
    exact r_zretE X hr rfl dX5_isClosed_35 h
  · replace h := it_f c1 h
    refine r_aload_n X 0 dX5_isClosed_7 rfl rfl ?_
    obtain ⟨r3, M2, h4, h⟩ := bd2_ex h
    refine r_callV X (st := []) (av := []) (k := 17) (ci := 4) (k_X5_end l N _ hnc _  _ _ h4 d (by omega)) (fitR_s (Nat.le_of_ble_eq_true rfl)) ⟨Nat.le_refl 0, Nat.le_refl 0⟩ rfl (ltn hnc rfl) rfl w_364 w_42 w_362 w_363 w_361 hy_X5_end rfl (Nat.le_of_ble_eq_true rfl) dX5_isClosed_8 ?_
    refine r_lconst X 0 dX5_isClosed_11 rfl ?_
    refine r_lcmp X dX5_isClosed_12 ?_
    refine r_ifne X 34 dX5_isClosed_13 (by decide) (fun c5 => ?_) (fun c5 => ?_)
    · replace h := it_f c5 h
      refine r_iconst X 0 dX5_isClosed_34 rfl ?_
      exact r_zretE X hr rfl dX5_isClosed_35 h
    · replace h := it_t c5 h
      refine r_aload_n X 0 dX5_isClosed_16 rfl rfl ?_
      refine r_getr X 2 19 in_X5 (ci := 4) rfl rfl (ltn hnc rfl) (Nat.le_of_ble_eq_true rfl) rfl w_130 dX5_isClosed_17 (by decide) ?_
      refine r_aload_n X 0 dX5_isClosed_20 rfl rfl ?_
      refine r_geti X 4 in_X5 (ci := 4) rfl rfl (ltn hnc rfl) (Nat.le_of_ble_eq_true rfl) rfl w_133 dX5_isClosed_21 ?_
      obtain ⟨r7, M6, h8, h⟩ := bd2_ex h
      refine r_callSN X (st := []) (av := [.ref 19, .int (M2.1 17 4)]) (k_X6_at l N _ _ _ _ _ (Or.inl (ltn hnc rfl)) _ _ h8 d (by omega)) (fitR_s (Nat.le_of_ble_eq_true rfl)) ⟨Nat.le_refl 0, Nat.le_refl 0⟩ w_71 w_39 w_70 w_336 hy_X6_at rfl (Nat.le_of_ble_eq_true rfl) dX5_isClosed_24 ?_
      refine r_ifne X 34 dX5_isClosed_27 (by decide) (fun c9 => ?_) (fun c9 => ?_)
      · replace h := it_f c9 h
        refine r_iconst X 0 dX5_isClosed_34 rfl ?_
        exact r_zretE X hr rfl dX5_isClosed_35 h
      · replace h := it_t c9 h
        refine r_iconst X 1 dX5_isClosed_30 rfl ?_
        refine r_goto X 35 dX5_isClosed_31 (by decide) ?_
        exact r_zretE X hr rfl dX5_isClosed_35 h
def f_X6_yes (N : Nat) (M : Mem) (p0 : Int32) : Option (Int32 × Mem) :=
  if p0 = 0 then
    (some ((0 : Int32), M))
  else
    (some ((1 : Int32), M))
set_option maxRecDepth 100000 in
set_option maxHeartbeats 4000000 in
theorem k_X6_yes (l : Launch) (N : Nat) (nc : Nat) (hnc : 34 ≤ nc) (M : Mem) (p0 : Int32) (r : Int32) (M' : Mem) (h : f_X6_yes N M p0 = some (r, M')) (d : Nat) (hd : 0 ≤ d) : Ct l d yX6_yes cX6_yes 1 (some .int) shp nc [.int p0] M (some (.int r)) M' := by
  unfold f_X6_yes at h
  refine Ct.of (by decide +kernel) (Nat.le_of_ble_eq_true rfl) ?_
  intro p e s m args below meth c A ad D cI cJ X hr
  refine r_sub (ls' := [(0, .int p0)]) [0] rfl ?_
  refine r_iload_n X 0 dX6_yes_0 rfl rfl ?_
  refine r_ifeq X 8 dX6_yes_1 (by decide) (fun c1 => ?_) (fun c1 => ?_)
  · replace h := it_t c1 h
    refine r_iconst X 0 dX6_yes_8 rfl ?_
    exact r_iretE X hr dX6_yes_9 h
  · replace h := it_f c1 h
    refine r_iconst X 1 dX6_yes_4 rfl ?_
    refine r_goto X 9 dX6_yes_5 (by decide) ?_
    exact r_iretE X hr dX6_yes_9 h
def f_X6_closes (N : Nat) (M : Mem)  : Option (Int32 × Mem) :=
  bd (f_X5_follow N M 4 (M.1 1 3)) fun M1 =>
  bd2 (f_X5_isClosed N M1 ) fun r4 M3 =>
  bd2 (f_X6_yes N M3 r4) fun r7 M6 =>
  some (r7, M6)
set_option maxRecDepth 100000 in
set_option maxHeartbeats 4000000 in
theorem k_X6_closes (l : Launch) (N : Nat) (nc : Nat) (hnc : 34 ≤ nc) (M : Mem)  (r : Int32) (M' : Mem) (h : f_X6_closes N M  = some (r, M')) (d : Nat) (hd : 3 ≤ d) : Ct l d yX6_closes cX6_closes 1 (some .int) shp nc [.ref 0] M (some (.int r)) M' := by
  obtain ⟨d, rfl⟩ : ∃ q, d = q + 1 := ⟨d - 1, by omega⟩
  unfold f_X6_closes at h
  refine Ct.of (by decide +kernel) (Nat.le_of_ble_eq_true rfl) ?_
  intro p e s m args below meth c A ad D cI cJ X hr
  refine r_sub (ls' := [(0, .ref 0)]) [0] rfl ?_
  refine r_aload_n X 0 dX6_closes_0 rfl rfl ?_
  refine r_getr X 4 17 in_X6 (ci := 5) rfl rfl (ltn hnc rfl) (Nat.le_of_ble_eq_true rfl) rfl w_244 dX6_closes_1 (by decide) ?_
  refine r_aload_n X 0 dX6_closes_4 rfl rfl ?_
  refine r_getr X 0 1 in_X6 (ci := 5) rfl rfl (ltn hnc rfl) (Nat.le_of_ble_eq_true rfl) rfl w_240 dX6_closes_5 (by decide) ?_
  refine r_getr X 2 4 in_X0 (ci := 0) rfl rfl (ltn hnc rfl) (Nat.le_of_ble_eq_true rfl) rfl w_80 dX6_closes_8 (by decide) ?_
  refine r_aload_n X 0 dX6_closes_11 rfl rfl ?_
  refine r_getr X 0 1 in_X6 (ci := 5) rfl rfl (ltn hnc rfl) (Nat.le_of_ble_eq_true rfl) rfl w_240 dX6_closes_12 (by decide) ?_
  refine r_geti X 3 in_X0 (ci := 0) rfl rfl (ltn hnc rfl) (Nat.le_of_ble_eq_true rfl) rfl w_82 dX6_closes_15 ?_
  obtain ⟨M1, h2, h⟩ := bd_ex h
  refine r_callV X (st := []) (av := [.ref 4, .int (M.1 1 3)]) (k := 17) (ci := 4) (k_X5_follow l N _ hnc _ _ _ (Or.inl (ltn hnc rfl)) _ h2 d (by omega)) (fitR_s (Nat.le_of_ble_eq_true rfl)) ⟨Nat.le_refl 0, Nat.le_refl 0⟩ rfl (ltn hnc rfl) rfl w_335 w_42 w_333 w_334 w_332 hy_X5_follow rfl (Nat.le_of_ble_eq_true rfl) dX6_closes_18 ?_
  refine r_aload_n X 0 dX6_closes_21 rfl rfl ?_
  refine r_getr X 4 17 in_X6 (ci := 5) rfl rfl (ltn hnc rfl) (Nat.le_of_ble_eq_true rfl) rfl w_244 dX6_closes_22 (by decide) ?_
  obtain ⟨r4, M3, h5, h⟩ := bd2_ex h
  refine r_callV X (st := []) (av := []) (k := 17) (ci := 4) (k_X5_isClosed l N _ hnc _  _ _ h5 d (by omega)) (fitR_s (Nat.le_of_ble_eq_true rfl)) ⟨Nat.le_refl 0, Nat.le_refl 0⟩ rfl (ltn hnc rfl) rfl w_360 w_42 w_358 w_359 w_357 hy_X5_isClosed rfl (Nat.le_of_ble_eq_true rfl) dX6_closes_25 ?_
  obtain ⟨r7, M6, h8, h⟩ := bd2_ex h
  refine r_callS X (st := []) (av := [.int r4]) (k_X6_yes l N _ hnc _ _ _ _ h8 d (by omega)) (fitR_s (Nat.le_of_ble_eq_true rfl)) ⟨Nat.le_refl 0, Nat.le_refl 0⟩ w_368 w_39 w_367 w_366 hy_X6_yes rfl (Nat.le_of_ble_eq_true rfl) dX6_closes_28 ?_
  exact r_iretE X hr dX6_closes_31 h
def l_X7_isSame_2 (N : Nat)    : Nat → Mem → Int32 → Int32 → Int32 → Option (Int32 × Mem)
  | 0, _, _, _, _ => none
  | n + 1, M, v1, v2, v3 =>
    if (4 : Int32) ≤ v3 then
      (some ((1 : Int32), M))
    else
      (ck (inb (((5 : Int32) * v1) + v3) 125) <|
      ck (inb (((5 : Int32) * v2) + v3) 125) <|
      if (M.1 39 (ix (((5 : Int32) * v1) + v3))) = (M.1 39 (ix (((5 : Int32) * v2) + v3))) then
        (l_X7_isSame_2 N n M v1 v2 (v3 + 1))
      else
        (some ((0 : Int32), M)))
def f_X7_isSame (N : Nat) (M : Mem) (p0 : Int32) (p1 : Int32) : Option (Int32 × Mem) :=
  l_X7_isSame_2 N N M p0 p1 (0 : Int32)
set_option maxRecDepth 100000 in
set_option maxHeartbeats 4000000 in
theorem k_X7_isSame (l : Launch) (N : Nat) (nc : Nat) (hnc : 45 ≤ nc) (M : Mem) (p0 : Int32) (p1 : Int32) (r : Int32) (M' : Mem) (h : f_X7_isSame N M p0 p1 = some (r, M')) (d : Nat) (hd : 0 ≤ d) : Ct l d yX7_isSame cX7_isSame 4 (some .boolean) shp nc [.ref 34, .int p0, .int p1] M (some (.int r)) M' := by
  unfold f_X7_isSame at h
  refine Ct.of (by decide +kernel) (Nat.le_of_ble_eq_true rfl) ?_
  intro p e s m args below meth c A ad D cI cJ X hr
  have hl2 : ∀ (n : Nat) (M : Mem) (v1 : Int32) (v2 : Int32) (v3 : Int32), l_X7_isSame_2 N n M v1 v2 v3 = some (r, M') → AW p l e (rmd d) s m args below meth c 4 A ad D cI cJ shp nc 0 0 (MQ below (Qq A ad D cI cJ shp nc (some (.int r)) M') args s 0 0 A) M 2 [(0, .ref 34), (1, .int v1), (2, .int v2), (3, .int v3)] [] := by
    intro n
    induction n with
    | zero => intro M v1 v2 v3 h; cases h
    | succ n ih =>
      intro M v1 v2 v3 h
      rw [l_X7_isSame_2] at h
      refine r_iload_n X 3 dX7_isSame_2 rfl rfl ?_
      refine r_iconst X 4 dX7_isSame_3 rfl ?_
      refine r_icge X 38 dX7_isSame_4 (by decide) (fun c1 => ?_) (fun c1 => ?_)
      · replace h := it_t c1 h
        refine r_iconst X 1 dX7_isSame_38 rfl ?_
        exact r_zretE X hr rfl dX7_isSame_39 h
      · replace h := it_f c1 h
        refine r_aload_n X 0 dX7_isSame_7 rfl rfl ?_
        refine r_getr X 6 39 in_X7 (ci := 6) rfl rfl (ltn hnc rfl) (Nat.le_of_ble_eq_true rfl) rfl w_615 dX7_isSame_8 (by decide) ?_
        refine r_iconst X 5 dX7_isSame_11 rfl ?_
        refine r_iload_n X 1 dX7_isSame_12 rfl rfl ?_
        refine r_imul X dX7_isSame_13 ?_
        refine r_iload_n X 3 dX7_isSame_14 rfl rfl ?_
        refine r_iadd X dX7_isSame_15 ?_
        obtain ⟨c2, h⟩ := ck_ex h
        refine r_iald X (n := 125) rfl (Or.inl (ltn hnc rfl)) c2 dX7_isSame_16 ?_
        refine r_aload_n X 0 dX7_isSame_17 rfl rfl ?_
        refine r_getr X 6 39 in_X7 (ci := 6) rfl rfl (ltn hnc rfl) (Nat.le_of_ble_eq_true rfl) rfl w_615 dX7_isSame_18 (by decide) ?_
        refine r_iconst X 5 dX7_isSame_21 rfl ?_
        refine r_iload_n X 2 dX7_isSame_22 rfl rfl ?_
        refine r_imul X dX7_isSame_23 ?_
        refine r_iload_n X 3 dX7_isSame_24 rfl rfl ?_
        refine r_iadd X dX7_isSame_25 ?_
        obtain ⟨c3, h⟩ := ck_ex h
        refine r_iald X (n := 125) rfl (Or.inl (ltn hnc rfl)) c3 dX7_isSame_26 ?_
        refine r_iceq X 32 dX7_isSame_27 (by decide) (fun c4 => ?_) (fun c4 => ?_)
        · replace h := it_t c4 h
          refine r_iinc X [(3, .int (v3 + 1)), (0, .ref 34), (1, .int v1), (2, .int v2)] 3 (v3 + 1) dX7_isSame_32 rfl rfl (Nat.le_of_ble_eq_true rfl) rfl ?_
          refine r_goto X 2 dX7_isSame_35 (by decide) ?_
          refine r_sub (ls' := [(0, .ref 34), (1, .int v1), (2, .int v2), (3, .int (v3 + 1))]) [1, 2, 3, 0] rfl ?_
          exact ih M v1 v2 (v3 + 1) h
        · replace h := it_f c4 h
          refine r_iconst X 0 dX7_isSame_30 rfl ?_
          exact r_zretE X hr rfl dX7_isSame_31 h
  refine r_sub (ls' := [(0, .ref 34), (1, .int p0), (2, .int p1)]) [0, 1, 2] rfl ?_
  refine r_iconst X 0 dX7_isSame_0 rfl ?_
  refine r_istore_n X [(3, .int (0 : Int32)), (0, .ref 34), (1, .int p0), (2, .int p1)] dX7_isSame_1 rfl (Nat.le_of_ble_eq_true rfl) rfl ?_
  refine r_sub (ls' := [(0, .ref 34), (1, .int p0), (2, .int p1), (3, .int (0 : Int32))]) [1, 2, 3, 0] rfl ?_
  exact hl2  N M p0 p1 (0 : Int32) h
def f_X7_isClosed (N : Nat) (M : Mem)  : Option (Int32 × Mem) :=
  if (M.1 34 8) ≤ 0 then
    (some ((0 : Int32), M))
  else
    (bd2 (f_X7_isSame N M (0 : Int32) (M.1 34 8)) fun r3 M2 =>
    if r3 = 0 then
      (some ((0 : Int32), M2))
    else
      (ck (inb (((5 : Int32) * (M2.1 34 8)) + (4 : Int32)) 125) <|
      if (M2.1 39 (ix (((5 : Int32) * (M2.1 34 8)) + (4 : Int32)))) = 0 then
        (some ((1 : Int32), M2))
      else
        (some ((0 : Int32), M2))))
set_option maxRecDepth 100000 in
set_option maxHeartbeats 4000000 in
theorem k_X7_isClosed (l : Launch) (N : Nat) (nc : Nat) (hnc : 45 ≤ nc) (M : Mem)  (r : Int32) (M' : Mem) (h : f_X7_isClosed N M  = some (r, M')) (d : Nat) (hd : 1 ≤ d) : Ct l d yX7_isClosed cX7_isClosed 1 (some .boolean) shp nc [.ref 34] M (some (.int r)) M' := by
  obtain ⟨d, rfl⟩ : ∃ q, d = q + 1 := ⟨d - 1, by omega⟩
  unfold f_X7_isClosed at h
  refine Ct.of (by decide +kernel) (Nat.le_of_ble_eq_true rfl) ?_
  intro p e s m args below meth c A ad D cI cJ X hr
  refine r_sub (ls' := [(0, .ref 34)]) [0] rfl ?_
  refine r_aload_n X 0 dX7_isClosed_0 rfl rfl ?_
  refine r_geti X 8 in_X7 (ci := 6) rfl rfl (ltn hnc rfl) (Nat.le_of_ble_eq_true rfl) rfl w_617 dX7_isClosed_1 ?_
  refine r_ifle X 39 dX7_isClosed_4 (by decide) (fun c1 => ?_) (fun c1 => ?_)
  · replace h := it_t c1 h
    refine r_iconst X 0 dX7_isClosed_39 rfl ?_
    exact r_zretE X hr rfl dX7_isClosed_40 h
  · replace h := it_f c1 h
    refine r_aload_n X 0 dX7_isClosed_7 rfl rfl ?_
    refine r_iconst X 0 dX7_isClosed_8 rfl ?_
    refine r_aload_n X 0 dX7_isClosed_9 rfl rfl ?_
    refine r_geti X 8 in_X7 (ci := 6) rfl rfl (ltn hnc rfl) (Nat.le_of_ble_eq_true rfl) rfl w_617 dX7_isClosed_10 ?_
    obtain ⟨r3, M2, h4, h⟩ := bd2_ex h
    refine r_callV X (st := []) (av := [.int (0 : Int32), .int (M.1 34 8)]) (k := 34) (ci := 6) (k_X7_isSame l N _ hnc _ _ _ _ _ h4 d (by omega)) (fitR_s (Nat.le_of_ble_eq_true rfl)) ⟨Nat.le_refl 0, Nat.le_refl 0⟩ rfl (ltn hnc rfl) rfl w_754 w_47 w_753 w_24 w_751 hy_X7_isSame rfl (Nat.le_of_ble_eq_true rfl) dX7_isClosed_13 ?_
    refine r_ifeq X 39 dX7_isClosed_16 (by decide) (fun c5 => ?_) (fun c5 => ?_)
    · replace h := it_t c5 h
      refine r_iconst X 0 dX7_isClosed_39 rfl ?_
      exact r_zretE X hr rfl dX7_isClosed_40 h
    · replace h := it_f c5 h
      refine r_aload_n X 0 dX7_isClosed_19 rfl rfl ?_
      refine r_getr X 6 39 in_X7 (ci := 6) rfl rfl (ltn hnc rfl) (Nat.le_of_ble_eq_true rfl) rfl w_615 dX7_isClosed_20 (by decide) ?_
      refine r_iconst X 5 dX7_isClosed_23 rfl ?_
      refine r_aload_n X 0 dX7_isClosed_24 rfl rfl ?_
      refine r_geti X 8 in_X7 (ci := 6) rfl rfl (ltn hnc rfl) (Nat.le_of_ble_eq_true rfl) rfl w_617 dX7_isClosed_25 ?_
      refine r_imul X dX7_isClosed_28 ?_
      refine r_iconst X 4 dX7_isClosed_29 rfl ?_
      refine r_iadd X dX7_isClosed_30 ?_
      obtain ⟨c6, h⟩ := ck_ex h
      refine r_iald X (n := 125) rfl (Or.inl (ltn hnc rfl)) c6 dX7_isClosed_31 ?_
      refine r_ifne X 39 dX7_isClosed_32 (by decide) (fun c7 => ?_) (fun c7 => ?_)
      · replace h := it_f c7 h
        refine r_iconst X 0 dX7_isClosed_39 rfl ?_
        exact r_zretE X hr rfl dX7_isClosed_40 h
      · replace h := it_t c7 h
        refine r_iconst X 1 dX7_isClosed_35 rfl ?_
        refine r_goto X 40 dX7_isClosed_36 (by decide) ?_
        exact r_zretE X hr rfl dX7_isClosed_40 h
def f_X7_closes (N : Nat) (M : Mem)  : Option (Int32 × Mem) :=
  bd (f_X7_takes N M ) fun M1 =>
  bd2 (f_X7_isClosed N M1 ) fun r4 M3 =>
  if r4 = 0 then
    (some ((0 : Int32), M3))
  else
    (some ((1 : Int32), M3))
set_option maxRecDepth 100000 in
set_option maxHeartbeats 4000000 in
theorem k_X7_closes (l : Launch) (N : Nat) (nc : Nat) (hnc : 45 ≤ nc) (M : Mem)  (r : Int32) (M' : Mem) (h : f_X7_closes N M  = some (r, M')) (d : Nat) (hd : 4 ≤ d) : Ct l d yX7_closes cX7_closes 1 (some .int) shp nc [.ref 34] M (some (.int r)) M' := by
  obtain ⟨d, rfl⟩ : ∃ q, d = q + 1 := ⟨d - 1, by omega⟩
  unfold f_X7_closes at h
  refine Ct.of (by decide +kernel) (Nat.le_of_ble_eq_true rfl) ?_
  intro p e s m args below meth c A ad D cI cJ X hr
  refine r_sub (ls' := [(0, .ref 34)]) [0] rfl ?_
  refine r_aload_n X 0 dX7_closes_0 rfl rfl ?_
  obtain ⟨M1, h2, h⟩ := bd_ex h
  refine r_callV X (st := []) (av := []) (k := 34) (ci := 6) (k_X7_takes l N _ hnc _  _ h2 d (by omega)) (fitR_s (Nat.le_of_ble_eq_true rfl)) ⟨Nat.le_refl 0, Nat.le_refl 0⟩ rfl (ltn hnc rfl) rfl w_724 w_47 w_723 w_19 w_721 hy_X7_takes rfl (Nat.le_of_ble_eq_true rfl) dX7_closes_1 ?_
  refine r_aload_n X 0 dX7_closes_4 rfl rfl ?_
  obtain ⟨r4, M3, h5, h⟩ := bd2_ex h
  refine r_callV X (st := []) (av := []) (k := 34) (ci := 6) (k_X7_isClosed l N _ hnc _  _ _ h5 d (by omega)) (fitR_s (Nat.le_of_ble_eq_true rfl)) ⟨Nat.le_refl 0, Nat.le_refl 0⟩ rfl (ltn hnc rfl) rfl w_750 w_47 w_749 w_23 w_747 hy_X7_isClosed rfl (Nat.le_of_ble_eq_true rfl) dX7_closes_5 ?_
  refine r_ifeq X 15 dX7_closes_8 (by decide) (fun c6 => ?_) (fun c6 => ?_)
  · replace h := it_t c6 h
    refine r_iconst X 0 dX7_closes_15 rfl ?_
    exact r_iretE X hr dX7_closes_16 h
  · replace h := it_f c6 h
    refine r_iconst X 1 dX7_closes_11 rfl ?_
    refine r_goto X 16 dX7_closes_12 (by decide) ?_
    exact r_iretE X hr dX7_closes_16 h
