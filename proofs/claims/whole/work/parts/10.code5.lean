/-! Part 10: methods as pure functions (f_..), and their contracts (k_..) -/
def l_X3_through_57 (N : Nat)    : Nat → Mem → Int32 → Int32 → Int32 → Int32 → Int32 → Int32 → Option Mem
  | 0, _, _, _, _, _, _, _ => none
  | n + 1, M, v1, v2, v3, v4, v5, v6 =>
    if v5 ≤ v6 then
      (some M)
    else
      (if v4 < (M.1 21 9) then
        (some M)
      else
        (bd (f_X3_layAt N M (0 : Int32) (v1 - (3 : Int32)) v6) fun M11 =>
        bd2 (f_X3_isFirstSoFar N M11 (v1 - (3 : Int32))) fun r14 M13 =>
        if r14 = 0 then
          (l_X3_through_57 N n M13 v1 v2 v3 v4 v5 (v6 + 1))
        else
          (bd2 (f_X3_lacks N M13 (v1 - (3 : Int32)) v3) fun r18 M17 =>
          if r18 < 0 then
            (l_X3_through_57 N n M17 v1 v2 v3 v4 v5 (v6 + 1))
          else
            (bd (f_X3_throughTails N M17 v1 v2 v3 v4) fun M21 =>
            l_X3_through_57 N n M21 v1 v2 v3 v4 v5 (v6 + 1)))))
def l_X3_through_35 (N : Nat)    : Nat → Mem → Int32 → Int32 → Int32 → Int32 → Int32 → Int32 → Option Mem
  | 0, _, _, _, _, _, _, _ => none
  | n + 1, M, v1, v2, v3, v4, v5, v6 =>
    if v1 ≤ v6 then
      (l_X3_through_57 N N M v1 v2 v3 v4 v5 (0 : Int32))
    else
      (nm (v5 * (10 : Int32)) fun x23 =>
      l_X3_through_35 N n M v1 v2 v3 v4 x23 (v6 + 1))
def f_X3_through (N : Nat) (M : Mem) (p0 : Int32) (p1 : Int32) (p2 : Int32) (p3 : Int32) : Option Mem :=
  bd (f_X3_gather N M ) fun M1 =>
  nm (seI M1 21 9 (0 : Int32)) fun M3 =>
  bd (f_J7_fill_53178 shp N M3 26 (0 : Int32)) fun M4 =>
  if p0 < (3 : Int32) then
    (some M4)
  else
    (if p0 ≤ (6 : Int32) then
      (l_X3_through_35 N N M4 p0 p1 p2 p3 (1 : Int32) (3 : Int32))
    else
      (some M4))
set_option maxRecDepth 100000 in
set_option maxHeartbeats 4000000 in
theorem k_X3_through (l : Launch) (N : Nat) (nc : Nat) (hnc : 34 ≤ nc) (M : Mem) (p0 : Int32) (p1 : Int32) (p2 : Int32) (p3 : Int32) (M' : Mem) (h : f_X3_through N M p0 p1 p2 p3 = some M') (d : Nat) (hd : 6 ≤ d) : Ct l d yX3_through cX3_through 7 none shp nc [.ref 21, .int p0, .int p1, .int p2, .int p3] M none M' := by
  obtain ⟨d, rfl⟩ : ∃ q, d = q + 1 := ⟨d - 1, by omega⟩
  unfold f_X3_through at h
  refine Ct.of (by decide +kernel) (Nat.le_of_ble_eq_true rfl) ?_
  intro p e s m args below meth c A ad D cI cJ X hr
  have hl57 : ∀ (n : Nat) (M : Mem) (v1 : Int32) (v2 : Int32) (v3 : Int32) (v4 : Int32) (v5 : Int32) (v6 : Int32), l_X3_through_57 N n M v1 v2 v3 v4 v5 v6 = some M' → AW p l e (rmd (d + 1)) s m args below meth c 7 A ad D cI cJ shp nc 0 0 (MQ below (Qq A ad D cI cJ shp nc none M') args s 0 0 A) M 57 [(0, .ref 21), (1, .int v1), (2, .int v2), (3, .int v3), (4, .int v4), (5, .int v5), (6, .int v6)] [] := by
    intro n
    induction n with
    | zero => intro M v1 v2 v3 v4 v5 v6 h; cases h
    | succ n ih =>
      intro M v1 v2 v3 v4 v5 v6 h
      rw [l_X3_through_57] at h
      refine r_iload X 6 dX3_through_57 rfl ?_
      refine r_iload X 5 dX3_through_59 rfl ?_
      refine r_icge X 119 dX3_through_61 (by decide) (fun c9 => ?_) (fun c9 => ?_)
      · replace h := it_t c9 h
        exact r_vretE X hr dX3_through_119 h
      · replace h := it_f c9 h
        refine r_aload_n X 0 dX3_through_64 rfl rfl ?_
        refine r_geti X 9 in_X3 (ci := 2) rfl rfl (ltn hnc rfl) (Nat.le_of_ble_eq_true rfl) rfl w_163 dX3_through_65 ?_
        refine r_iload X 4 dX3_through_68 rfl ?_
        refine r_icgt X 119 dX3_through_70 (by decide) (fun c10 => ?_) (fun c10 => ?_)
        · replace h := it_t c10 h
          exact r_vretE X hr dX3_through_119 h
        · replace h := it_f c10 h
          refine r_aload_n X 0 dX3_through_73 rfl rfl ?_
          refine r_iconst X 0 dX3_through_74 rfl ?_
          refine r_iload_n X 1 dX3_through_75 rfl rfl ?_
          refine r_iconst X 3 dX3_through_76 rfl ?_
          refine r_isub X dX3_through_77 ?_
          refine r_iload X 6 dX3_through_78 rfl ?_
          obtain ⟨M11, h12, h⟩ := bd_ex h
          refine r_callV X (st := []) (av := [.int (0 : Int32), .int (v1 - (3 : Int32)), .int v6]) (k := 21) (ci := 2) (k_X3_layAt l N _ hnc _ _ _ _ _ h12 d (by omega)) (fitR_s (Nat.le_of_ble_eq_true rfl)) ⟨Nat.le_refl 0, Nat.le_refl 0⟩ rfl (ltn hnc rfl) rfl w_489 w_43 w_488 w_9 w_486 hy_X3_layAt rfl (Nat.le_of_ble_eq_true rfl) dX3_through_80 ?_
          refine r_aload_n X 0 dX3_through_83 rfl rfl ?_
          refine r_iload_n X 1 dX3_through_84 rfl rfl ?_
          refine r_iconst X 3 dX3_through_85 rfl ?_
          refine r_isub X dX3_through_86 ?_
          obtain ⟨r14, M13, h15, h⟩ := bd2_ex h
          refine r_callV X (st := []) (av := [.int (v1 - (3 : Int32))]) (k := 21) (ci := 2) (k_X3_isFirstSoFar l N _ hnc _ _ _ _ h15 d (by omega)) (fitR_s (Nat.le_of_ble_eq_true rfl)) ⟨Nat.le_refl 0, Nat.le_refl 0⟩ rfl (ltn hnc rfl) rfl w_493 w_43 w_492 w_10 w_490 hy_X3_isFirstSoFar rfl (Nat.le_of_ble_eq_true rfl) dX3_through_87 ?_
          refine r_ifeq X 113 dX3_through_90 (by decide) (fun c16 => ?_) (fun c16 => ?_)
          · replace h := it_t c16 h
            refine r_iinc X [(6, .int (v6 + 1)), (0, .ref 21), (1, .int v1), (2, .int v2), (3, .int v3), (4, .int v4), (5, .int v5)] 6 (v6 + 1) dX3_through_113 rfl rfl (Nat.le_of_ble_eq_true rfl) rfl ?_
            refine r_goto X 57 dX3_through_116 (by decide) ?_
            refine r_sub (ls' := [(0, .ref 21), (1, .int v1), (2, .int v2), (3, .int v3), (4, .int v4), (5, .int v5), (6, .int (v6 + 1))]) [1, 2, 3, 4, 5, 6, 0] rfl ?_
            exact ih M13 v1 v2 v3 v4 v5 (v6 + 1) h
          · replace h := it_f c16 h
            refine r_aload_n X 0 dX3_through_93 rfl rfl ?_
            refine r_iload_n X 1 dX3_through_94 rfl rfl ?_
            refine r_iconst X 3 dX3_through_95 rfl ?_
            refine r_isub X dX3_through_96 ?_
            refine r_iload_n X 3 dX3_through_97 rfl rfl ?_
            obtain ⟨r18, M17, h19, h⟩ := bd2_ex h
            refine r_callV X (st := []) (av := [.int (v1 - (3 : Int32)), .int v3]) (k := 21) (ci := 2) (k_X3_lacks l N _ hnc _ _ _ _ _ h19 d (by omega)) (fitR_s (Nat.le_of_ble_eq_true rfl)) ⟨Nat.le_refl 0, Nat.le_refl 0⟩ rfl (ltn hnc rfl) rfl w_497 w_43 w_496 w_11 w_494 hy_X3_lacks rfl (Nat.le_of_ble_eq_true rfl) dX3_through_98 ?_
            refine r_iflt X 113 dX3_through_101 (by decide) (fun c20 => ?_) (fun c20 => ?_)
            · replace h := it_t c20 h
              refine r_iinc X [(6, .int (v6 + 1)), (0, .ref 21), (1, .int v1), (2, .int v2), (3, .int v3), (4, .int v4), (5, .int v5)] 6 (v6 + 1) dX3_through_113 rfl rfl (Nat.le_of_ble_eq_true rfl) rfl ?_
              refine r_goto X 57 dX3_through_116 (by decide) ?_
              refine r_sub (ls' := [(0, .ref 21), (1, .int v1), (2, .int v2), (3, .int v3), (4, .int v4), (5, .int v5), (6, .int (v6 + 1))]) [1, 2, 3, 4, 5, 6, 0] rfl ?_
              exact ih M17 v1 v2 v3 v4 v5 (v6 + 1) h
            · replace h := it_f c20 h
              refine r_aload_n X 0 dX3_through_104 rfl rfl ?_
              refine r_iload_n X 1 dX3_through_105 rfl rfl ?_
              refine r_iload_n X 2 dX3_through_106 rfl rfl ?_
              refine r_iload_n X 3 dX3_through_107 rfl rfl ?_
              refine r_iload X 4 dX3_through_108 rfl ?_
              obtain ⟨M21, h22, h⟩ := bd_ex h
              refine r_callV X (st := []) (av := [.int v1, .int v2, .int v3, .int v4]) (k := 21) (ci := 2) (k_X3_throughTails l N _ hnc _ _ _ _ _ _ h22 d (by omega)) (fitR_s (Nat.le_of_ble_eq_true rfl)) ⟨Nat.le_refl 0, Nat.le_refl 0⟩ rfl (ltn hnc rfl) rfl w_502 w_43 w_501 w_12 w_499 hy_X3_throughTails rfl (Nat.le_of_ble_eq_true rfl) dX3_through_110 ?_
              refine r_iinc X [(6, .int (v6 + 1)), (0, .ref 21), (1, .int v1), (2, .int v2), (3, .int v3), (4, .int v4), (5, .int v5)] 6 (v6 + 1) dX3_through_113 rfl rfl (Nat.le_of_ble_eq_true rfl) rfl ?_
              refine r_goto X 57 dX3_through_116 (by decide) ?_
              refine r_sub (ls' := [(0, .ref 21), (1, .int v1), (2, .int v2), (3, .int v3), (4, .int v4), (5, .int v5), (6, .int (v6 + 1))]) [1, 2, 3, 4, 5, 6, 0] rfl ?_
              exact ih M21 v1 v2 v3 v4 v5 (v6 + 1) h
  have hl35 : ∀ (n : Nat) (M : Mem) (v1 : Int32) (v2 : Int32) (v3 : Int32) (v4 : Int32) (v5 : Int32) (v6 : Int32), l_X3_through_35 N n M v1 v2 v3 v4 v5 v6 = some M' → AW p l e (rmd (d + 1)) s m args below meth c 7 A ad D cI cJ shp nc 0 0 (MQ below (Qq A ad D cI cJ shp nc none M') args s 0 0 A) M 35 [(0, .ref 21), (1, .int v1), (2, .int v2), (3, .int v3), (4, .int v4), (5, .int v5), (6, .int v6)] [] := by
    intro n
    induction n with
    | zero => intro M v1 v2 v3 v4 v5 v6 h; cases h
    | succ n ih =>
      intro M v1 v2 v3 v4 v5 v6 h
      rw [l_X3_through_35] at h
      refine r_iload X 6 dX3_through_35 rfl ?_
      refine r_iload_n X 1 dX3_through_37 rfl rfl ?_
      refine r_icge X 54 dX3_through_38 (by decide) (fun c8 => ?_) (fun c8 => ?_)
      · replace h := it_t c8 h
        refine r_iconst X 0 dX3_through_54 rfl ?_
        refine r_istore X [(6, .int (0 : Int32)), (0, .ref 21), (1, .int v1), (2, .int v2), (3, .int v3), (4, .int v4), (5, .int v5)] dX3_through_55 (Nat.le_of_ble_eq_true rfl) rfl ?_
        refine r_sub (ls' := [(0, .ref 21), (1, .int v1), (2, .int v2), (3, .int v3), (4, .int v4), (5, .int v5), (6, .int (0 : Int32))]) [1, 2, 3, 4, 5, 6, 0] rfl ?_
        exact hl57  N M v1 v2 v3 v4 v5 (0 : Int32) h
      · replace h := it_f c8 h
        refine r_iload X 5 dX3_through_41 rfl ?_
        refine r_bipush X 10 dX3_through_43 rfl ?_
        refine r_imul X dX3_through_45 ?_
        obtain ⟨x23, ex23, h⟩ := nm_ex h
        refine r_top ex23 ?_
        refine r_istore X [(5, .int x23), (0, .ref 21), (1, .int v1), (2, .int v2), (3, .int v3), (4, .int v4), (6, .int v6)] dX3_through_46 (Nat.le_of_ble_eq_true rfl) rfl ?_
        refine r_iinc X [(6, .int (v6 + 1)), (5, .int x23), (0, .ref 21), (1, .int v1), (2, .int v2), (3, .int v3), (4, .int v4)] 6 (v6 + 1) dX3_through_48 rfl rfl (Nat.le_of_ble_eq_true rfl) rfl ?_
        refine r_goto X 35 dX3_through_51 (by decide) ?_
        refine r_sub (ls' := [(0, .ref 21), (1, .int v1), (2, .int v2), (3, .int v3), (4, .int v4), (5, .int x23), (6, .int (v6 + 1))]) [2, 3, 4, 5, 6, 1, 0] rfl ?_
        exact ih M v1 v2 v3 v4 x23 (v6 + 1) h
  refine r_sub (ls' := [(0, .ref 21), (1, .int p0), (2, .int p1), (3, .int p2), (4, .int p3)]) [0, 1, 2, 3, 4] rfl ?_
  refine r_aload_n X 0 dX3_through_0 rfl rfl ?_
  obtain ⟨M1, h2, h⟩ := bd_ex h
  refine r_callV X (st := []) (av := []) (k := 21) (ci := 2) (k_X3_gather l N _ hnc _  _ h2 d (by omega)) (fitR_s (Nat.le_of_ble_eq_true rfl)) ⟨Nat.le_refl 0, Nat.le_refl 0⟩ rfl (ltn hnc rfl) rfl w_466 w_43 w_465 w_7 w_463 hy_X3_gather rfl (Nat.le_of_ble_eq_true rfl) dX3_through_1 ?_
  refine r_aload_n X 0 dX3_through_4 rfl rfl ?_
  refine r_iconst X 0 dX3_through_5 rfl ?_
  obtain ⟨M3, eM3, h⟩ := nm_ex h
  refine r_puti X 9 in_X3 (ci := 2) rfl tyX3_ok nmX3 rfl (ltn hnc rfl) (Nat.le_of_ble_eq_true rfl) rfl w_163 rfl (ty := .int) rfl rfl rfl dX3_through_6 ?_
  refine r_mem eM3 ?_
  refine r_aload_n X 0 dX3_through_9 rfl rfl ?_
  refine r_getr X 8 26 in_X3 (ci := 2) rfl rfl (ltn hnc rfl) (Nat.le_of_ble_eq_true rfl) rfl w_161 dX3_through_10 (by decide) ?_
  refine r_iconst X 0 dX3_through_13 rfl ?_
  obtain ⟨M4, h5, h⟩ := bd_ex h
  refine r_callS X (st := []) (av := [.ref 26, .int (0 : Int32)]) (k_J7_fill_53178 l N _ _ _ _ _ (Or.inl (ltn hnc rfl)) _ h5 d (by omega)) (fitR_s (Nat.le_of_ble_eq_true rfl)) ⟨Nat.le_refl 0, Nat.le_refl 0⟩ w_469 w_49 w_468 w_467 hy_J7_fill_53178 rfl (Nat.le_of_ble_eq_true rfl) dX3_through_14 ?_
  refine r_iload_n X 1 dX3_through_17 rfl rfl ?_
  refine r_iconst X 3 dX3_through_18 rfl ?_
  refine r_iclt X 28 dX3_through_19 (by decide) (fun c6 => ?_) (fun c6 => ?_)
  · replace h := it_t c6 h
    exact r_vretE X hr dX3_through_28 h
  · replace h := it_f c6 h
    refine r_iload_n X 1 dX3_through_22 rfl rfl ?_
    refine r_bipush X 6 dX3_through_23 rfl ?_
    refine r_icle X 29 dX3_through_25 (by decide) (fun c7 => ?_) (fun c7 => ?_)
    · replace h := it_t c7 h
      refine r_iconst X 1 dX3_through_29 rfl ?_
      refine r_istore X [(5, .int (1 : Int32)), (0, .ref 21), (1, .int p0), (2, .int p1), (3, .int p2), (4, .int p3)] dX3_through_30 (Nat.le_of_ble_eq_true rfl) rfl ?_
      refine r_iconst X 3 dX3_through_32 rfl ?_
      refine r_istore X [(6, .int (3 : Int32)), (5, .int (1 : Int32)), (0, .ref 21), (1, .int p0), (2, .int p1), (3, .int p2), (4, .int p3)] dX3_through_33 (Nat.le_of_ble_eq_true rfl) rfl ?_
      refine r_sub (ls' := [(0, .ref 21), (1, .int p0), (2, .int p1), (3, .int p2), (4, .int p3), (5, .int (1 : Int32)), (6, .int (3 : Int32))]) [2, 3, 4, 5, 6, 1, 0] rfl ?_
      exact hl35  N M4 p0 p1 p2 p3 (1 : Int32) (3 : Int32) h
    · replace h := it_f c7 h
      exact r_vretE X hr dX3_through_28 h
def f_X6_rings (N : Nat) (M : Mem) (p0 : Int32) (p1 : Int32) : Option (Int32 × Mem) :=
  if (1 : Int32) ≤ p0 then
    (if p0 ≤ (6 : Int32) then
      (bd (f_X3_through N M p0 p1 (0 : Int32) (1000000000 : Int32)) fun M3 =>
      some (M3.1 21 9, M3))
    else
      (bd2 (f_X6_refuse N M (-6 : Int32)) fun r6 M5 =>
      some (r6, M5)))
  else
    (bd2 (f_X6_refuse N M (-4 : Int32)) fun r9 M8 =>
    some (r9, M8))
set_option maxRecDepth 100000 in
set_option maxHeartbeats 4000000 in
theorem k_X6_rings (l : Launch) (N : Nat) (nc : Nat) (hnc : 34 ≤ nc) (M : Mem) (p0 : Int32) (p1 : Int32) (r : Int32) (M' : Mem) (h : f_X6_rings N M p0 p1 = some (r, M')) (d : Nat) (hd : 7 ≤ d) : Ct l d yX6_rings cX6_rings 3 (some .int) shp nc [.ref 0, .int p0, .int p1] M (some (.int r)) M' := by
  obtain ⟨d, rfl⟩ : ∃ q, d = q + 1 := ⟨d - 1, by omega⟩
  unfold f_X6_rings at h
  refine Ct.of (by decide +kernel) (Nat.le_of_ble_eq_true rfl) ?_
  intro p e s m args below meth c A ad D cI cJ X hr
  refine r_sub (ls' := [(0, .ref 0), (1, .int p0), (2, .int p1)]) [0, 1, 2] rfl ?_
  refine r_iload_n X 1 dX6_rings_0 rfl rfl ?_
  refine r_iconst X 1 dX6_rings_1 rfl ?_
  refine r_icge X 12 dX6_rings_2 (by decide) (fun c1 => ?_) (fun c1 => ?_)
  · replace h := it_t c1 h
    refine r_iload_n X 1 dX6_rings_12 rfl rfl ?_
    refine r_bipush X 6 dX6_rings_13 rfl ?_
    refine r_icle X 25 dX6_rings_15 (by decide) (fun c2 => ?_) (fun c2 => ?_)
    · replace h := it_t c2 h
      refine r_aload_n X 0 dX6_rings_25 rfl rfl ?_
      refine r_getr X 5 21 in_X6 (ci := 5) rfl rfl (ltn hnc rfl) (Nat.le_of_ble_eq_true rfl) rfl w_245 dX6_rings_26 (by decide) ?_
      refine r_iload_n X 1 dX6_rings_29 rfl rfl ?_
      refine r_iload_n X 2 dX6_rings_30 rfl rfl ?_
      refine r_iconst X 0 dX6_rings_31 rfl ?_
      refine r_ldc X w_331 dX6_rings_32 ?_
      obtain ⟨M3, h4, h⟩ := bd_ex h
      refine r_callV X (st := []) (av := [.int p0, .int p1, .int (0 : Int32), .int (1000000000 : Int32)]) (k := 21) (ci := 2) (k_X3_through l N _ hnc _ _ _ _ _ _ h4 d (by omega)) (fitR_s (Nat.le_of_ble_eq_true rfl)) ⟨Nat.le_refl 0, Nat.le_refl 0⟩ rfl (ltn hnc rfl) rfl w_462 w_43 w_460 w_461 w_459 hy_X3_through rfl (Nat.le_of_ble_eq_true rfl) dX6_rings_34 ?_
      refine r_aload_n X 0 dX6_rings_37 rfl rfl ?_
      refine r_getr X 5 21 in_X6 (ci := 5) rfl rfl (ltn hnc rfl) (Nat.le_of_ble_eq_true rfl) rfl w_245 dX6_rings_38 (by decide) ?_
      refine r_geti X 9 in_X3 (ci := 2) rfl rfl (ltn hnc rfl) (Nat.le_of_ble_eq_true rfl) rfl w_164 dX6_rings_41 ?_
      exact r_iretE X hr dX6_rings_44 h
    · replace h := it_f c2 h
      refine r_aload_n X 0 dX6_rings_18 rfl rfl ?_
      refine r_bipush X (-6) dX6_rings_19 rfl ?_
      obtain ⟨r6, M5, h7, h⟩ := bd2_ex h
      refine r_callV X (st := []) (av := [.int (-6 : Int32)]) (k := 0) (ci := 5) (k_X6_refuse l N _ hnc _ _ _ _ h7 d (by omega)) (fitR_s (Nat.le_of_ble_eq_true rfl)) ⟨Nat.le_refl 0, Nat.le_refl 0⟩ rfl (ltn hnc rfl) rfl w_284 w_39 w_283 w_1 w_281 hy_X6_refuse rfl (Nat.le_of_ble_eq_true rfl) dX6_rings_21 ?_
      exact r_iretE X hr dX6_rings_24 h
  · replace h := it_f c1 h
    refine r_aload_n X 0 dX6_rings_5 rfl rfl ?_
    refine r_bipush X (-4) dX6_rings_6 rfl ?_
    obtain ⟨r9, M8, h10, h⟩ := bd2_ex h
    refine r_callV X (st := []) (av := [.int (-4 : Int32)]) (k := 0) (ci := 5) (k_X6_refuse l N _ hnc _ _ _ _ h10 d (by omega)) (fitR_s (Nat.le_of_ble_eq_true rfl)) ⟨Nat.le_refl 0, Nat.le_refl 0⟩ rfl (ltn hnc rfl) rfl w_284 w_39 w_283 w_1 w_281 hy_X6_refuse rfl (Nat.le_of_ble_eq_true rfl) dX6_rings_8 ?_
    exact r_iretE X hr dX6_rings_11 h
def l_X7_begins_7 (N : Nat)    : Nat → Mem → Int32 → Option Mem
  | 0, _, _ => none
  | n + 1, M, v2 =>
    if (7 : Int32) ≤ v2 then
      (some M)
    else
      (ck (inb v2 56) <|
      ck (inb v2 7) <|
      nm (seI M 41 (ix v2) (M.1 36 (ix v2))) fun M5 =>
      l_X7_begins_7 N n M5 (v2 + 1))
def f_X7_begins (N : Nat) (M : Mem) (p0 : Int32) : Option Mem :=
  nm (seI M 34 8 p0) fun M1 =>
  l_X7_begins_7 N N M1 (0 : Int32)
set_option maxRecDepth 100000 in
set_option maxHeartbeats 4000000 in
theorem k_X7_begins (l : Launch) (N : Nat) (nc : Nat) (hnc : 45 ≤ nc) (M : Mem) (p0 : Int32) (M' : Mem) (h : f_X7_begins N M p0 = some M') (d : Nat) (hd : 0 ≤ d) : Ct l d yX7_begins cX7_begins 3 none shp nc [.ref 34, .int p0] M none M' := by
  unfold f_X7_begins at h
  refine Ct.of (by decide +kernel) (Nat.le_of_ble_eq_true rfl) ?_
  intro p e s m args below meth c A ad D cI cJ X hr
  have hl7 : ∀ (n : Nat) (M : Mem) (v2 : Int32), l_X7_begins_7 N n M v2 = some M' → AW p l e (rmd d) s m args below meth c 3 A ad D cI cJ shp nc 0 0 (MQ below (Qq A ad D cI cJ shp nc none M') args s 0 0 A) M 7 [(0, .ref 34), (2, .int v2)] [] := by
    intro n
    induction n with
    | zero => intro M v2 h; cases h
    | succ n ih =>
      intro M v2 h
      rw [l_X7_begins_7] at h
      refine r_iload_n X 1 dX7_begins_7 rfl rfl ?_
      refine r_bipush X 7 dX7_begins_8 rfl ?_
      refine r_icge X 31 dX7_begins_10 (by decide) (fun c2 => ?_) (fun c2 => ?_)
      · replace h := it_t c2 h
        exact r_vretE X hr dX7_begins_31 h
      · replace h := it_f c2 h
        refine r_aload_n X 0 dX7_begins_13 rfl rfl ?_
        refine r_getr X 11 41 in_X7 (ci := 6) rfl rfl (ltn hnc rfl) (Nat.le_of_ble_eq_true rfl) rfl w_620 dX7_begins_14 (by decide) ?_
        refine r_iload_n X 1 dX7_begins_17 rfl rfl ?_
        refine r_aload_n X 0 dX7_begins_18 rfl rfl ?_
        refine r_getr X 1 36 in_X7 (ci := 6) rfl rfl (ltn hnc rfl) (Nat.le_of_ble_eq_true rfl) rfl w_610 dX7_begins_19 (by decide) ?_
        refine r_iload_n X 1 dX7_begins_22 rfl rfl ?_
        obtain ⟨c3, h⟩ := ck_ex h
        refine r_iald X (n := 56) rfl (Or.inl (ltn hnc rfl)) c3 dX7_begins_23 ?_
        obtain ⟨c4, h⟩ := ck_ex h
        obtain ⟨M5, eM5, h⟩ := nm_ex h
        refine r_iast X (n := 7) rfl (ltn hnc rfl) c4 dX7_begins_24 ?_
        refine r_mem eM5 ?_
        refine r_iinc X [(2, .int (v2 + 1)), (0, .ref 34)] 1 (v2 + 1) dX7_begins_25 rfl rfl (Nat.le_of_ble_eq_true rfl) rfl ?_
        refine r_goto X 7 dX7_begins_28 (by decide) ?_
        refine r_sub (ls' := [(0, .ref 34), (2, .int (v2 + 1))]) [1, 0] rfl ?_
        exact ih M5 (v2 + 1) h
  refine r_sub (ls' := [(0, .ref 34), (1, .int p0)]) [0, 1] rfl ?_
  refine r_aload_n X 0 dX7_begins_0 rfl rfl ?_
  refine r_iload_n X 1 dX7_begins_1 rfl rfl ?_
  obtain ⟨M1, eM1, h⟩ := nm_ex h
  refine r_puti X 8 in_X7 (ci := 6) rfl tyX7_ok nmX7 rfl (ltn hnc rfl) (Nat.le_of_ble_eq_true rfl) rfl w_617 rfl (ty := .int) rfl rfl rfl dX7_begins_2 ?_
  refine r_mem eM1 ?_
  refine r_iconst X 0 dX7_begins_5 rfl ?_
  refine r_istore_n X [(2, .int (0 : Int32)), (0, .ref 34), (1, .int p0)] dX7_begins_6 rfl (Nat.le_of_ble_eq_true rfl) rfl ?_
  refine r_sub (ls' := [(0, .ref 34), (2, .int (0 : Int32))]) [1, 0] rfl ?_
  exact hl7  N M1 (0 : Int32) h
def l_X7_nears_87 (N : Nat)    : Nat → Mem → Int32 → Option Mem
  | 0, _, _ => none
  | n + 1, M, v1 =>
    if (M.1 34 8) ≤ v1 then
      (some M)
    else
      (ck (inb v1 24) <|
      ck (inb v1 6) <|
      nm (seI M 44 (ix v1) (M.1 40 (ix v1))) fun M20 =>
      l_X7_nears_87 N n M20 (v1 + 1))
def f_X7_nears (N : Nat) (M : Mem)  : Option Mem :=
  ck (inb (((5 : Int32) * (M.1 34 8)) + (4 : Int32)) 125) <|
  if (M.1 39 (ix (((5 : Int32) * (M.1 34 8)) + (4 : Int32)))) = 0 then
    (bd2 (f_X7_isClosed N M ) fun r4 M3 =>
    if r4 = 0 then
      (if (M3.1 34 17) ≤ 0 then
        (nm (seI M3 34 17 (1 : Int32)) fun M8 =>
        bd2 (f_X7_gapOf N M8 (0 : Int32)) fun r10 M9 =>
        nm (seI M9 34 19 r10) fun M12 =>
        bd2 (f_X7_gapOf N M12 (1 : Int32)) fun r14 M13 =>
        nm (seI M13 34 20 r14) fun M16 =>
        l_X7_nears_87 N N M16 (0 : Int32))
      else
        (bd2 (f_X7_gapOf N M3 (0 : Int32)) fun r22 M21 =>
        bd2 (f_X7_gapOf N M21 (1 : Int32)) fun r25 M24 =>
        bd2 (f_X7_signOf N M24 ((Int32.toInt64 r22) - (Int32.toInt64 (M21.1 34 19))) ((Int32.toInt64 r25) - (Int32.toInt64 (M24.1 34 20)))) fun r28 M27 =>
        if r28 < 0 then
          (nm (seI M27 34 17 (1 : Int32)) fun M31 =>
          bd2 (f_X7_gapOf N M31 (0 : Int32)) fun r33 M32 =>
          nm (seI M32 34 19 r33) fun M35 =>
          bd2 (f_X7_gapOf N M35 (1 : Int32)) fun r37 M36 =>
          nm (seI M36 34 20 r37) fun M39 =>
          l_X7_nears_87 N N M39 (0 : Int32))
        else
          (some M27)))
    else
      (some M3))
  else
    (some M)
set_option maxRecDepth 100000 in
set_option maxHeartbeats 4000000 in
theorem k_X7_nears (l : Launch) (N : Nat) (nc : Nat) (hnc : 45 ≤ nc) (M : Mem)  (M' : Mem) (h : f_X7_nears N M  = some M') (d : Nat) (hd : 2 ≤ d) : Ct l d yX7_nears cX7_nears 2 none shp nc [.ref 34] M none M' := by
  obtain ⟨d, rfl⟩ : ∃ q, d = q + 1 := ⟨d - 1, by omega⟩
  unfold f_X7_nears at h
  refine Ct.of (by decide +kernel) (Nat.le_of_ble_eq_true rfl) ?_
  intro p e s m args below meth c A ad D cI cJ X hr
  have hl87 : ∀ (n : Nat) (M : Mem) (v1 : Int32), l_X7_nears_87 N n M v1 = some M' → AW p l e (rmd (d + 1)) s m args below meth c 2 A ad D cI cJ shp nc 0 0 (MQ below (Qq A ad D cI cJ shp nc none M') args s 0 0 A) M 87 [(0, .ref 34), (1, .int v1)] [] := by
    intro n
    induction n with
    | zero => intro M v1 h; cases h
    | succ n ih =>
      intro M v1 h
      rw [l_X7_nears_87] at h
      refine r_iload_n X 1 dX7_nears_87 rfl rfl ?_
      refine r_aload_n X 0 dX7_nears_88 rfl rfl ?_
      refine r_geti X 8 in_X7 (ci := 6) rfl rfl (ltn hnc rfl) (Nat.le_of_ble_eq_true rfl) rfl w_617 dX7_nears_89 ?_
      refine r_icge X 113 dX7_nears_92 (by decide) (fun c17 => ?_) (fun c17 => ?_)
      · replace h := it_t c17 h
        exact r_vretE X hr dX7_nears_113 h
      · replace h := it_f c17 h
        refine r_aload_n X 0 dX7_nears_95 rfl rfl ?_
        refine r_getr X 14 44 in_X7 (ci := 6) rfl rfl (ltn hnc rfl) (Nat.le_of_ble_eq_true rfl) rfl w_623 dX7_nears_96 (by decide) ?_
        refine r_iload_n X 1 dX7_nears_99 rfl rfl ?_
        refine r_aload_n X 0 dX7_nears_100 rfl rfl ?_
        refine r_getr X 7 40 in_X7 (ci := 6) rfl rfl (ltn hnc rfl) (Nat.le_of_ble_eq_true rfl) rfl w_616 dX7_nears_101 (by decide) ?_
        refine r_iload_n X 1 dX7_nears_104 rfl rfl ?_
        obtain ⟨c18, h⟩ := ck_ex h
        refine r_iald X (n := 24) rfl (Or.inl (ltn hnc rfl)) c18 dX7_nears_105 ?_
        obtain ⟨c19, h⟩ := ck_ex h
        obtain ⟨M20, eM20, h⟩ := nm_ex h
        refine r_iast X (n := 6) rfl (ltn hnc rfl) c19 dX7_nears_106 ?_
        refine r_mem eM20 ?_
        refine r_iinc X [(1, .int (v1 + 1)), (0, .ref 34)] 1 (v1 + 1) dX7_nears_107 rfl rfl (Nat.le_of_ble_eq_true rfl) rfl ?_
        refine r_goto X 87 dX7_nears_110 (by decide) ?_
        refine r_sub (ls' := [(0, .ref 34), (1, .int (v1 + 1))]) [1, 0] rfl ?_
        exact ih M20 (v1 + 1) h
  refine r_sub (ls' := [(0, .ref 34)]) [0] rfl ?_
  refine r_aload_n X 0 dX7_nears_0 rfl rfl ?_
  refine r_getr X 6 39 in_X7 (ci := 6) rfl rfl (ltn hnc rfl) (Nat.le_of_ble_eq_true rfl) rfl w_615 dX7_nears_1 (by decide) ?_
  refine r_iconst X 5 dX7_nears_4 rfl ?_
  refine r_aload_n X 0 dX7_nears_5 rfl rfl ?_
  refine r_geti X 8 in_X7 (ci := 6) rfl rfl (ltn hnc rfl) (Nat.le_of_ble_eq_true rfl) rfl w_617 dX7_nears_6 ?_
  refine r_imul X dX7_nears_9 ?_
  refine r_iconst X 4 dX7_nears_10 rfl ?_
  refine r_iadd X dX7_nears_11 ?_
  obtain ⟨c1, h⟩ := ck_ex h
  refine r_iald X (n := 125) rfl (Or.inl (ltn hnc rfl)) c1 dX7_nears_12 ?_
  refine r_ifne X 23 dX7_nears_13 (by decide) (fun c2 => ?_) (fun c2 => ?_)
  · replace h := it_f c2 h
    exact r_vretE X hr dX7_nears_23 h
  · replace h := it_t c2 h
    refine r_aload_n X 0 dX7_nears_16 rfl rfl ?_
    obtain ⟨r4, M3, h5, h⟩ := bd2_ex h
    refine r_callV X (st := []) (av := []) (k := 34) (ci := 6) (k_X7_isClosed l N _ hnc _  _ _ h5 d (by omega)) (fitR_s (Nat.le_of_ble_eq_true rfl)) ⟨Nat.le_refl 0, Nat.le_refl 0⟩ rfl (ltn hnc rfl) rfl w_750 w_47 w_749 w_23 w_747 hy_X7_isClosed rfl (Nat.le_of_ble_eq_true rfl) dX7_nears_17 ?_
    refine r_ifeq X 24 dX7_nears_20 (by decide) (fun c6 => ?_) (fun c6 => ?_)
    · replace h := it_t c6 h
      refine r_aload_n X 0 dX7_nears_24 rfl rfl ?_
      refine r_geti X 17 in_X7 (ci := 6) rfl rfl (ltn hnc rfl) (Nat.le_of_ble_eq_true rfl) rfl w_626 dX7_nears_25 ?_
      refine r_ifle X 62 dX7_nears_28 (by decide) (fun c7 => ?_) (fun c7 => ?_)
      · replace h := it_t c7 h
        refine r_aload_n X 0 dX7_nears_62 rfl rfl ?_
        refine r_iconst X 1 dX7_nears_63 rfl ?_
        obtain ⟨M8, eM8, h⟩ := nm_ex h
        refine r_puti X 17 in_X7 (ci := 6) rfl tyX7_ok nmX7 rfl (ltn hnc rfl) (Nat.le_of_ble_eq_true rfl) rfl w_626 rfl (ty := .int) rfl rfl rfl dX7_nears_64 ?_
        refine r_mem eM8 ?_
        refine r_aload_n X 0 dX7_nears_67 rfl rfl ?_
        refine r_aload_n X 0 dX7_nears_68 rfl rfl ?_
        refine r_iconst X 0 dX7_nears_69 rfl ?_
        obtain ⟨r10, M9, h11, h⟩ := bd2_ex h
        refine r_callV X (st := [.ref 34]) (av := [.int (0 : Int32)]) (k := 34) (ci := 6) (k_X7_gapOf l N _ hnc _ _ _ _ h11 d (by omega)) (fitR_s (Nat.le_of_ble_eq_true rfl)) ⟨Nat.le_refl 0, Nat.le_refl 0⟩ rfl (ltn hnc rfl) rfl w_779 w_47 w_778 w_25 w_776 hy_X7_gapOf rfl (Nat.le_of_ble_eq_true rfl) dX7_nears_70 ?_
        obtain ⟨M12, eM12, h⟩ := nm_ex h
        refine r_puti X 19 in_X7 (ci := 6) rfl tyX7_ok nmX7 rfl (ltn hnc rfl) (Nat.le_of_ble_eq_true rfl) rfl w_628 rfl (ty := .int) rfl rfl rfl dX7_nears_73 ?_
        refine r_mem eM12 ?_
        refine r_aload_n X 0 dX7_nears_76 rfl rfl ?_
        refine r_aload_n X 0 dX7_nears_77 rfl rfl ?_
        refine r_iconst X 1 dX7_nears_78 rfl ?_
        obtain ⟨r14, M13, h15, h⟩ := bd2_ex h
        refine r_callV X (st := [.ref 34]) (av := [.int (1 : Int32)]) (k := 34) (ci := 6) (k_X7_gapOf l N _ hnc _ _ _ _ h15 d (by omega)) (fitR_s (Nat.le_of_ble_eq_true rfl)) ⟨Nat.le_refl 0, Nat.le_refl 0⟩ rfl (ltn hnc rfl) rfl w_779 w_47 w_778 w_25 w_776 hy_X7_gapOf rfl (Nat.le_of_ble_eq_true rfl) dX7_nears_79 ?_
        obtain ⟨M16, eM16, h⟩ := nm_ex h
        refine r_puti X 20 in_X7 (ci := 6) rfl tyX7_ok nmX7 rfl (ltn hnc rfl) (Nat.le_of_ble_eq_true rfl) rfl w_629 rfl (ty := .int) rfl rfl rfl dX7_nears_82 ?_
        refine r_mem eM16 ?_
        refine r_iconst X 0 dX7_nears_85 rfl ?_
        refine r_istore_n X [(1, .int (0 : Int32)), (0, .ref 34)] dX7_nears_86 rfl (Nat.le_of_ble_eq_true rfl) rfl ?_
        refine r_sub (ls' := [(0, .ref 34), (1, .int (0 : Int32))]) [1, 0] rfl ?_
        exact hl87  N M16 (0 : Int32) h
      · replace h := it_f c7 h
        refine r_aload_n X 0 dX7_nears_31 rfl rfl ?_
        refine r_iconst X 0 dX7_nears_32 rfl ?_
        obtain ⟨r22, M21, h23, h⟩ := bd2_ex h
        refine r_callV X (st := []) (av := [.int (0 : Int32)]) (k := 34) (ci := 6) (k_X7_gapOf l N _ hnc _ _ _ _ h23 d (by omega)) (fitR_s (Nat.le_of_ble_eq_true rfl)) ⟨Nat.le_refl 0, Nat.le_refl 0⟩ rfl (ltn hnc rfl) rfl w_779 w_47 w_778 w_25 w_776 hy_X7_gapOf rfl (Nat.le_of_ble_eq_true rfl) dX7_nears_33 ?_
        refine r_i2l X dX7_nears_36 ?_
        refine r_aload_n X 0 dX7_nears_37 rfl rfl ?_
        refine r_geti X 19 in_X7 (ci := 6) rfl rfl (ltn hnc rfl) (Nat.le_of_ble_eq_true rfl) rfl w_628 dX7_nears_38 ?_
        refine r_i2l X dX7_nears_41 ?_
        refine r_lsub X dX7_nears_42 ?_
        refine r_aload_n X 0 dX7_nears_43 rfl rfl ?_
        refine r_iconst X 1 dX7_nears_44 rfl ?_
        obtain ⟨r25, M24, h26, h⟩ := bd2_ex h
        refine r_callV X (st := [.long ((Int32.toInt64 r22) - (Int32.toInt64 (M21.1 34 19)))]) (av := [.int (1 : Int32)]) (k := 34) (ci := 6) (k_X7_gapOf l N _ hnc _ _ _ _ h26 d (by omega)) (fitR_s (Nat.le_of_ble_eq_true rfl)) ⟨Nat.le_refl 0, Nat.le_refl 0⟩ rfl (ltn hnc rfl) rfl w_779 w_47 w_778 w_25 w_776 hy_X7_gapOf rfl (Nat.le_of_ble_eq_true rfl) dX7_nears_45 ?_
        refine r_i2l X dX7_nears_48 ?_
        refine r_aload_n X 0 dX7_nears_49 rfl rfl ?_
        refine r_geti X 20 in_X7 (ci := 6) rfl rfl (ltn hnc rfl) (Nat.le_of_ble_eq_true rfl) rfl w_629 dX7_nears_50 ?_
        refine r_i2l X dX7_nears_53 ?_
        refine r_lsub X dX7_nears_54 ?_
        obtain ⟨r28, M27, h29, h⟩ := bd2_ex h
        refine r_callS X (st := []) (av := [.long ((Int32.toInt64 r22) - (Int32.toInt64 (M21.1 34 19))), .long ((Int32.toInt64 r25) - (Int32.toInt64 (M24.1 34 20)))]) (k_X7_signOf l N _ hnc _ _ _ _ _ h29 d (by omega)) (fitR_s (Nat.le_of_ble_eq_true rfl)) ⟨Nat.le_refl 0, Nat.le_refl 0⟩ w_770 w_47 w_769 w_768 hy_X7_signOf rfl (Nat.le_of_ble_eq_true rfl) dX7_nears_55 ?_
        refine r_iflt X 62 dX7_nears_58 (by decide) (fun c30 => ?_) (fun c30 => ?_)
        · replace h := it_t c30 h
          refine r_aload_n X 0 dX7_nears_62 rfl rfl ?_
          refine r_iconst X 1 dX7_nears_63 rfl ?_
          obtain ⟨M31, eM31, h⟩ := nm_ex h
          refine r_puti X 17 in_X7 (ci := 6) rfl tyX7_ok nmX7 rfl (ltn hnc rfl) (Nat.le_of_ble_eq_true rfl) rfl w_626 rfl (ty := .int) rfl rfl rfl dX7_nears_64 ?_
          refine r_mem eM31 ?_
          refine r_aload_n X 0 dX7_nears_67 rfl rfl ?_
          refine r_aload_n X 0 dX7_nears_68 rfl rfl ?_
          refine r_iconst X 0 dX7_nears_69 rfl ?_
          obtain ⟨r33, M32, h34, h⟩ := bd2_ex h
          refine r_callV X (st := [.ref 34]) (av := [.int (0 : Int32)]) (k := 34) (ci := 6) (k_X7_gapOf l N _ hnc _ _ _ _ h34 d (by omega)) (fitR_s (Nat.le_of_ble_eq_true rfl)) ⟨Nat.le_refl 0, Nat.le_refl 0⟩ rfl (ltn hnc rfl) rfl w_779 w_47 w_778 w_25 w_776 hy_X7_gapOf rfl (Nat.le_of_ble_eq_true rfl) dX7_nears_70 ?_
          obtain ⟨M35, eM35, h⟩ := nm_ex h
          refine r_puti X 19 in_X7 (ci := 6) rfl tyX7_ok nmX7 rfl (ltn hnc rfl) (Nat.le_of_ble_eq_true rfl) rfl w_628 rfl (ty := .int) rfl rfl rfl dX7_nears_73 ?_
          refine r_mem eM35 ?_
          refine r_aload_n X 0 dX7_nears_76 rfl rfl ?_
          refine r_aload_n X 0 dX7_nears_77 rfl rfl ?_
          refine r_iconst X 1 dX7_nears_78 rfl ?_
          obtain ⟨r37, M36, h38, h⟩ := bd2_ex h
          refine r_callV X (st := [.ref 34]) (av := [.int (1 : Int32)]) (k := 34) (ci := 6) (k_X7_gapOf l N _ hnc _ _ _ _ h38 d (by omega)) (fitR_s (Nat.le_of_ble_eq_true rfl)) ⟨Nat.le_refl 0, Nat.le_refl 0⟩ rfl (ltn hnc rfl) rfl w_779 w_47 w_778 w_25 w_776 hy_X7_gapOf rfl (Nat.le_of_ble_eq_true rfl) dX7_nears_79 ?_
          obtain ⟨M39, eM39, h⟩ := nm_ex h
          refine r_puti X 20 in_X7 (ci := 6) rfl tyX7_ok nmX7 rfl (ltn hnc rfl) (Nat.le_of_ble_eq_true rfl) rfl w_629 rfl (ty := .int) rfl rfl rfl dX7_nears_82 ?_
          refine r_mem eM39 ?_
          refine r_iconst X 0 dX7_nears_85 rfl ?_
          refine r_istore_n X [(1, .int (0 : Int32)), (0, .ref 34)] dX7_nears_86 rfl (Nat.le_of_ble_eq_true rfl) rfl ?_
          refine r_sub (ls' := [(0, .ref 34), (1, .int (0 : Int32))]) [1, 0] rfl ?_
          exact hl87  N M39 (0 : Int32) h
        · replace h := it_f c30 h
          exact r_vretE X hr dX7_nears_61 h
    · replace h := it_f c6 h
      exact r_vretE X hr dX7_nears_23 h
def f_X7_mirrored (N : Nat) (M : Mem) (p0 : Int32) : Option (Int32 × Mem) :=
  if p0 = (3 : Int32) then
    (some (p0 + (2 : Int32), M))
  else
    (if p0 = (4 : Int32) then
      (some (p0 + (2 : Int32), M))
    else
      (if p0 = (5 : Int32) then
        (some (p0 - (2 : Int32), M))
      else
        (if p0 = (6 : Int32) then
          (some (p0 - (2 : Int32), M))
        else
          (if p0 = (7 : Int32) then
            (some ((8 : Int32), M))
          else
            (if p0 = (8 : Int32) then
              (some ((7 : Int32), M))
            else
              (some (p0, M)))))))
set_option maxRecDepth 100000 in
set_option maxHeartbeats 4000000 in
theorem k_X7_mirrored (l : Launch) (N : Nat) (nc : Nat) (hnc : 45 ≤ nc) (M : Mem) (p0 : Int32) (r : Int32) (M' : Mem) (h : f_X7_mirrored N M p0 = some (r, M')) (d : Nat) (hd : 0 ≤ d) : Ct l d yX7_mirrored cX7_mirrored 1 (some .int) shp nc [.int p0] M (some (.int r)) M' := by
  unfold f_X7_mirrored at h
  refine Ct.of (by decide +kernel) (Nat.le_of_ble_eq_true rfl) ?_
  intro p e s m args below meth c A ad D cI cJ X hr
  refine r_sub (ls' := [(0, .int p0)]) [0] rfl ?_
  refine r_iload_n X 0 dX7_mirrored_0 rfl rfl ?_
  refine r_iconst X 3 dX7_mirrored_1 rfl ?_
  refine r_iceq X 10 dX7_mirrored_2 (by decide) (fun c1 => ?_) (fun c1 => ?_)
  · replace h := it_t c1 h
    refine r_iload_n X 0 dX7_mirrored_10 rfl rfl ?_
    refine r_iconst X 2 dX7_mirrored_11 rfl ?_
    refine r_iadd X dX7_mirrored_12 ?_
    refine r_goto X 56 dX7_mirrored_13 (by decide) ?_
    exact r_iretE X hr dX7_mirrored_56 h
  · replace h := it_f c1 h
    refine r_iload_n X 0 dX7_mirrored_5 rfl rfl ?_
    refine r_iconst X 4 dX7_mirrored_6 rfl ?_
    refine r_icne X 16 dX7_mirrored_7 (by decide) (fun c2 => ?_) (fun c2 => ?_)
    · replace h := it_f c2 h
      refine r_iload_n X 0 dX7_mirrored_16 rfl rfl ?_
      refine r_iconst X 5 dX7_mirrored_17 rfl ?_
      refine r_iceq X 27 dX7_mirrored_18 (by decide) (fun c3 => ?_) (fun c3 => ?_)
      · replace h := it_t c3 h
        refine r_iload_n X 0 dX7_mirrored_27 rfl rfl ?_
        refine r_iconst X 2 dX7_mirrored_28 rfl ?_
        refine r_isub X dX7_mirrored_29 ?_
        refine r_goto X 56 dX7_mirrored_30 (by decide) ?_
        exact r_iretE X hr dX7_mirrored_56 h
      · replace h := it_f c3 h
        refine r_iload_n X 0 dX7_mirrored_21 rfl rfl ?_
        refine r_bipush X 6 dX7_mirrored_22 rfl ?_
        refine r_icne X 33 dX7_mirrored_24 (by decide) (fun c4 => ?_) (fun c4 => ?_)
        · replace h := it_f c4 h
          refine r_iload_n X 0 dX7_mirrored_33 rfl rfl ?_
          refine r_bipush X 7 dX7_mirrored_34 rfl ?_
          refine r_icne X 44 dX7_mirrored_36 (by decide) (fun c5 => ?_) (fun c5 => ?_)
          · replace h := it_f c5 h
            refine r_iload_n X 0 dX7_mirrored_44 rfl rfl ?_
            refine r_bipush X 8 dX7_mirrored_45 rfl ?_
            refine r_icne X 55 dX7_mirrored_47 (by decide) (fun c6 => ?_) (fun c6 => ?_)
            · replace h := it_f c6 h
              refine r_iload_n X 0 dX7_mirrored_55 rfl rfl ?_
              exact r_iretE X hr dX7_mirrored_56 h
            · replace h := it_t c6 h
              refine r_bipush X 7 dX7_mirrored_50 rfl ?_
              refine r_goto X 56 dX7_mirrored_52 (by decide) ?_
              exact r_iretE X hr dX7_mirrored_56 h
          · replace h := it_t c5 h
            refine r_bipush X 8 dX7_mirrored_39 rfl ?_
            refine r_goto X 56 dX7_mirrored_41 (by decide) ?_
            exact r_iretE X hr dX7_mirrored_56 h
        · replace h := it_t c4 h
          refine r_iload_n X 0 dX7_mirrored_27 rfl rfl ?_
          refine r_iconst X 2 dX7_mirrored_28 rfl ?_
          refine r_isub X dX7_mirrored_29 ?_
          refine r_goto X 56 dX7_mirrored_30 (by decide) ?_
          exact r_iretE X hr dX7_mirrored_56 h
    · replace h := it_t c2 h
      refine r_iload_n X 0 dX7_mirrored_10 rfl rfl ?_
      refine r_iconst X 2 dX7_mirrored_11 rfl ?_
      refine r_iadd X dX7_mirrored_12 ?_
      refine r_goto X 56 dX7_mirrored_13 (by decide) ?_
      exact r_iretE X hr dX7_mirrored_56 h
def l_X7_isFirst_20 (N : Nat)  (K2 : Mem → Int32 → Int32 → Option (Int32 × Mem)) (K9 : Mem → Int32 → Int32 → Int32 → Option (Int32 × Mem))  : Nat → Mem → Int32 → Int32 → Int32 → Int32 → Int32 → Option (Int32 × Mem)
  | 0, _, _, _, _, _, _ => none
  | n + 1, M, v1, v2, v3, v4, v5 =>
    if v1 ≤ v5 then
      (if 0 ≤ v4 then
        (K9 M v1 v2 (v3 + 1))
      else
        (some ((0 : Int32), M)))
    else
      (if v4 = 0 then
        (if (2 : Int32) ≤ v3 then
          (ck (¬ v1 = 0) <|
          ck (inb (((v2 + v1) - v5) - ((v2 + v1) - v5) / v1 * v1) 24) <|
          nm (M.1 40 (ix (((v2 + v1) - v5) - ((v2 + v1) - v5) / v1 * v1))) fun x10 =>
          if v3 = (1 : Int32) then
            (bd2 (f_X7_mirrored N M x10) fun r13 M12 =>
            ck (inb v5 24) <|
            nm (r13 - (M12.1 40 (ix v5))) fun x16 =>
            l_X7_isFirst_20 N K2 K9 n M12 v1 v2 v3 x16 (v5 + 1))
          else
            (if v3 = (2 : Int32) then
              (bd2 (f_X7_mirrored N M x10) fun r21 M20 =>
              ck (inb v5 24) <|
              nm (r21 - (M20.1 40 (ix v5))) fun x24 =>
              l_X7_isFirst_20 N K2 K9 n M20 v1 v2 v3 x24 (v5 + 1))
            else
              (ck (inb v5 24) <|
              nm (x10 - (M.1 40 (ix v5))) fun x19 =>
              l_X7_isFirst_20 N K2 K9 n M v1 v2 v3 x19 (v5 + 1))))
        else
          (ck (¬ v1 = 0) <|
          ck (inb ((v2 + v5) - (v2 + v5) / v1 * v1) 24) <|
          nm (M.1 40 (ix ((v2 + v5) - (v2 + v5) / v1 * v1))) fun x27 =>
          if v3 = (1 : Int32) then
            (bd2 (f_X7_mirrored N M x27) fun r30 M29 =>
            ck (inb v5 24) <|
            nm (r30 - (M29.1 40 (ix v5))) fun x33 =>
            l_X7_isFirst_20 N K2 K9 n M29 v1 v2 v3 x33 (v5 + 1))
          else
            (if v3 = (2 : Int32) then
              (bd2 (f_X7_mirrored N M x27) fun r38 M37 =>
              ck (inb v5 24) <|
              nm (r38 - (M37.1 40 (ix v5))) fun x41 =>
              l_X7_isFirst_20 N K2 K9 n M37 v1 v2 v3 x41 (v5 + 1))
            else
              (ck (inb v5 24) <|
              nm (x27 - (M.1 40 (ix v5))) fun x36 =>
              l_X7_isFirst_20 N K2 K9 n M v1 v2 v3 x36 (v5 + 1)))))
      else
        (if 0 ≤ v4 then
          (K9 M v1 v2 (v3 + 1))
        else
          (some ((0 : Int32), M))))
def l_X7_isFirst_9 (N : Nat)  (K2 : Mem → Int32 → Int32 → Option (Int32 × Mem))  : Nat → Mem → Int32 → Int32 → Int32 → Option (Int32 × Mem)
  | 0, _, _, _, _ => none
  | n + 1, M, v1, v2, v3 =>
    if (4 : Int32) ≤ v3 then
      (K2 M v1 (v2 + 1))
    else
      (l_X7_isFirst_20 N K2 (l_X7_isFirst_9 N K2 n) N M v1 v2 v3 (0 : Int32) (0 : Int32))
def l_X7_isFirst_2 (N : Nat)    : Nat → Mem → Int32 → Int32 → Option (Int32 × Mem)
  | 0, _, _, _ => none
  | n + 1, M, v1, v2 =>
    if v1 ≤ v2 then
      (some ((1 : Int32), M))
    else
      (l_X7_isFirst_9 N (l_X7_isFirst_2 N n) N M v1 v2 (0 : Int32))
def f_X7_isFirst (N : Nat) (M : Mem) (p0 : Int32) : Option (Int32 × Mem) :=
  l_X7_isFirst_2 N N M p0 (0 : Int32)
set_option maxRecDepth 100000 in
set_option maxHeartbeats 4000000 in
theorem k_X7_isFirst (l : Launch) (N : Nat) (nc : Nat) (hnc : 45 ≤ nc) (M : Mem) (p0 : Int32) (r : Int32) (M' : Mem) (h : f_X7_isFirst N M p0 = some (r, M')) (d : Nat) (hd : 1 ≤ d) : Ct l d yX7_isFirst cX7_isFirst 7 (some .boolean) shp nc [.ref 34, .int p0] M (some (.int r)) M' := by
  obtain ⟨d, rfl⟩ : ∃ q, d = q + 1 := ⟨d - 1, by omega⟩
  unfold f_X7_isFirst at h
  refine Ct.of (by decide +kernel) (Nat.le_of_ble_eq_true rfl) ?_
  intro p e s m args below meth c A ad D cI cJ X hr
  have hl20 : ∀ (K2 : Mem → Int32 → Int32 → Option (Int32 × Mem)), (∀ (M : Mem) (v1 : Int32) (v2 : Int32), K2 M v1 v2 = some (r, M') → AW p l e (rmd (d + 1)) s m args below meth c 7 A ad D cI cJ shp nc 0 0 (MQ below (Qq A ad D cI cJ shp nc (some (.int r)) M') args s 0 0 A) M 2 [(0, .ref 34), (1, .int v1), (2, .int v2)] []) → ∀ (K9 : Mem → Int32 → Int32 → Int32 → Option (Int32 × Mem)), (∀ (M : Mem) (v1 : Int32) (v2 : Int32) (v3 : Int32), K9 M v1 v2 v3 = some (r, M') → AW p l e (rmd (d + 1)) s m args below meth c 7 A ad D cI cJ shp nc 0 0 (MQ below (Qq A ad D cI cJ shp nc (some (.int r)) M') args s 0 0 A) M 9 [(0, .ref 34), (1, .int v1), (2, .int v2), (3, .int v3)] []) → ∀ (n : Nat) (M : Mem) (v1 : Int32) (v2 : Int32) (v3 : Int32) (v4 : Int32) (v5 : Int32), l_X7_isFirst_20 N K2 K9 n M v1 v2 v3 v4 v5 = some (r, M') → AW p l e (rmd (d + 1)) s m args below meth c 7 A ad D cI cJ shp nc 0 0 (MQ below (Qq A ad D cI cJ shp nc (some (.int r)) M') args s 0 0 A) M 20 [(0, .ref 34), (1, .int v1), (2, .int v2), (3, .int v3), (4, .int v4), (5, .int v5)] [] := by
    intro K2 hK2
    intro K9 hK9
    intro n
    induction n with
    | zero => intro M v1 v2 v3 v4 v5 h; cases h
    | succ n ih =>
      intro M v1 v2 v3 v4 v5 h
      rw [l_X7_isFirst_20] at h
      refine r_iload X 5 dX7_isFirst_20 rfl ?_
      refine r_iload_n X 1 dX7_isFirst_22 rfl rfl ?_
      refine r_icge X 100 dX7_isFirst_23 (by decide) (fun c3 => ?_) (fun c3 => ?_)
      · replace h := it_t c3 h
        refine r_iload X 4 dX7_isFirst_100 rfl ?_
        refine r_ifge X 107 dX7_isFirst_102 (by decide) (fun c4 => ?_) (fun c4 => ?_)
        · replace h := it_t c4 h
          refine r_iinc X [(3, .int (v3 + 1)), (0, .ref 34), (1, .int v1), (2, .int v2), (4, .int v4), (5, .int v5)] 3 (v3 + 1) dX7_isFirst_107 rfl rfl (Nat.le_of_ble_eq_true rfl) rfl ?_
          refine r_goto X 9 dX7_isFirst_110 (by decide) ?_
          refine r_sub (ls' := [(0, .ref 34), (1, .int v1), (2, .int v2), (3, .int (v3 + 1))]) [1, 2, 3, 0] rfl ?_
          exact hK9 M v1 v2 (v3 + 1) h
        · replace h := it_f c4 h
          refine r_iconst X 0 dX7_isFirst_105 rfl ?_
          exact r_zretE X hr rfl dX7_isFirst_106 h
      · replace h := it_f c3 h
        refine r_iload X 4 dX7_isFirst_26 rfl ?_
        refine r_ifne X 100 dX7_isFirst_28 (by decide) (fun c5 => ?_) (fun c5 => ?_)
        · replace h := it_f c5 h
          refine r_iload X 4 dX7_isFirst_100 rfl ?_
          refine r_ifge X 107 dX7_isFirst_102 (by decide) (fun c6 => ?_) (fun c6 => ?_)
          · replace h := it_t c6 h
            refine r_iinc X [(3, .int (v3 + 1)), (0, .ref 34), (1, .int v1), (2, .int v2), (4, .int v4), (5, .int v5)] 3 (v3 + 1) dX7_isFirst_107 rfl rfl (Nat.le_of_ble_eq_true rfl) rfl ?_
            refine r_goto X 9 dX7_isFirst_110 (by decide) ?_
            refine r_sub (ls' := [(0, .ref 34), (1, .int v1), (2, .int v2), (3, .int (v3 + 1))]) [1, 2, 3, 0] rfl ?_
            exact hK9 M v1 v2 (v3 + 1) h
          · replace h := it_f c6 h
            refine r_iconst X 0 dX7_isFirst_105 rfl ?_
            exact r_zretE X hr rfl dX7_isFirst_106 h
        · replace h := it_t c5 h
          refine r_aload_n X 0 dX7_isFirst_31 rfl rfl ?_
          refine r_getr X 7 40 in_X7 (ci := 6) rfl rfl (ltn hnc rfl) (Nat.le_of_ble_eq_true rfl) rfl w_616 dX7_isFirst_32 (by decide) ?_
          refine r_iload_n X 3 dX7_isFirst_35 rfl rfl ?_
          refine r_iconst X 2 dX7_isFirst_36 rfl ?_
          refine r_icge X 49 dX7_isFirst_37 (by decide) (fun c7 => ?_) (fun c7 => ?_)
          · replace h := it_t c7 h
            refine r_iload_n X 2 dX7_isFirst_49 rfl rfl ?_
            refine r_iload_n X 1 dX7_isFirst_50 rfl rfl ?_
            refine r_iadd X dX7_isFirst_51 ?_
            refine r_iload X 5 dX7_isFirst_52 rfl ?_
            refine r_isub X dX7_isFirst_54 ?_
            refine r_iload_n X 1 dX7_isFirst_55 rfl rfl ?_
            obtain ⟨c8, h⟩ := ck_ex h
            refine r_irem X c8 dX7_isFirst_56 ?_
            obtain ⟨c9, h⟩ := ck_ex h
            refine r_iald X (n := 24) rfl (Or.inl (ltn hnc rfl)) c9 dX7_isFirst_57 ?_
            obtain ⟨x10, ex10, h⟩ := nm_ex h
            refine r_top ex10 ?_
            refine r_istore X [(6, .int x10), (0, .ref 34), (1, .int v1), (2, .int v2), (3, .int v3), (4, .int v4), (5, .int v5)] dX7_isFirst_58 (Nat.le_of_ble_eq_true rfl) rfl ?_
            refine r_iload_n X 4 dX7_isFirst_60 rfl rfl ?_
            refine r_iconst X 1 dX7_isFirst_61 rfl ?_
            refine r_iceq X 70 dX7_isFirst_62 (by decide) (fun c11 => ?_) (fun c11 => ?_)
            · replace h := it_t c11 h
              refine r_iload X 0 dX7_isFirst_70 rfl ?_
              obtain ⟨r13, M12, h14, h⟩ := bd2_ex h
              refine r_callS X (st := []) (av := [.int x10]) (k_X7_mirrored l N _ hnc _ _ _ _ h14 d (by omega)) (fitR_s (Nat.le_of_ble_eq_true rfl)) ⟨Nat.le_refl 0, Nat.le_refl 0⟩ w_850 w_47 w_849 w_848 hy_X7_mirrored rfl (Nat.le_of_ble_eq_true rfl) dX7_isFirst_72 ?_
              refine r_goto X 80 dX7_isFirst_75 (by decide) ?_
              refine r_istore X [(6, .int r13), (0, .ref 34), (1, .int v1), (2, .int v2), (3, .int v3), (4, .int v4), (5, .int v5)] dX7_isFirst_80 (Nat.le_of_ble_eq_true rfl) rfl ?_
              refine r_iload X 0 dX7_isFirst_82 rfl ?_
              refine r_aload_n X 1 dX7_isFirst_84 rfl rfl ?_
              refine r_getr X 7 40 in_X7 (ci := 6) rfl rfl (ltn hnc rfl) (Nat.le_of_ble_eq_true rfl) rfl w_616 dX7_isFirst_85 (by decide) ?_
              refine r_iload X 6 dX7_isFirst_88 rfl ?_
              obtain ⟨c15, h⟩ := ck_ex h
              refine r_iald X (n := 24) rfl (Or.inl (ltn hnc rfl)) c15 dX7_isFirst_90 ?_
              refine r_isub X dX7_isFirst_91 ?_
              obtain ⟨x16, ex16, h⟩ := nm_ex h
              refine r_top ex16 ?_
              refine r_istore X [(4, .int x16), (6, .int r13), (0, .ref 34), (1, .int v1), (2, .int v2), (3, .int v3), (5, .int v5)] dX7_isFirst_92 (Nat.le_of_ble_eq_true rfl) rfl ?_
              refine r_iinc X [(5, .int (v5 + 1)), (4, .int x16), (6, .int r13), (0, .ref 34), (1, .int v1), (2, .int v2), (3, .int v3)] 6 (v5 + 1) dX7_isFirst_94 rfl rfl (Nat.le_of_ble_eq_true rfl) rfl ?_
              refine r_goto X 20 dX7_isFirst_97 (by decide) ?_
              refine r_sub (ls' := [(0, .ref 34), (1, .int v1), (2, .int v2), (3, .int v3), (4, .int x16), (5, .int (v5 + 1))]) [3, 4, 5, 6, 1, 0] rfl ?_
              exact ih M12 v1 v2 v3 x16 (v5 + 1) h
            · replace h := it_f c11 h
              refine r_iload_n X 4 dX7_isFirst_65 rfl rfl ?_
              refine r_iconst X 2 dX7_isFirst_66 rfl ?_
              refine r_icne X 78 dX7_isFirst_67 (by decide) (fun c17 => ?_) (fun c17 => ?_)
              · replace h := it_f c17 h
                refine r_iload X 0 dX7_isFirst_78 rfl ?_
                refine r_istore X [(6, .int x10), (0, .ref 34), (1, .int v1), (2, .int v2), (3, .int v3), (4, .int v4), (5, .int v5)] dX7_isFirst_80 (Nat.le_of_ble_eq_true rfl) rfl ?_
                refine r_iload X 0 dX7_isFirst_82 rfl ?_
                refine r_aload_n X 1 dX7_isFirst_84 rfl rfl ?_
                refine r_getr X 7 40 in_X7 (ci := 6) rfl rfl (ltn hnc rfl) (Nat.le_of_ble_eq_true rfl) rfl w_616 dX7_isFirst_85 (by decide) ?_
                refine r_iload X 6 dX7_isFirst_88 rfl ?_
                obtain ⟨c18, h⟩ := ck_ex h
                refine r_iald X (n := 24) rfl (Or.inl (ltn hnc rfl)) c18 dX7_isFirst_90 ?_
                refine r_isub X dX7_isFirst_91 ?_
                obtain ⟨x19, ex19, h⟩ := nm_ex h
                refine r_top ex19 ?_
                refine r_istore X [(4, .int x19), (6, .int x10), (0, .ref 34), (1, .int v1), (2, .int v2), (3, .int v3), (5, .int v5)] dX7_isFirst_92 (Nat.le_of_ble_eq_true rfl) rfl ?_
                refine r_iinc X [(5, .int (v5 + 1)), (4, .int x19), (6, .int x10), (0, .ref 34), (1, .int v1), (2, .int v2), (3, .int v3)] 6 (v5 + 1) dX7_isFirst_94 rfl rfl (Nat.le_of_ble_eq_true rfl) rfl ?_
                refine r_goto X 20 dX7_isFirst_97 (by decide) ?_
                refine r_sub (ls' := [(0, .ref 34), (1, .int v1), (2, .int v2), (3, .int v3), (4, .int x19), (5, .int (v5 + 1))]) [3, 4, 5, 6, 1, 0] rfl ?_
                exact ih M v1 v2 v3 x19 (v5 + 1) h
              · replace h := it_t c17 h
                refine r_iload X 0 dX7_isFirst_70 rfl ?_
                obtain ⟨r21, M20, h22, h⟩ := bd2_ex h
                refine r_callS X (st := []) (av := [.int x10]) (k_X7_mirrored l N _ hnc _ _ _ _ h22 d (by omega)) (fitR_s (Nat.le_of_ble_eq_true rfl)) ⟨Nat.le_refl 0, Nat.le_refl 0⟩ w_850 w_47 w_849 w_848 hy_X7_mirrored rfl (Nat.le_of_ble_eq_true rfl) dX7_isFirst_72 ?_
                refine r_goto X 80 dX7_isFirst_75 (by decide) ?_
                refine r_istore X [(6, .int r21), (0, .ref 34), (1, .int v1), (2, .int v2), (3, .int v3), (4, .int v4), (5, .int v5)] dX7_isFirst_80 (Nat.le_of_ble_eq_true rfl) rfl ?_
                refine r_iload X 0 dX7_isFirst_82 rfl ?_
                refine r_aload_n X 1 dX7_isFirst_84 rfl rfl ?_
                refine r_getr X 7 40 in_X7 (ci := 6) rfl rfl (ltn hnc rfl) (Nat.le_of_ble_eq_true rfl) rfl w_616 dX7_isFirst_85 (by decide) ?_
                refine r_iload X 6 dX7_isFirst_88 rfl ?_
                obtain ⟨c23, h⟩ := ck_ex h
                refine r_iald X (n := 24) rfl (Or.inl (ltn hnc rfl)) c23 dX7_isFirst_90 ?_
                refine r_isub X dX7_isFirst_91 ?_
                obtain ⟨x24, ex24, h⟩ := nm_ex h
                refine r_top ex24 ?_
                refine r_istore X [(4, .int x24), (6, .int r21), (0, .ref 34), (1, .int v1), (2, .int v2), (3, .int v3), (5, .int v5)] dX7_isFirst_92 (Nat.le_of_ble_eq_true rfl) rfl ?_
                refine r_iinc X [(5, .int (v5 + 1)), (4, .int x24), (6, .int r21), (0, .ref 34), (1, .int v1), (2, .int v2), (3, .int v3)] 6 (v5 + 1) dX7_isFirst_94 rfl rfl (Nat.le_of_ble_eq_true rfl) rfl ?_
                refine r_goto X 20 dX7_isFirst_97 (by decide) ?_
                refine r_sub (ls' := [(0, .ref 34), (1, .int v1), (2, .int v2), (3, .int v3), (4, .int x24), (5, .int (v5 + 1))]) [3, 4, 5, 6, 1, 0] rfl ?_
                exact ih M20 v1 v2 v3 x24 (v5 + 1) h
          · replace h := it_f c7 h
            refine r_iload_n X 2 dX7_isFirst_40 rfl rfl ?_
            refine r_iload X 5 dX7_isFirst_41 rfl ?_
            refine r_iadd X dX7_isFirst_43 ?_
            refine r_iload_n X 1 dX7_isFirst_44 rfl rfl ?_
            obtain ⟨c25, h⟩ := ck_ex h
            refine r_irem X c25 dX7_isFirst_45 ?_
            refine r_goto X 57 dX7_isFirst_46 (by decide) ?_
            obtain ⟨c26, h⟩ := ck_ex h
            refine r_iald X (n := 24) rfl (Or.inl (ltn hnc rfl)) c26 dX7_isFirst_57 ?_
            obtain ⟨x27, ex27, h⟩ := nm_ex h
            refine r_top ex27 ?_
            refine r_istore X [(6, .int x27), (0, .ref 34), (1, .int v1), (2, .int v2), (3, .int v3), (4, .int v4), (5, .int v5)] dX7_isFirst_58 (Nat.le_of_ble_eq_true rfl) rfl ?_
            refine r_iload_n X 4 dX7_isFirst_60 rfl rfl ?_
            refine r_iconst X 1 dX7_isFirst_61 rfl ?_
            refine r_iceq X 70 dX7_isFirst_62 (by decide) (fun c28 => ?_) (fun c28 => ?_)
            · replace h := it_t c28 h
              refine r_iload X 0 dX7_isFirst_70 rfl ?_
              obtain ⟨r30, M29, h31, h⟩ := bd2_ex h
              refine r_callS X (st := []) (av := [.int x27]) (k_X7_mirrored l N _ hnc _ _ _ _ h31 d (by omega)) (fitR_s (Nat.le_of_ble_eq_true rfl)) ⟨Nat.le_refl 0, Nat.le_refl 0⟩ w_850 w_47 w_849 w_848 hy_X7_mirrored rfl (Nat.le_of_ble_eq_true rfl) dX7_isFirst_72 ?_
              refine r_goto X 80 dX7_isFirst_75 (by decide) ?_
              refine r_istore X [(6, .int r30), (0, .ref 34), (1, .int v1), (2, .int v2), (3, .int v3), (4, .int v4), (5, .int v5)] dX7_isFirst_80 (Nat.le_of_ble_eq_true rfl) rfl ?_
              refine r_iload X 0 dX7_isFirst_82 rfl ?_
              refine r_aload_n X 1 dX7_isFirst_84 rfl rfl ?_
              refine r_getr X 7 40 in_X7 (ci := 6) rfl rfl (ltn hnc rfl) (Nat.le_of_ble_eq_true rfl) rfl w_616 dX7_isFirst_85 (by decide) ?_
              refine r_iload X 6 dX7_isFirst_88 rfl ?_
              obtain ⟨c32, h⟩ := ck_ex h
              refine r_iald X (n := 24) rfl (Or.inl (ltn hnc rfl)) c32 dX7_isFirst_90 ?_
              refine r_isub X dX7_isFirst_91 ?_
              obtain ⟨x33, ex33, h⟩ := nm_ex h
              refine r_top ex33 ?_
              refine r_istore X [(4, .int x33), (6, .int r30), (0, .ref 34), (1, .int v1), (2, .int v2), (3, .int v3), (5, .int v5)] dX7_isFirst_92 (Nat.le_of_ble_eq_true rfl) rfl ?_
              refine r_iinc X [(5, .int (v5 + 1)), (4, .int x33), (6, .int r30), (0, .ref 34), (1, .int v1), (2, .int v2), (3, .int v3)] 6 (v5 + 1) dX7_isFirst_94 rfl rfl (Nat.le_of_ble_eq_true rfl) rfl ?_
              refine r_goto X 20 dX7_isFirst_97 (by decide) ?_
              refine r_sub (ls' := [(0, .ref 34), (1, .int v1), (2, .int v2), (3, .int v3), (4, .int x33), (5, .int (v5 + 1))]) [3, 4, 5, 6, 1, 0] rfl ?_
              exact ih M29 v1 v2 v3 x33 (v5 + 1) h
            · replace h := it_f c28 h
              refine r_iload_n X 4 dX7_isFirst_65 rfl rfl ?_
              refine r_iconst X 2 dX7_isFirst_66 rfl ?_
              refine r_icne X 78 dX7_isFirst_67 (by decide) (fun c34 => ?_) (fun c34 => ?_)
              · replace h := it_f c34 h
                refine r_iload X 0 dX7_isFirst_78 rfl ?_
                refine r_istore X [(6, .int x27), (0, .ref 34), (1, .int v1), (2, .int v2), (3, .int v3), (4, .int v4), (5, .int v5)] dX7_isFirst_80 (Nat.le_of_ble_eq_true rfl) rfl ?_
                refine r_iload X 0 dX7_isFirst_82 rfl ?_
                refine r_aload_n X 1 dX7_isFirst_84 rfl rfl ?_
                refine r_getr X 7 40 in_X7 (ci := 6) rfl rfl (ltn hnc rfl) (Nat.le_of_ble_eq_true rfl) rfl w_616 dX7_isFirst_85 (by decide) ?_
                refine r_iload X 6 dX7_isFirst_88 rfl ?_
                obtain ⟨c35, h⟩ := ck_ex h
                refine r_iald X (n := 24) rfl (Or.inl (ltn hnc rfl)) c35 dX7_isFirst_90 ?_
                refine r_isub X dX7_isFirst_91 ?_
                obtain ⟨x36, ex36, h⟩ := nm_ex h
                refine r_top ex36 ?_
                refine r_istore X [(4, .int x36), (6, .int x27), (0, .ref 34), (1, .int v1), (2, .int v2), (3, .int v3), (5, .int v5)] dX7_isFirst_92 (Nat.le_of_ble_eq_true rfl) rfl ?_
                refine r_iinc X [(5, .int (v5 + 1)), (4, .int x36), (6, .int x27), (0, .ref 34), (1, .int v1), (2, .int v2), (3, .int v3)] 6 (v5 + 1) dX7_isFirst_94 rfl rfl (Nat.le_of_ble_eq_true rfl) rfl ?_
                refine r_goto X 20 dX7_isFirst_97 (by decide) ?_
                refine r_sub (ls' := [(0, .ref 34), (1, .int v1), (2, .int v2), (3, .int v3), (4, .int x36), (5, .int (v5 + 1))]) [3, 4, 5, 6, 1, 0] rfl ?_
                exact ih M v1 v2 v3 x36 (v5 + 1) h
              · replace h := it_t c34 h
                refine r_iload X 0 dX7_isFirst_70 rfl ?_
                obtain ⟨r38, M37, h39, h⟩ := bd2_ex h
                refine r_callS X (st := []) (av := [.int x27]) (k_X7_mirrored l N _ hnc _ _ _ _ h39 d (by omega)) (fitR_s (Nat.le_of_ble_eq_true rfl)) ⟨Nat.le_refl 0, Nat.le_refl 0⟩ w_850 w_47 w_849 w_848 hy_X7_mirrored rfl (Nat.le_of_ble_eq_true rfl) dX7_isFirst_72 ?_
                refine r_goto X 80 dX7_isFirst_75 (by decide) ?_
                refine r_istore X [(6, .int r38), (0, .ref 34), (1, .int v1), (2, .int v2), (3, .int v3), (4, .int v4), (5, .int v5)] dX7_isFirst_80 (Nat.le_of_ble_eq_true rfl) rfl ?_
                refine r_iload X 0 dX7_isFirst_82 rfl ?_
                refine r_aload_n X 1 dX7_isFirst_84 rfl rfl ?_
                refine r_getr X 7 40 in_X7 (ci := 6) rfl rfl (ltn hnc rfl) (Nat.le_of_ble_eq_true rfl) rfl w_616 dX7_isFirst_85 (by decide) ?_
                refine r_iload X 6 dX7_isFirst_88 rfl ?_
                obtain ⟨c40, h⟩ := ck_ex h
                refine r_iald X (n := 24) rfl (Or.inl (ltn hnc rfl)) c40 dX7_isFirst_90 ?_
                refine r_isub X dX7_isFirst_91 ?_
                obtain ⟨x41, ex41, h⟩ := nm_ex h
                refine r_top ex41 ?_
                refine r_istore X [(4, .int x41), (6, .int r38), (0, .ref 34), (1, .int v1), (2, .int v2), (3, .int v3), (5, .int v5)] dX7_isFirst_92 (Nat.le_of_ble_eq_true rfl) rfl ?_
                refine r_iinc X [(5, .int (v5 + 1)), (4, .int x41), (6, .int r38), (0, .ref 34), (1, .int v1), (2, .int v2), (3, .int v3)] 6 (v5 + 1) dX7_isFirst_94 rfl rfl (Nat.le_of_ble_eq_true rfl) rfl ?_
                refine r_goto X 20 dX7_isFirst_97 (by decide) ?_
                refine r_sub (ls' := [(0, .ref 34), (1, .int v1), (2, .int v2), (3, .int v3), (4, .int x41), (5, .int (v5 + 1))]) [3, 4, 5, 6, 1, 0] rfl ?_
                exact ih M37 v1 v2 v3 x41 (v5 + 1) h
  have hl9 : ∀ (K2 : Mem → Int32 → Int32 → Option (Int32 × Mem)), (∀ (M : Mem) (v1 : Int32) (v2 : Int32), K2 M v1 v2 = some (r, M') → AW p l e (rmd (d + 1)) s m args below meth c 7 A ad D cI cJ shp nc 0 0 (MQ below (Qq A ad D cI cJ shp nc (some (.int r)) M') args s 0 0 A) M 2 [(0, .ref 34), (1, .int v1), (2, .int v2)] []) → ∀ (n : Nat) (M : Mem) (v1 : Int32) (v2 : Int32) (v3 : Int32), l_X7_isFirst_9 N K2 n M v1 v2 v3 = some (r, M') → AW p l e (rmd (d + 1)) s m args below meth c 7 A ad D cI cJ shp nc 0 0 (MQ below (Qq A ad D cI cJ shp nc (some (.int r)) M') args s 0 0 A) M 9 [(0, .ref 34), (1, .int v1), (2, .int v2), (3, .int v3)] [] := by
    intro K2 hK2
    intro n
    induction n with
    | zero => intro M v1 v2 v3 h; cases h
    | succ n ih =>
      intro M v1 v2 v3 h
      rw [l_X7_isFirst_9] at h
      refine r_iload_n X 3 dX7_isFirst_9 rfl rfl ?_
      refine r_iconst X 4 dX7_isFirst_10 rfl ?_
      refine r_icge X 113 dX7_isFirst_11 (by decide) (fun c2 => ?_) (fun c2 => ?_)
      · replace h := it_t c2 h
        refine r_iinc X [(2, .int (v2 + 1)), (0, .ref 34), (1, .int v1), (3, .int v3)] 2 (v2 + 1) dX7_isFirst_113 rfl rfl (Nat.le_of_ble_eq_true rfl) rfl ?_
        refine r_goto X 2 dX7_isFirst_116 (by decide) ?_
        refine r_sub (ls' := [(0, .ref 34), (1, .int v1), (2, .int (v2 + 1))]) [1, 2, 0] rfl ?_
        exact hK2 M v1 (v2 + 1) h
      · replace h := it_f c2 h
        refine r_iconst X 0 dX7_isFirst_14 rfl ?_
        refine r_istore X [(4, .int (0 : Int32)), (0, .ref 34), (1, .int v1), (2, .int v2), (3, .int v3)] dX7_isFirst_15 (Nat.le_of_ble_eq_true rfl) rfl ?_
        refine r_iconst X 0 dX7_isFirst_17 rfl ?_
        refine r_istore X [(5, .int (0 : Int32)), (4, .int (0 : Int32)), (0, .ref 34), (1, .int v1), (2, .int v2), (3, .int v3)] dX7_isFirst_18 (Nat.le_of_ble_eq_true rfl) rfl ?_
        refine r_sub (ls' := [(0, .ref 34), (1, .int v1), (2, .int v2), (3, .int v3), (4, .int (0 : Int32)), (5, .int (0 : Int32))]) [2, 3, 4, 5, 1, 0] rfl ?_
        exact hl20 _ hK2 _ ih N M v1 v2 v3 (0 : Int32) (0 : Int32) h
  have hl2 : ∀ (n : Nat) (M : Mem) (v1 : Int32) (v2 : Int32), l_X7_isFirst_2 N n M v1 v2 = some (r, M') → AW p l e (rmd (d + 1)) s m args below meth c 7 A ad D cI cJ shp nc 0 0 (MQ below (Qq A ad D cI cJ shp nc (some (.int r)) M') args s 0 0 A) M 2 [(0, .ref 34), (1, .int v1), (2, .int v2)] [] := by
    intro n
    induction n with
    | zero => intro M v1 v2 h; cases h
    | succ n ih =>
      intro M v1 v2 h
      rw [l_X7_isFirst_2] at h
      refine r_iload_n X 2 dX7_isFirst_2 rfl rfl ?_
      refine r_iload_n X 1 dX7_isFirst_3 rfl rfl ?_
      refine r_icge X 119 dX7_isFirst_4 (by decide) (fun c1 => ?_) (fun c1 => ?_)
      · replace h := it_t c1 h
        refine r_iconst X 1 dX7_isFirst_119 rfl ?_
        exact r_zretE X hr rfl dX7_isFirst_120 h
      · replace h := it_f c1 h
        refine r_iconst X 0 dX7_isFirst_7 rfl ?_
        refine r_istore_n X [(3, .int (0 : Int32)), (0, .ref 34), (1, .int v1), (2, .int v2)] dX7_isFirst_8 rfl (Nat.le_of_ble_eq_true rfl) rfl ?_
        refine r_sub (ls' := [(0, .ref 34), (1, .int v1), (2, .int v2), (3, .int (0 : Int32))]) [1, 2, 3, 0] rfl ?_
        exact hl9 _ ih N M v1 v2 (0 : Int32) h
  refine r_sub (ls' := [(0, .ref 34), (1, .int p0)]) [0, 1] rfl ?_
  refine r_iconst X 0 dX7_isFirst_0 rfl ?_
  refine r_istore_n X [(2, .int (0 : Int32)), (0, .ref 34), (1, .int p0)] dX7_isFirst_1 rfl (Nat.le_of_ble_eq_true rfl) rfl ?_
  refine r_sub (ls' := [(0, .ref 34), (1, .int p0), (2, .int (0 : Int32))]) [1, 2, 0] rfl ?_
  exact hl2  N M p0 (0 : Int32) h
def l_X7_rings_46 (N : Nat)    : Nat → Mem → Int32 → Option Mem
  | 0, _, _ => none
  | n + 1, M, v1 =>
    if (M.1 34 8) ≤ v1 then
      (nm (seI M 34 23 (1 : Int32)) fun M13 =>
      nm (seI M13 34 15 ((M13.1 34 15) + (1 : Int32))) fun M14 =>
      some M14)
    else
      (ck (inb v1 24) <|
      ck (inb v1 6) <|
      nm (seI M 43 (ix v1) (M.1 40 (ix v1))) fun M17 =>
      l_X7_rings_46 N n M17 (v1 + 1))
def f_X7_rings (N : Nat) (M : Mem)  : Option Mem :=
  bd2 (f_X7_isClosed N M ) fun r2 M1 =>
  if r2 = 0 then
    (some M1)
  else
    (bd2 (f_X7_isFirst N M1 (M1.1 34 8)) fun r6 M5 =>
    if r6 = 0 then
      (some M5)
    else
      (if (M5.1 34 22) = 0 then
        (if (M5.1 34 15) = (M5.1 34 16) then
          (l_X7_rings_46 N N M5 (0 : Int32))
        else
          (nm (seI M5 34 15 ((M5.1 34 15) + (1 : Int32))) fun M11 =>
          some M11))
      else
        (bd2 (f_X7_isLying N M5 ) fun r19 M18 =>
        if r19 = 0 then
          (some M18)
        else
          (if (M18.1 34 15) = (M18.1 34 16) then
            (l_X7_rings_46 N N M18 (0 : Int32))
          else
            (nm (seI M18 34 15 ((M18.1 34 15) + (1 : Int32))) fun M23 =>
            some M23)))))
set_option maxRecDepth 100000 in
set_option maxHeartbeats 4000000 in
theorem k_X7_rings (l : Launch) (N : Nat) (nc : Nat) (hnc : 45 ≤ nc) (M : Mem)  (M' : Mem) (h : f_X7_rings N M  = some M') (d : Nat) (hd : 4 ≤ d) : Ct l d yX7_rings cX7_rings 2 none shp nc [.ref 34] M none M' := by
  obtain ⟨d, rfl⟩ : ∃ q, d = q + 1 := ⟨d - 1, by omega⟩
  unfold f_X7_rings at h
  refine Ct.of (by decide +kernel) (Nat.le_of_ble_eq_true rfl) ?_
  intro p e s m args below meth c A ad D cI cJ X hr
  have hl46 : ∀ (n : Nat) (M : Mem) (v1 : Int32), l_X7_rings_46 N n M v1 = some M' → AW p l e (rmd (d + 1)) s m args below meth c 2 A ad D cI cJ shp nc 0 0 (MQ below (Qq A ad D cI cJ shp nc none M') args s 0 0 A) M 46 [(0, .ref 34), (1, .int v1)] [] := by
    intro n
    induction n with
    | zero => intro M v1 h; cases h
    | succ n ih =>
      intro M v1 h
      rw [l_X7_rings_46] at h
      refine r_iload_n X 1 dX7_rings_46 rfl rfl ?_
      refine r_aload_n X 0 dX7_rings_47 rfl rfl ?_
      refine r_geti X 8 in_X7 (ci := 6) rfl rfl (ltn hnc rfl) (Nat.le_of_ble_eq_true rfl) rfl w_617 dX7_rings_48 ?_
      refine r_icge X 72 dX7_rings_51 (by decide) (fun c12 => ?_) (fun c12 => ?_)
      · replace h := it_t c12 h
        refine r_aload_n X 0 dX7_rings_72 rfl rfl ?_
        refine r_iconst X 1 dX7_rings_73 rfl ?_
        obtain ⟨M13, eM13, h⟩ := nm_ex h
        refine r_puti X 23 in_X7 (ci := 6) rfl tyX7_ok nmX7 rfl (ltn hnc rfl) (Nat.le_of_ble_eq_true rfl) rfl w_632 rfl (ty := .boolean) rfl rfl rfl dX7_rings_74 ?_
        refine r_mem eM13 ?_
        refine r_aload_n X 0 dX7_rings_77 rfl rfl ?_
        refine r_dup X dX7_rings_78 rfl ?_
        refine r_geti X 15 in_X7 (ci := 6) rfl rfl (ltn hnc rfl) (Nat.le_of_ble_eq_true rfl) rfl w_624 dX7_rings_79 ?_
        refine r_iconst X 1 dX7_rings_82 rfl ?_
        refine r_iadd X dX7_rings_83 ?_
        obtain ⟨M14, eM14, h⟩ := nm_ex h
        refine r_puti X 15 in_X7 (ci := 6) rfl tyX7_ok nmX7 rfl (ltn hnc rfl) (Nat.le_of_ble_eq_true rfl) rfl w_624 rfl (ty := .int) rfl rfl rfl dX7_rings_84 ?_
        refine r_mem eM14 ?_
        exact r_vretE X hr dX7_rings_87 h
      · replace h := it_f c12 h
        refine r_aload_n X 0 dX7_rings_54 rfl rfl ?_
        refine r_getr X 13 43 in_X7 (ci := 6) rfl rfl (ltn hnc rfl) (Nat.le_of_ble_eq_true rfl) rfl w_622 dX7_rings_55 (by decide) ?_
        refine r_iload_n X 1 dX7_rings_58 rfl rfl ?_
        refine r_aload_n X 0 dX7_rings_59 rfl rfl ?_
        refine r_getr X 7 40 in_X7 (ci := 6) rfl rfl (ltn hnc rfl) (Nat.le_of_ble_eq_true rfl) rfl w_616 dX7_rings_60 (by decide) ?_
        refine r_iload_n X 1 dX7_rings_63 rfl rfl ?_
        obtain ⟨c15, h⟩ := ck_ex h
        refine r_iald X (n := 24) rfl (Or.inl (ltn hnc rfl)) c15 dX7_rings_64 ?_
        obtain ⟨c16, h⟩ := ck_ex h
        obtain ⟨M17, eM17, h⟩ := nm_ex h
        refine r_iast X (n := 6) rfl (ltn hnc rfl) c16 dX7_rings_65 ?_
        refine r_mem eM17 ?_
        refine r_iinc X [(1, .int (v1 + 1)), (0, .ref 34)] 1 (v1 + 1) dX7_rings_66 rfl rfl (Nat.le_of_ble_eq_true rfl) rfl ?_
        refine r_goto X 46 dX7_rings_69 (by decide) ?_
        refine r_sub (ls' := [(0, .ref 34), (1, .int (v1 + 1))]) [1, 0] rfl ?_
        exact ih M17 (v1 + 1) h
  refine r_sub (ls' := [(0, .ref 34)]) [0] rfl ?_
  refine r_aload_n X 0 dX7_rings_0 rfl rfl ?_
  obtain ⟨r2, M1, h3, h⟩ := bd2_ex h
  refine r_callV X (st := []) (av := []) (k := 34) (ci := 6) (k_X7_isClosed l N _ hnc _  _ _ h3 d (by omega)) (fitR_s (Nat.le_of_ble_eq_true rfl)) ⟨Nat.le_refl 0, Nat.le_refl 0⟩ rfl (ltn hnc rfl) rfl w_750 w_47 w_749 w_23 w_747 hy_X7_isClosed rfl (Nat.le_of_ble_eq_true rfl) dX7_rings_1 ?_
  refine r_ifeq X 32 dX7_rings_4 (by decide) (fun c4 => ?_) (fun c4 => ?_)
  · replace h := it_t c4 h
    exact r_vretE X hr dX7_rings_32 h
  · replace h := it_f c4 h
    refine r_aload_n X 0 dX7_rings_7 rfl rfl ?_
    refine r_aload_n X 0 dX7_rings_8 rfl rfl ?_
    refine r_geti X 8 in_X7 (ci := 6) rfl rfl (ltn hnc rfl) (Nat.le_of_ble_eq_true rfl) rfl w_617 dX7_rings_9 ?_
    obtain ⟨r6, M5, h7, h⟩ := bd2_ex h
    refine r_callV X (st := []) (av := [.int (M1.1 34 8)]) (k := 34) (ci := 6) (k_X7_isFirst l N _ hnc _ _ _ _ h7 d (by omega)) (fitR_s (Nat.le_of_ble_eq_true rfl)) ⟨Nat.le_refl 0, Nat.le_refl 0⟩ rfl (ltn hnc rfl) rfl w_847 w_47 w_846 w_35 w_844 hy_X7_isFirst rfl (Nat.le_of_ble_eq_true rfl) dX7_rings_12 ?_
    refine r_ifeq X 32 dX7_rings_15 (by decide) (fun c8 => ?_) (fun c8 => ?_)
    · replace h := it_t c8 h
      exact r_vretE X hr dX7_rings_32 h
    · replace h := it_f c8 h
      refine r_aload_n X 0 dX7_rings_18 rfl rfl ?_
      refine r_geti X 22 in_X7 (ci := 6) rfl rfl (ltn hnc rfl) (Nat.le_of_ble_eq_true rfl) rfl w_631 dX7_rings_19 ?_
      refine r_ifeq X 33 dX7_rings_22 (by decide) (fun c9 => ?_) (fun c9 => ?_)
      · replace h := it_t c9 h
        refine r_aload_n X 0 dX7_rings_33 rfl rfl ?_
        refine r_geti X 15 in_X7 (ci := 6) rfl rfl (ltn hnc rfl) (Nat.le_of_ble_eq_true rfl) rfl w_624 dX7_rings_34 ?_
        refine r_aload_n X 0 dX7_rings_37 rfl rfl ?_
        refine r_geti X 16 in_X7 (ci := 6) rfl rfl (ltn hnc rfl) (Nat.le_of_ble_eq_true rfl) rfl w_625 dX7_rings_38 ?_
        refine r_icne X 77 dX7_rings_41 (by decide) (fun c10 => ?_) (fun c10 => ?_)
        · replace h := it_f c10 h
          refine r_aload_n X 0 dX7_rings_77 rfl rfl ?_
          refine r_dup X dX7_rings_78 rfl ?_
          refine r_geti X 15 in_X7 (ci := 6) rfl rfl (ltn hnc rfl) (Nat.le_of_ble_eq_true rfl) rfl w_624 dX7_rings_79 ?_
          refine r_iconst X 1 dX7_rings_82 rfl ?_
          refine r_iadd X dX7_rings_83 ?_
          obtain ⟨M11, eM11, h⟩ := nm_ex h
          refine r_puti X 15 in_X7 (ci := 6) rfl tyX7_ok nmX7 rfl (ltn hnc rfl) (Nat.le_of_ble_eq_true rfl) rfl w_624 rfl (ty := .int) rfl rfl rfl dX7_rings_84 ?_
          refine r_mem eM11 ?_
          exact r_vretE X hr dX7_rings_87 h
        · replace h := it_t c10 h
          refine r_iconst X 0 dX7_rings_44 rfl ?_
          refine r_istore_n X [(1, .int (0 : Int32)), (0, .ref 34)] dX7_rings_45 rfl (Nat.le_of_ble_eq_true rfl) rfl ?_
          refine r_sub (ls' := [(0, .ref 34), (1, .int (0 : Int32))]) [1, 0] rfl ?_
          exact hl46  N M5 (0 : Int32) h
      · replace h := it_f c9 h
        refine r_aload_n X 0 dX7_rings_25 rfl rfl ?_
        obtain ⟨r19, M18, h20, h⟩ := bd2_ex h
        refine r_callV X (st := []) (av := []) (k := 34) (ci := 6) (k_X7_isLying l N _ hnc _  _ _ h20 d (by omega)) (fitR_s (Nat.le_of_ble_eq_true rfl)) ⟨Nat.le_refl 0, Nat.le_refl 0⟩ rfl (ltn hnc rfl) rfl w_823 w_47 w_822 w_30 w_820 hy_X7_isLying rfl (Nat.le_of_ble_eq_true rfl) dX7_rings_26 ?_
        refine r_ifne X 33 dX7_rings_29 (by decide) (fun c21 => ?_) (fun c21 => ?_)
        · replace h := it_f c21 h
          refine r_aload_n X 0 dX7_rings_33 rfl rfl ?_
          refine r_geti X 15 in_X7 (ci := 6) rfl rfl (ltn hnc rfl) (Nat.le_of_ble_eq_true rfl) rfl w_624 dX7_rings_34 ?_
          refine r_aload_n X 0 dX7_rings_37 rfl rfl ?_
          refine r_geti X 16 in_X7 (ci := 6) rfl rfl (ltn hnc rfl) (Nat.le_of_ble_eq_true rfl) rfl w_625 dX7_rings_38 ?_
          refine r_icne X 77 dX7_rings_41 (by decide) (fun c22 => ?_) (fun c22 => ?_)
          · replace h := it_f c22 h
            refine r_aload_n X 0 dX7_rings_77 rfl rfl ?_
            refine r_dup X dX7_rings_78 rfl ?_
            refine r_geti X 15 in_X7 (ci := 6) rfl rfl (ltn hnc rfl) (Nat.le_of_ble_eq_true rfl) rfl w_624 dX7_rings_79 ?_
            refine r_iconst X 1 dX7_rings_82 rfl ?_
            refine r_iadd X dX7_rings_83 ?_
            obtain ⟨M23, eM23, h⟩ := nm_ex h
            refine r_puti X 15 in_X7 (ci := 6) rfl tyX7_ok nmX7 rfl (ltn hnc rfl) (Nat.le_of_ble_eq_true rfl) rfl w_624 rfl (ty := .int) rfl rfl rfl dX7_rings_84 ?_
            refine r_mem eM23 ?_
            exact r_vretE X hr dX7_rings_87 h
          · replace h := it_t c22 h
            refine r_iconst X 0 dX7_rings_44 rfl ?_
            refine r_istore_n X [(1, .int (0 : Int32)), (0, .ref 34)] dX7_rings_45 rfl (Nat.le_of_ble_eq_true rfl) rfl ?_
            refine r_sub (ls' := [(0, .ref 34), (1, .int (0 : Int32))]) [1, 0] rfl ?_
            exact hl46  N M18 (0 : Int32) h
        · replace h := it_t c21 h
          exact r_vretE X hr dX7_rings_32 h
def l_X7_goesOn_55 (N : Nat) (REC : Mem → Int32 → Int32 → Option Mem)   : Nat → Mem → Int32 → Int32 → Int32 → Option Mem
  | 0, _, _, _, _ => none
  | n + 1, M, v1, v2, v3 =>
    if (10 : Int32) ≤ v3 then
      (some M)
    else
      (if (M.1 34 23) = 0 then
        (bd2 (f_X7_kindOf N M v3) fun r5 M4 =>
        ck (inb r5 7) <|
        if (M4.1 41 (ix r5)) = 0 then
          (l_X7_goesOn_55 N REC n M4 v1 v2 (v3 + 1))
        else
          (if v2 = (2 : Int32) then
            (bd2 (f_X7_turnOf N M4 v3) fun r23 M22 =>
            ck (inb v1 6) <|
            if r23 = (M22.1 42 (ix v1)) then
              (ck (inb r5 7) <|
              ck (inb r5 7) <|
              nm (seI M22 41 (ix r5) ((M22.1 41 (ix r5)) - (1 : Int32))) fun M29 =>
              ck (inb v1 24) <|
              nm (seI M29 40 (ix v1) v3) fun M31 =>
              bd (f_X7_lays N M31 v1) fun M32 =>
              bd (REC M32 (v1 + (1 : Int32)) v2) fun M34 =>
              ck (inb r5 7) <|
              ck (inb r5 7) <|
              nm (seI M34 41 (ix r5) ((M34.1 41 (ix r5)) + (1 : Int32))) fun M38 =>
              l_X7_goesOn_55 N REC n M38 v1 v2 (v3 + 1))
            else
              (l_X7_goesOn_55 N REC n M22 v1 v2 (v3 + 1)))
          else
            (ck (inb r5 7) <|
            ck (inb r5 7) <|
            nm (seI M4 41 (ix r5) ((M4.1 41 (ix r5)) - (1 : Int32))) fun M12 =>
            ck (inb v1 24) <|
            nm (seI M12 40 (ix v1) v3) fun M14 =>
            bd (f_X7_lays N M14 v1) fun M15 =>
            bd (REC M15 (v1 + (1 : Int32)) v2) fun M17 =>
            ck (inb r5 7) <|
            ck (inb r5 7) <|
            nm (seI M17 41 (ix r5) ((M17.1 41 (ix r5)) + (1 : Int32))) fun M21 =>
            l_X7_goesOn_55 N REC n M21 v1 v2 (v3 + 1))))
      else
        (some M))
def f_X7_goesOn (N : Nat) : Nat → Mem → Int32 → Int32 → Option Mem
  | 0 => fun _ _ _ => none
  | dd + 1 => fun M p0 p1 =>
    if p0 = (M.1 34 8) then
      (if p1 = 0 then
        (bd (f_X7_rings N M ) fun M49 =>
        some M49)
      else
        (if p1 = (1 : Int32) then
          (bd (f_X7_nears N M ) fun M47 =>
          some M47)
        else
          (bd2 (f_X7_isClosed N M ) fun r42 M41 =>
          if r42 = 0 then
            (nm (seI M41 34 18 ((M.1 34 18) + (0 : Int32))) fun M45 =>
            some M45)
          else
            (nm (seI M41 34 18 ((M.1 34 18) + (1 : Int32))) fun M46 =>
            some M46))))
    else
      (l_X7_goesOn_55 N (f_X7_goesOn N dd) N M p0 p1 (0 : Int32))
set_option maxRecDepth 100000 in
set_option maxHeartbeats 4000000 in
theorem k_X7_goesOn (l : Launch) (N : Nat) (nc : Nat) (hnc : 45 ≤ nc) : ∀ (dd : Nat) (M : Mem) (p0 : Int32) (p1 : Int32) (M' : Mem), f_X7_goesOn N dd M p0 p1 = some M' → ∀ (d : Nat), 5 + dd ≤ d → Ct l d yX7_goesOn cX7_goesOn 5 none shp nc [.ref 34, .int p0, .int p1] M none M' := by
  intro dd
  induction dd with
  | zero => intro M p0 p1  M' h; cases h
  | succ dd ihd =>
    intro M p0 p1  M' h d hd
    obtain ⟨d, rfl⟩ : ∃ q, d = q + 1 := ⟨d - 1, by omega⟩
    rw [f_X7_goesOn] at h
    refine Ct.of (by decide +kernel) (Nat.le_of_ble_eq_true rfl) ?_
    intro p e s m args below meth c A ad D cI cJ X hr
    have hl55 : ∀ (n : Nat) (M : Mem) (v1 : Int32) (v2 : Int32) (v3 : Int32), l_X7_goesOn_55 N (f_X7_goesOn N dd) n M v1 v2 v3 = some M' → AW p l e (rmd (d + 1)) s m args below meth c 5 A ad D cI cJ shp nc 0 0 (MQ below (Qq A ad D cI cJ shp nc none M') args s 0 0 A) M 55 [(0, .ref 34), (1, .int v1), (2, .int v2), (3, .int v3)] [] := by
      intro n
      induction n with
      | zero => intro M v1 v2 v3 h; cases h
      | succ n ih =>
        intro M v1 v2 v3 h
        rw [l_X7_goesOn_55] at h
        refine r_iload_n X 3 dX7_goesOn_55 rfl rfl ?_
        refine r_bipush X 10 dX7_goesOn_56 rfl ?_
        refine r_icge X 153 dX7_goesOn_58 (by decide) (fun c2 => ?_) (fun c2 => ?_)
        · replace h := it_t c2 h
          exact r_vretE X hr dX7_goesOn_153 h
        · replace h := it_f c2 h
          refine r_aload_n X 0 dX7_goesOn_61 rfl rfl ?_
          refine r_geti X 23 in_X7 (ci := 6) rfl rfl (ltn hnc rfl) (Nat.le_of_ble_eq_true rfl) rfl w_632 dX7_goesOn_62 ?_
          refine r_ifne X 153 dX7_goesOn_65 (by decide) (fun c3 => ?_) (fun c3 => ?_)
          · replace h := it_f c3 h
            exact r_vretE X hr dX7_goesOn_153 h
          · replace h := it_t c3 h
            refine r_iload_n X 3 dX7_goesOn_68 rfl rfl ?_
            obtain ⟨r5, M4, h6, h⟩ := bd2_ex h
            refine r_callS X (st := []) (av := [.int v3]) (k_X7_kindOf l N _ hnc _ _ _ _ h6 d (by omega)) (fitR_s (Nat.le_of_ble_eq_true rfl)) ⟨Nat.le_refl 0, Nat.le_refl 0⟩ w_731 w_47 w_730 w_729 hy_X7_kindOf rfl (Nat.le_of_ble_eq_true rfl) dX7_goesOn_69 ?_
            refine r_istore X [(4, .int r5), (0, .ref 34), (1, .int v1), (2, .int v2), (3, .int v3)] dX7_goesOn_72 (Nat.le_of_ble_eq_true rfl) rfl ?_
            refine r_aload_n X 1 dX7_goesOn_74 rfl rfl ?_
            refine r_getr X 11 41 in_X7 (ci := 6) rfl rfl (ltn hnc rfl) (Nat.le_of_ble_eq_true rfl) rfl w_620 dX7_goesOn_75 (by decide) ?_
            refine r_iload X 0 dX7_goesOn_78 rfl ?_
            obtain ⟨c7, h⟩ := ck_ex h
            refine r_iald X (n := 7) rfl (Or.inl (ltn hnc rfl)) c7 dX7_goesOn_80 ?_
            refine r_ifeq X 147 dX7_goesOn_81 (by decide) (fun c8 => ?_) (fun c8 => ?_)
            · replace h := it_t c8 h
              refine r_iinc X [(3, .int (v3 + 1)), (4, .int r5), (0, .ref 34), (1, .int v1), (2, .int v2)] 4 (v3 + 1) dX7_goesOn_147 rfl rfl (Nat.le_of_ble_eq_true rfl) rfl ?_
              refine r_goto X 55 dX7_goesOn_150 (by decide) ?_
              refine r_sub (ls' := [(0, .ref 34), (1, .int v1), (2, .int v2), (3, .int (v3 + 1))]) [2, 3, 4, 0] rfl ?_
              exact ih M4 v1 v2 (v3 + 1) h
            · replace h := it_f c8 h
              refine r_iload_n X 3 dX7_goesOn_84 rfl rfl ?_
              refine r_iconst X 2 dX7_goesOn_85 rfl ?_
              refine r_icne X 105 dX7_goesOn_86 (by decide) (fun c9 => ?_) (fun c9 => ?_)
              · replace h := it_f c9 h
                refine r_aload_n X 1 dX7_goesOn_105 rfl rfl ?_
                refine r_getr X 11 41 in_X7 (ci := 6) rfl rfl (ltn hnc rfl) (Nat.le_of_ble_eq_true rfl) rfl w_620 dX7_goesOn_106 (by decide) ?_
                refine r_iload X 0 dX7_goesOn_109 rfl ?_
                refine r_dup2 X dX7_goesOn_111 rfl rfl ?_
                obtain ⟨c10, h⟩ := ck_ex h
                refine r_iald X (n := 7) rfl (Or.inl (ltn hnc rfl)) c10 dX7_goesOn_112 ?_
                refine r_iconst X 1 dX7_goesOn_113 rfl ?_
                refine r_isub X dX7_goesOn_114 ?_
                obtain ⟨c11, h⟩ := ck_ex h
                obtain ⟨M12, eM12, h⟩ := nm_ex h
                refine r_iast X (n := 7) rfl (ltn hnc rfl) c11 dX7_goesOn_115 ?_
                refine r_mem eM12 ?_
                refine r_aload_n X 1 dX7_goesOn_116 rfl rfl ?_
                refine r_getr X 7 40 in_X7 (ci := 6) rfl rfl (ltn hnc rfl) (Nat.le_of_ble_eq_true rfl) rfl w_616 dX7_goesOn_117 (by decide) ?_
                refine r_iload_n X 2 dX7_goesOn_120 rfl rfl ?_
                refine r_iload_n X 4 dX7_goesOn_121 rfl rfl ?_
                obtain ⟨c13, h⟩ := ck_ex h
                obtain ⟨M14, eM14, h⟩ := nm_ex h
                refine r_iast X (n := 24) rfl (ltn hnc rfl) c13 dX7_goesOn_122 ?_
                refine r_mem eM14 ?_
                refine r_aload_n X 1 dX7_goesOn_123 rfl rfl ?_
                refine r_iload_n X 2 dX7_goesOn_124 rfl rfl ?_
                obtain ⟨M15, h16, h⟩ := bd_ex h
                refine r_callV X (st := []) (av := [.int v1]) (k := 34) (ci := 6) (k_X7_lays l N _ hnc _ _ _ h16 d (by omega)) (fitR_s (Nat.le_of_ble_eq_true rfl)) ⟨Nat.le_refl 0, Nat.le_refl 0⟩ rfl (ltn hnc rfl) rfl w_728 w_47 w_727 w_20 w_725 hy_X7_lays rfl (Nat.le_of_ble_eq_true rfl) dX7_goesOn_125 ?_
                refine r_aload_n X 1 dX7_goesOn_128 rfl rfl ?_
                refine r_iload_n X 2 dX7_goesOn_129 rfl rfl ?_
                refine r_iconst X 1 dX7_goesOn_130 rfl ?_
                refine r_iadd X dX7_goesOn_131 ?_
                refine r_iload_n X 3 dX7_goesOn_132 rfl rfl ?_
                obtain ⟨M17, h18, h⟩ := bd_ex h
                refine r_callV X (st := []) (av := [.int (v1 + (1 : Int32)), .int v2]) (k := 34) (ci := 6) (ihd _ _ _ _ h18 d (by omega)) (fitR_s (Nat.le_of_ble_eq_true rfl)) ⟨Nat.le_refl 0, Nat.le_refl 0⟩ rfl (ltn hnc rfl) rfl w_839 w_47 w_838 w_33 w_836 hy_X7_goesOn rfl (Nat.le_of_ble_eq_true rfl) dX7_goesOn_133 ?_
                refine r_aload_n X 1 dX7_goesOn_136 rfl rfl ?_
                refine r_getr X 11 41 in_X7 (ci := 6) rfl rfl (ltn hnc rfl) (Nat.le_of_ble_eq_true rfl) rfl w_620 dX7_goesOn_137 (by decide) ?_
                refine r_iload X 0 dX7_goesOn_140 rfl ?_
                refine r_dup2 X dX7_goesOn_142 rfl rfl ?_
                obtain ⟨c19, h⟩ := ck_ex h
                refine r_iald X (n := 7) rfl (Or.inl (ltn hnc rfl)) c19 dX7_goesOn_143 ?_
                refine r_iconst X 1 dX7_goesOn_144 rfl ?_
                refine r_iadd X dX7_goesOn_145 ?_
                obtain ⟨c20, h⟩ := ck_ex h
                obtain ⟨M21, eM21, h⟩ := nm_ex h
                refine r_iast X (n := 7) rfl (ltn hnc rfl) c20 dX7_goesOn_146 ?_
                refine r_mem eM21 ?_
                refine r_iinc X [(3, .int (v3 + 1)), (4, .int r5), (0, .ref 34), (1, .int v1), (2, .int v2)] 4 (v3 + 1) dX7_goesOn_147 rfl rfl (Nat.le_of_ble_eq_true rfl) rfl ?_
                refine r_goto X 55 dX7_goesOn_150 (by decide) ?_
                refine r_sub (ls' := [(0, .ref 34), (1, .int v1), (2, .int v2), (3, .int (v3 + 1))]) [2, 3, 4, 0] rfl ?_
                exact ih M21 v1 v2 (v3 + 1) h
              · replace h := it_t c9 h
                refine r_iload_n X 4 dX7_goesOn_89 rfl rfl ?_
                obtain ⟨r23, M22, h24, h⟩ := bd2_ex h
                refine r_callS X (st := []) (av := [.int v3]) (k_X7_turnOf l N _ hnc _ _ _ _ h24 d (by omega)) (fitR_s (Nat.le_of_ble_eq_true rfl)) ⟨Nat.le_refl 0, Nat.le_refl 0⟩ w_734 w_47 w_733 w_732 hy_X7_turnOf rfl (Nat.le_of_ble_eq_true rfl) dX7_goesOn_90 ?_
                refine r_aload_n X 1 dX7_goesOn_93 rfl rfl ?_
                refine r_getr X 12 42 in_X7 (ci := 6) rfl rfl (ltn hnc rfl) (Nat.le_of_ble_eq_true rfl) rfl w_621 dX7_goesOn_94 (by decide) ?_
                refine r_iload_n X 2 dX7_goesOn_97 rfl rfl ?_
                obtain ⟨c25, h⟩ := ck_ex h
                refine r_iald X (n := 6) rfl (Or.inl (ltn hnc rfl)) c25 dX7_goesOn_98 ?_
                refine r_iceq X 105 dX7_goesOn_99 (by decide) (fun c26 => ?_) (fun c26 => ?_)
                · replace h := it_t c26 h
                  refine r_aload_n X 1 dX7_goesOn_105 rfl rfl ?_
                  refine r_getr X 11 41 in_X7 (ci := 6) rfl rfl (ltn hnc rfl) (Nat.le_of_ble_eq_true rfl) rfl w_620 dX7_goesOn_106 (by decide) ?_
                  refine r_iload X 0 dX7_goesOn_109 rfl ?_
                  refine r_dup2 X dX7_goesOn_111 rfl rfl ?_
                  obtain ⟨c27, h⟩ := ck_ex h
                  refine r_iald X (n := 7) rfl (Or.inl (ltn hnc rfl)) c27 dX7_goesOn_112 ?_
                  refine r_iconst X 1 dX7_goesOn_113 rfl ?_
                  refine r_isub X dX7_goesOn_114 ?_
                  obtain ⟨c28, h⟩ := ck_ex h
                  obtain ⟨M29, eM29, h⟩ := nm_ex h
                  refine r_iast X (n := 7) rfl (ltn hnc rfl) c28 dX7_goesOn_115 ?_
                  refine r_mem eM29 ?_
                  refine r_aload_n X 1 dX7_goesOn_116 rfl rfl ?_
                  refine r_getr X 7 40 in_X7 (ci := 6) rfl rfl (ltn hnc rfl) (Nat.le_of_ble_eq_true rfl) rfl w_616 dX7_goesOn_117 (by decide) ?_
                  refine r_iload_n X 2 dX7_goesOn_120 rfl rfl ?_
                  refine r_iload_n X 4 dX7_goesOn_121 rfl rfl ?_
                  obtain ⟨c30, h⟩ := ck_ex h
                  obtain ⟨M31, eM31, h⟩ := nm_ex h
                  refine r_iast X (n := 24) rfl (ltn hnc rfl) c30 dX7_goesOn_122 ?_
                  refine r_mem eM31 ?_
                  refine r_aload_n X 1 dX7_goesOn_123 rfl rfl ?_
                  refine r_iload_n X 2 dX7_goesOn_124 rfl rfl ?_
                  obtain ⟨M32, h33, h⟩ := bd_ex h
                  refine r_callV X (st := []) (av := [.int v1]) (k := 34) (ci := 6) (k_X7_lays l N _ hnc _ _ _ h33 d (by omega)) (fitR_s (Nat.le_of_ble_eq_true rfl)) ⟨Nat.le_refl 0, Nat.le_refl 0⟩ rfl (ltn hnc rfl) rfl w_728 w_47 w_727 w_20 w_725 hy_X7_lays rfl (Nat.le_of_ble_eq_true rfl) dX7_goesOn_125 ?_
                  refine r_aload_n X 1 dX7_goesOn_128 rfl rfl ?_
                  refine r_iload_n X 2 dX7_goesOn_129 rfl rfl ?_
                  refine r_iconst X 1 dX7_goesOn_130 rfl ?_
                  refine r_iadd X dX7_goesOn_131 ?_
                  refine r_iload_n X 3 dX7_goesOn_132 rfl rfl ?_
                  obtain ⟨M34, h35, h⟩ := bd_ex h
                  refine r_callV X (st := []) (av := [.int (v1 + (1 : Int32)), .int v2]) (k := 34) (ci := 6) (ihd _ _ _ _ h35 d (by omega)) (fitR_s (Nat.le_of_ble_eq_true rfl)) ⟨Nat.le_refl 0, Nat.le_refl 0⟩ rfl (ltn hnc rfl) rfl w_839 w_47 w_838 w_33 w_836 hy_X7_goesOn rfl (Nat.le_of_ble_eq_true rfl) dX7_goesOn_133 ?_
                  refine r_aload_n X 1 dX7_goesOn_136 rfl rfl ?_
                  refine r_getr X 11 41 in_X7 (ci := 6) rfl rfl (ltn hnc rfl) (Nat.le_of_ble_eq_true rfl) rfl w_620 dX7_goesOn_137 (by decide) ?_
                  refine r_iload X 0 dX7_goesOn_140 rfl ?_
                  refine r_dup2 X dX7_goesOn_142 rfl rfl ?_
                  obtain ⟨c36, h⟩ := ck_ex h
                  refine r_iald X (n := 7) rfl (Or.inl (ltn hnc rfl)) c36 dX7_goesOn_143 ?_
                  refine r_iconst X 1 dX7_goesOn_144 rfl ?_
                  refine r_iadd X dX7_goesOn_145 ?_
                  obtain ⟨c37, h⟩ := ck_ex h
                  obtain ⟨M38, eM38, h⟩ := nm_ex h
                  refine r_iast X (n := 7) rfl (ltn hnc rfl) c37 dX7_goesOn_146 ?_
                  refine r_mem eM38 ?_
                  refine r_iinc X [(3, .int (v3 + 1)), (4, .int r5), (0, .ref 34), (1, .int v1), (2, .int v2)] 4 (v3 + 1) dX7_goesOn_147 rfl rfl (Nat.le_of_ble_eq_true rfl) rfl ?_
                  refine r_goto X 55 dX7_goesOn_150 (by decide) ?_
                  refine r_sub (ls' := [(0, .ref 34), (1, .int v1), (2, .int v2), (3, .int (v3 + 1))]) [2, 3, 4, 0] rfl ?_
                  exact ih M38 v1 v2 (v3 + 1) h
                · replace h := it_f c26 h
                  refine r_goto X 147 dX7_goesOn_102 (by decide) ?_
                  refine r_iinc X [(3, .int (v3 + 1)), (4, .int r5), (0, .ref 34), (1, .int v1), (2, .int v2)] 4 (v3 + 1) dX7_goesOn_147 rfl rfl (Nat.le_of_ble_eq_true rfl) rfl ?_
                  refine r_goto X 55 dX7_goesOn_150 (by decide) ?_
                  refine r_sub (ls' := [(0, .ref 34), (1, .int v1), (2, .int v2), (3, .int (v3 + 1))]) [2, 3, 4, 0] rfl ?_
                  exact ih M22 v1 v2 (v3 + 1) h
    refine r_sub (ls' := [(0, .ref 34), (1, .int p0), (2, .int p1)]) [0, 1, 2] rfl ?_
    refine r_iload_n X 1 dX7_goesOn_0 rfl rfl ?_
    refine r_aload_n X 0 dX7_goesOn_1 rfl rfl ?_
    refine r_geti X 8 in_X7 (ci := 6) rfl rfl (ltn hnc rfl) (Nat.le_of_ble_eq_true rfl) rfl w_617 dX7_goesOn_2 ?_
    refine r_icne X 53 dX7_goesOn_5 (by decide) (fun c1 => ?_) (fun c1 => ?_)
    · replace h := it_f c1 h
      refine r_iconst X 0 dX7_goesOn_53 rfl ?_
      refine r_istore_n X [(3, .int (0 : Int32)), (0, .ref 34), (1, .int p0), (2, .int p1)] dX7_goesOn_54 rfl (Nat.le_of_ble_eq_true rfl) rfl ?_
      refine r_sub (ls' := [(0, .ref 34), (1, .int p0), (2, .int p1), (3, .int (0 : Int32))]) [1, 2, 3, 0] rfl ?_
      exact hl55  N M p0 p1 (0 : Int32) h
    · replace h := it_t c1 h
      refine r_iload_n X 2 dX7_goesOn_8 rfl rfl ?_
      refine r_ifne X 19 dX7_goesOn_9 (by decide) (fun c39 => ?_) (fun c39 => ?_)
      · replace h := it_f c39 h
        refine r_iload_n X 2 dX7_goesOn_19 rfl rfl ?_
        refine r_iconst X 1 dX7_goesOn_20 rfl ?_
        refine r_icne X 31 dX7_goesOn_21 (by decide) (fun c40 => ?_) (fun c40 => ?_)
        · replace h := it_f c40 h
          refine r_aload_n X 0 dX7_goesOn_31 rfl rfl ?_
          refine r_dup X dX7_goesOn_32 rfl ?_
          refine r_geti X 18 in_X7 (ci := 6) rfl rfl (ltn hnc rfl) (Nat.le_of_ble_eq_true rfl) rfl w_627 dX7_goesOn_33 ?_
          refine r_aload_n X 0 dX7_goesOn_36 rfl rfl ?_
          obtain ⟨r42, M41, h43, h⟩ := bd2_ex h
          refine r_callV X (st := [.int (M.1 34 18), .ref 34]) (av := []) (k := 34) (ci := 6) (k_X7_isClosed l N _ hnc _  _ _ h43 d (by omega)) (fitR_s (Nat.le_of_ble_eq_true rfl)) ⟨Nat.le_refl 0, Nat.le_refl 0⟩ rfl (ltn hnc rfl) rfl w_750 w_47 w_749 w_23 w_747 hy_X7_isClosed rfl (Nat.le_of_ble_eq_true rfl) dX7_goesOn_37 ?_
          refine r_ifeq X 47 dX7_goesOn_40 (by decide) (fun c44 => ?_) (fun c44 => ?_)
          · replace h := it_t c44 h
            refine r_iconst X 0 dX7_goesOn_47 rfl ?_
            refine r_iadd X dX7_goesOn_48 ?_
            obtain ⟨M45, eM45, h⟩ := nm_ex h
            refine r_puti X 18 in_X7 (ci := 6) rfl tyX7_ok nmX7 rfl (ltn hnc rfl) (Nat.le_of_ble_eq_true rfl) rfl w_627 rfl (ty := .int) rfl rfl rfl dX7_goesOn_49 ?_
            refine r_mem eM45 ?_
            exact r_vretE X hr dX7_goesOn_52 h
          · replace h := it_f c44 h
            refine r_iconst X 1 dX7_goesOn_43 rfl ?_
            refine r_goto X 48 dX7_goesOn_44 (by decide) ?_
            refine r_iadd X dX7_goesOn_48 ?_
            obtain ⟨M46, eM46, h⟩ := nm_ex h
            refine r_puti X 18 in_X7 (ci := 6) rfl tyX7_ok nmX7 rfl (ltn hnc rfl) (Nat.le_of_ble_eq_true rfl) rfl w_627 rfl (ty := .int) rfl rfl rfl dX7_goesOn_49 ?_
            refine r_mem eM46 ?_
            exact r_vretE X hr dX7_goesOn_52 h
        · replace h := it_t c40 h
          refine r_aload_n X 0 dX7_goesOn_24 rfl rfl ?_
          obtain ⟨M47, h48, h⟩ := bd_ex h
          refine r_callV X (st := []) (av := []) (k := 34) (ci := 6) (k_X7_nears l N _ hnc _  _ h48 d (by omega)) (fitR_s (Nat.le_of_ble_eq_true rfl)) ⟨Nat.le_refl 0, Nat.le_refl 0⟩ rfl (ltn hnc rfl) rfl w_854 w_47 w_853 w_36 w_851 hy_X7_nears rfl (Nat.le_of_ble_eq_true rfl) dX7_goesOn_25 ?_
          refine r_goto X 52 dX7_goesOn_28 (by decide) ?_
          exact r_vretE X hr dX7_goesOn_52 h
      · replace h := it_t c39 h
        refine r_aload_n X 0 dX7_goesOn_12 rfl rfl ?_
        obtain ⟨M49, h50, h⟩ := bd_ex h
        refine r_callV X (st := []) (av := []) (k := 34) (ci := 6) (k_X7_rings l N _ hnc _  _ h50 d (by omega)) (fitR_s (Nat.le_of_ble_eq_true rfl)) ⟨Nat.le_refl 0, Nat.le_refl 0⟩ rfl (ltn hnc rfl) rfl w_843 w_47 w_842 w_34 w_840 hy_X7_rings rfl (Nat.le_of_ble_eq_true rfl) dX7_goesOn_13 ?_
        refine r_goto X 52 dX7_goesOn_16 (by decide) ?_
        exact r_vretE X hr dX7_goesOn_52 h
def f_X7_ringsOf (N : Nat) (M : Mem) (p0 : Int32) (p1 : Int32) (p2 : Int32) : Option (Int32 × Mem) :=
  bd (f_X7_begins N M p0) fun M1 =>
  nm (seI M1 34 15 (0 : Int32)) fun M3 =>
  nm (seI M3 34 16 p2) fun M4 =>
  nm (seI M4 34 23 (0 : Int32)) fun M5 =>
  ck (zb p1) <|
  nm (seI M5 34 22 p1) fun M6 =>
  bd (f_X7_goesOn N 12 M6 (0 : Int32) (0 : Int32)) fun M8 =>
  nm (seI M8 34 23 (0 : Int32)) fun M10 =>
  if 0 ≤ p2 then
    (if (M8.1 34 23) = 0 then
      (some ((-9 : Int32), M10))
    else
      (some ((1 : Int32), M10)))
  else
    (some (M10.1 34 15, M10))
set_option maxRecDepth 100000 in
set_option maxHeartbeats 4000000 in
theorem k_X7_ringsOf (l : Launch) (N : Nat) (nc : Nat) (hnc : 45 ≤ nc) (M : Mem) (p0 : Int32) (p1 : Int32) (p2 : Int32) (r : Int32) (M' : Mem) (h : f_X7_ringsOf N M p0 p1 p2 = some (r, M')) (d : Nat) (hd : 18 ≤ d) : Ct l d yX7_ringsOf cX7_ringsOf 5 (some .int) shp nc [.ref 34, .int p0, .int p1, .int p2] M (some (.int r)) M' := by
  obtain ⟨d, rfl⟩ : ∃ q, d = q + 1 := ⟨d - 1, by omega⟩
  unfold f_X7_ringsOf at h
  refine Ct.of (by decide +kernel) (Nat.le_of_ble_eq_true rfl) ?_
  intro p e s m args below meth c A ad D cI cJ X hr
  refine r_sub (ls' := [(0, .ref 34), (1, .int p0), (2, .int p1), (3, .int p2)]) [0, 1, 2, 3] rfl ?_
  refine r_aload_n X 0 dX7_ringsOf_0 rfl rfl ?_
  refine r_iload_n X 1 dX7_ringsOf_1 rfl rfl ?_
  obtain ⟨M1, h2, h⟩ := bd_ex h
  refine r_callV X (st := []) (av := [.int p0]) (k := 34) (ci := 6) (k_X7_begins l N _ hnc _ _ _ h2 d (by omega)) (fitR_s (Nat.le_of_ble_eq_true rfl)) ⟨Nat.le_refl 0, Nat.le_refl 0⟩ rfl (ltn hnc rfl) rfl w_835 w_47 w_834 w_32 w_832 hy_X7_begins rfl (Nat.le_of_ble_eq_true rfl) dX7_ringsOf_2 ?_
  refine r_aload_n X 0 dX7_ringsOf_5 rfl rfl ?_
  refine r_iconst X 0 dX7_ringsOf_6 rfl ?_
  obtain ⟨M3, eM3, h⟩ := nm_ex h
  refine r_puti X 15 in_X7 (ci := 6) rfl tyX7_ok nmX7 rfl (ltn hnc rfl) (Nat.le_of_ble_eq_true rfl) rfl w_624 rfl (ty := .int) rfl rfl rfl dX7_ringsOf_7 ?_
  refine r_mem eM3 ?_
  refine r_aload_n X 0 dX7_ringsOf_10 rfl rfl ?_
  refine r_iload_n X 3 dX7_ringsOf_11 rfl rfl ?_
  obtain ⟨M4, eM4, h⟩ := nm_ex h
  refine r_puti X 16 in_X7 (ci := 6) rfl tyX7_ok nmX7 rfl (ltn hnc rfl) (Nat.le_of_ble_eq_true rfl) rfl w_625 rfl (ty := .int) rfl rfl rfl dX7_ringsOf_12 ?_
  refine r_mem eM4 ?_
  refine r_aload_n X 0 dX7_ringsOf_15 rfl rfl ?_
  refine r_iconst X 0 dX7_ringsOf_16 rfl ?_
  obtain ⟨M5, eM5, h⟩ := nm_ex h
  refine r_puti X 23 in_X7 (ci := 6) rfl tyX7_ok nmX7 rfl (ltn hnc rfl) (Nat.le_of_ble_eq_true rfl) rfl w_632 rfl (ty := .boolean) rfl rfl rfl dX7_ringsOf_17 ?_
  refine r_mem eM5 ?_
  refine r_aload_n X 0 dX7_ringsOf_20 rfl rfl ?_
  refine r_iload_n X 2 dX7_ringsOf_21 rfl rfl ?_
  obtain ⟨c7, h⟩ := ck_ex h
  obtain ⟨M6, eM6, h⟩ := nm_ex h
  refine r_puti X 22 in_X7 (ci := 6) rfl tyX7_ok nmX7 rfl (ltn hnc rfl) (Nat.le_of_ble_eq_true rfl) rfl w_631 rfl (ty := .boolean) rfl (zb_n c7) (zb_f c7) dX7_ringsOf_22 ?_
  refine r_mem eM6 ?_
  refine r_aload_n X 0 dX7_ringsOf_25 rfl rfl ?_
  refine r_iconst X 0 dX7_ringsOf_26 rfl ?_
  refine r_iconst X 0 dX7_ringsOf_27 rfl ?_
  obtain ⟨M8, h9, h⟩ := bd_ex h
  refine r_callV X (st := []) (av := [.int (0 : Int32), .int (0 : Int32)]) (k := 34) (ci := 6) (k_X7_goesOn l N _ hnc 12 _ _ _ _ h9 d (by omega)) (fitR_s (Nat.le_of_ble_eq_true rfl)) ⟨Nat.le_refl 0, Nat.le_refl 0⟩ rfl (ltn hnc rfl) rfl w_839 w_47 w_838 w_33 w_836 hy_X7_goesOn rfl (Nat.le_of_ble_eq_true rfl) dX7_ringsOf_28 ?_
  refine r_aload_n X 0 dX7_ringsOf_31 rfl rfl ?_
  refine r_geti X 23 in_X7 (ci := 6) rfl rfl (ltn hnc rfl) (Nat.le_of_ble_eq_true rfl) rfl w_632 dX7_ringsOf_32 ?_
  refine r_istore X [(4, .int (M8.1 34 23)), (0, .ref 34), (1, .int p0), (2, .int p1), (3, .int p2)] dX7_ringsOf_35 (Nat.le_of_ble_eq_true rfl) rfl ?_
  refine r_aload_n X 1 dX7_ringsOf_37 rfl rfl ?_
  refine r_iconst X 0 dX7_ringsOf_38 rfl ?_
  obtain ⟨M10, eM10, h⟩ := nm_ex h
  refine r_puti X 23 in_X7 (ci := 6) rfl tyX7_ok nmX7 rfl (ltn hnc rfl) (Nat.le_of_ble_eq_true rfl) rfl w_632 rfl (ty := .boolean) rfl rfl rfl dX7_ringsOf_39 ?_
  refine r_mem eM10 ?_
  refine r_iload_n X 4 dX7_ringsOf_42 rfl rfl ?_
  refine r_ifge X 53 dX7_ringsOf_43 (by decide) (fun c11 => ?_) (fun c11 => ?_)
  · replace h := it_t c11 h
    refine r_iload X 0 dX7_ringsOf_53 rfl ?_
    refine r_ifeq X 62 dX7_ringsOf_55 (by decide) (fun c12 => ?_) (fun c12 => ?_)
    · replace h := it_t c12 h
      refine r_bipush X (-9) dX7_ringsOf_62 rfl ?_
      exact r_iretE X hr dX7_ringsOf_64 h
    · replace h := it_f c12 h
      refine r_iconst X 1 dX7_ringsOf_58 rfl ?_
      refine r_goto X 64 dX7_ringsOf_59 (by decide) ?_
      exact r_iretE X hr dX7_ringsOf_64 h
  · replace h := it_f c11 h
    refine r_aload_n X 1 dX7_ringsOf_46 rfl rfl ?_
    refine r_geti X 15 in_X7 (ci := 6) rfl rfl (ltn hnc rfl) (Nat.le_of_ble_eq_true rfl) rfl w_624 dX7_ringsOf_47 ?_
    refine r_goto X 64 dX7_ringsOf_50 (by decide) ?_
    exact r_iretE X hr dX7_ringsOf_64 h
def f_X7_rings_ (N : Nat) (M : Mem) (p0 : Int32) (p1 : Int32) : Option (Int32 × Mem) :=
  bd2 (f_X7_within N M p0 (1 : Int32) (6 : Int32)) fun r2 M1 =>
  if r2 = 0 then
    (bd2 (f_X7_ringsOf N M1 p0 p1 (-1 : Int32)) fun r6 M5 =>
    some (r6, M5))
  else
    (bd2 (f_X7_refuse N M1 r2) fun r9 M8 =>
    some (r9, M8))
set_option maxRecDepth 100000 in
set_option maxHeartbeats 4000000 in
theorem k_X7_rings_ (l : Launch) (N : Nat) (nc : Nat) (hnc : 45 ≤ nc) (M : Mem) (p0 : Int32) (p1 : Int32) (r : Int32) (M' : Mem) (h : f_X7_rings_ N M p0 p1 = some (r, M')) (d : Nat) (hd : 19 ≤ d) : Ct l d yX7_rings_ cX7_rings_ 4 (some .int) shp nc [.ref 34, .int p0, .int p1] M (some (.int r)) M' := by
  obtain ⟨d, rfl⟩ : ∃ q, d = q + 1 := ⟨d - 1, by omega⟩
  unfold f_X7_rings_ at h
  refine Ct.of (by decide +kernel) (Nat.le_of_ble_eq_true rfl) ?_
  intro p e s m args below meth c A ad D cI cJ X hr
  refine r_sub (ls' := [(0, .ref 34), (1, .int p0), (2, .int p1)]) [0, 1, 2] rfl ?_
  refine r_iload_n X 1 dX7_rings__0 rfl rfl ?_
  refine r_iconst X 1 dX7_rings__1 rfl ?_
  refine r_bipush X 6 dX7_rings__2 rfl ?_
  obtain ⟨r2, M1, h3, h⟩ := bd2_ex h
  refine r_callS X (st := []) (av := [.int p0, .int (1 : Int32), .int (6 : Int32)]) (k_X7_within l N _ hnc _ _ _ _ _ _ h3 d (by omega)) (fitR_s (Nat.le_of_ble_eq_true rfl)) ⟨Nat.le_refl 0, Nat.le_refl 0⟩ w_707 w_47 w_706 w_705 hy_X7_within rfl (Nat.le_of_ble_eq_true rfl) dX7_rings__4 ?_
  refine r_istore_n X [(3, .int r2), (0, .ref 34), (1, .int p0), (2, .int p1)] dX7_rings__7 rfl (Nat.le_of_ble_eq_true rfl) rfl ?_
  refine r_iload_n X 0 dX7_rings__8 rfl rfl ?_
  refine r_ifeq X 20 dX7_rings__9 (by decide) (fun c4 => ?_) (fun c4 => ?_)
  · replace h := it_t c4 h
    refine r_aload_n X 1 dX7_rings__20 rfl rfl ?_
    refine r_iload_n X 2 dX7_rings__21 rfl rfl ?_
    refine r_iload_n X 3 dX7_rings__22 rfl rfl ?_
    refine r_iconst X (-1) dX7_rings__23 rfl ?_
    obtain ⟨r6, M5, h7, h⟩ := bd2_ex h
    refine r_callV X (st := []) (av := [.int p0, .int p1, .int (-1 : Int32)]) (k := 34) (ci := 6) (k_X7_ringsOf l N _ hnc _ _ _ _ _ _ h7 d (by omega)) (fitR_s (Nat.le_of_ble_eq_true rfl)) ⟨Nat.le_refl 0, Nat.le_refl 0⟩ rfl (ltn hnc rfl) rfl w_831 w_47 w_830 w_31 w_828 hy_X7_ringsOf rfl (Nat.le_of_ble_eq_true rfl) dX7_rings__24 ?_
    exact r_iretE X hr dX7_rings__27 h
  · replace h := it_f c4 h
    refine r_aload_n X 1 dX7_rings__12 rfl rfl ?_
    refine r_iload_n X 0 dX7_rings__13 rfl rfl ?_
    obtain ⟨r9, M8, h10, h⟩ := bd2_ex h
    refine r_callV X (st := []) (av := [.int r2]) (k := 34) (ci := 6) (k_X7_refuse l N _ hnc _ _ _ _ h10 d (by omega)) (fitR_s (Nat.le_of_ble_eq_true rfl)) ⟨Nat.le_refl 0, Nat.le_refl 0⟩ rfl (ltn hnc rfl) rfl w_689 w_47 w_688 w_18 w_686 hy_X7_refuse rfl (Nat.le_of_ble_eq_true rfl) dX7_rings__14 ?_
    refine r_goto X 27 dX7_rings__17 (by decide) ?_
    exact r_iretE X hr dX7_rings__27 h
def f_X6_ring (N : Nat) (M : Mem) (p0 : Int32) (p1 : Int32) (p2 : Int32) : Option (Int32 × Mem) :=
  if (1 : Int32) ≤ p0 then
    (if p0 ≤ (6 : Int32) then
      (if 0 ≤ p2 then
        (bd (f_X3_through N M p0 p1 (0 : Int32) p2) fun M4 =>
        if p2 < (M4.1 21 9) then
          (bd (f_X0_becomes N M4 25 p0) fun M7 =>
          some ((1 : Int32), M7))
        else
          (some ((-9 : Int32), M4)))
      else
        (some ((-9 : Int32), M)))
    else
      (bd2 (f_X6_refuse N M (-6 : Int32)) fun r10 M9 =>
      some (r10, M9)))
  else
    (bd2 (f_X6_refuse N M (-4 : Int32)) fun r13 M12 =>
    some (r13, M12))
set_option maxRecDepth 100000 in
set_option maxHeartbeats 4000000 in
theorem k_X6_ring (l : Launch) (N : Nat) (nc : Nat) (hnc : 34 ≤ nc) (M : Mem) (p0 : Int32) (p1 : Int32) (p2 : Int32) (r : Int32) (M' : Mem) (h : f_X6_ring N M p0 p1 p2 = some (r, M')) (d : Nat) (hd : 7 ≤ d) : Ct l d yX6_ring cX6_ring 4 (some .int) shp nc [.ref 0, .int p0, .int p1, .int p2] M (some (.int r)) M' := by
  obtain ⟨d, rfl⟩ : ∃ q, d = q + 1 := ⟨d - 1, by omega⟩
  unfold f_X6_ring at h
  refine Ct.of (by decide +kernel) (Nat.le_of_ble_eq_true rfl) ?_
  intro p e s m args below meth c A ad D cI cJ X hr
  refine r_sub (ls' := [(0, .ref 0), (1, .int p0), (2, .int p1), (3, .int p2)]) [0, 1, 2, 3] rfl ?_
  refine r_iload_n X 1 dX6_ring_0 rfl rfl ?_
  refine r_iconst X 1 dX6_ring_1 rfl ?_
  refine r_icge X 12 dX6_ring_2 (by decide) (fun c1 => ?_) (fun c1 => ?_)
  · replace h := it_t c1 h
    refine r_iload_n X 1 dX6_ring_12 rfl rfl ?_
    refine r_bipush X 6 dX6_ring_13 rfl ?_
    refine r_icle X 25 dX6_ring_15 (by decide) (fun c2 => ?_) (fun c2 => ?_)
    · replace h := it_t c2 h
      refine r_iload_n X 3 dX6_ring_25 rfl rfl ?_
      refine r_ifge X 32 dX6_ring_26 (by decide) (fun c3 => ?_) (fun c3 => ?_)
      · replace h := it_t c3 h
        refine r_aload_n X 0 dX6_ring_32 rfl rfl ?_
        refine r_getr X 5 21 in_X6 (ci := 5) rfl rfl (ltn hnc rfl) (Nat.le_of_ble_eq_true rfl) rfl w_245 dX6_ring_33 (by decide) ?_
        refine r_iload_n X 1 dX6_ring_36 rfl rfl ?_
        refine r_iload_n X 2 dX6_ring_37 rfl rfl ?_
        refine r_iconst X 0 dX6_ring_38 rfl ?_
        refine r_iload_n X 3 dX6_ring_39 rfl rfl ?_
        obtain ⟨M4, h5, h⟩ := bd_ex h
        refine r_callV X (st := []) (av := [.int p0, .int p1, .int (0 : Int32), .int p2]) (k := 21) (ci := 2) (k_X3_through l N _ hnc _ _ _ _ _ _ h5 d (by omega)) (fitR_s (Nat.le_of_ble_eq_true rfl)) ⟨Nat.le_refl 0, Nat.le_refl 0⟩ rfl (ltn hnc rfl) rfl w_462 w_43 w_460 w_461 w_459 hy_X3_through rfl (Nat.le_of_ble_eq_true rfl) dX6_ring_40 ?_
        refine r_aload_n X 0 dX6_ring_43 rfl rfl ?_
        refine r_getr X 5 21 in_X6 (ci := 5) rfl rfl (ltn hnc rfl) (Nat.le_of_ble_eq_true rfl) rfl w_245 dX6_ring_44 (by decide) ?_
        refine r_geti X 9 in_X3 (ci := 2) rfl rfl (ltn hnc rfl) (Nat.le_of_ble_eq_true rfl) rfl w_164 dX6_ring_47 ?_
        refine r_iload_n X 3 dX6_ring_50 rfl rfl ?_
        refine r_icgt X 57 dX6_ring_51 (by decide) (fun c6 => ?_) (fun c6 => ?_)
        · replace h := it_t c6 h
          refine r_aload_n X 0 dX6_ring_57 rfl rfl ?_
          refine r_getr X 0 1 in_X6 (ci := 5) rfl rfl (ltn hnc rfl) (Nat.le_of_ble_eq_true rfl) rfl w_240 dX6_ring_58 (by decide) ?_
          refine r_aload_n X 0 dX6_ring_61 rfl rfl ?_
          refine r_getr X 5 21 in_X6 (ci := 5) rfl rfl (ltn hnc rfl) (Nat.le_of_ble_eq_true rfl) rfl w_245 dX6_ring_62 (by decide) ?_
          refine r_getr X 7 25 in_X3 (ci := 2) rfl rfl (ltn hnc rfl) (Nat.le_of_ble_eq_true rfl) rfl w_160 dX6_ring_65 (by decide) ?_
          refine r_iload_n X 1 dX6_ring_68 rfl rfl ?_
          obtain ⟨M7, h8, h⟩ := bd_ex h
          refine r_callV X (st := []) (av := [.ref 25, .int p0]) (k := 1) (ci := 0) (k_X0_becomes l N _ hnc _ _ _ (Or.inl (ltn hnc rfl)) _ h8 d (by omega)) (fitR_s (Nat.le_of_ble_eq_true rfl)) ⟨Nat.le_refl 0, Nat.le_refl 0⟩ rfl (ltn hnc rfl) rfl w_300 w_40 w_298 w_299 w_297 hy_X0_becomes rfl (Nat.le_of_ble_eq_true rfl) dX6_ring_69 ?_
          refine r_iconst X 1 dX6_ring_72 rfl ?_
          exact r_iretE X hr dX6_ring_73 h
        · replace h := it_f c6 h
          refine r_bipush X (-9) dX6_ring_54 rfl ?_
          exact r_iretE X hr dX6_ring_56 h
      · replace h := it_f c3 h
        refine r_bipush X (-9) dX6_ring_29 rfl ?_
        exact r_iretE X hr dX6_ring_31 h
    · replace h := it_f c2 h
      refine r_aload_n X 0 dX6_ring_18 rfl rfl ?_
      refine r_bipush X (-6) dX6_ring_19 rfl ?_
      obtain ⟨r10, M9, h11, h⟩ := bd2_ex h
      refine r_callV X (st := []) (av := [.int (-6 : Int32)]) (k := 0) (ci := 5) (k_X6_refuse l N _ hnc _ _ _ _ h11 d (by omega)) (fitR_s (Nat.le_of_ble_eq_true rfl)) ⟨Nat.le_refl 0, Nat.le_refl 0⟩ rfl (ltn hnc rfl) rfl w_284 w_39 w_283 w_1 w_281 hy_X6_refuse rfl (Nat.le_of_ble_eq_true rfl) dX6_ring_21 ?_
      exact r_iretE X hr dX6_ring_24 h
  · replace h := it_f c1 h
    refine r_aload_n X 0 dX6_ring_5 rfl rfl ?_
    refine r_bipush X (-4) dX6_ring_6 rfl ?_
    obtain ⟨r13, M12, h14, h⟩ := bd2_ex h
    refine r_callV X (st := []) (av := [.int (-4 : Int32)]) (k := 0) (ci := 5) (k_X6_refuse l N _ hnc _ _ _ _ h14 d (by omega)) (fitR_s (Nat.le_of_ble_eq_true rfl)) ⟨Nat.le_refl 0, Nat.le_refl 0⟩ rfl (ltn hnc rfl) rfl w_284 w_39 w_283 w_1 w_281 hy_X6_refuse rfl (Nat.le_of_ble_eq_true rfl) dX6_ring_8 ?_
    exact r_iretE X hr dX6_ring_11 h
def l_X7_becomes_2 (N : Nat)   (a0 : Nat) : Nat → Mem → Int32 → Int32 → Option Mem
  | 0, _, _, _ => none
  | n + 1, M, v2, v3 =>
    if v2 ≤ v3 then
      (nm (seI M 36 (ix (55 : Int32)) v2) fun M2 =>
      some M2)
    else
      (bd (iaL shp a0) fun n3 =>
      ck (inb v3 n3) <|
      ck (inb ((31 : Int32) + v3) 56) <|
      nm (seI M 36 (ix ((31 : Int32) + v3)) (M.1 a0 (ix v3))) fun M6 =>
      l_X7_becomes_2 N a0 n M6 v2 (v3 + 1))
def f_X7_becomes (N : Nat) (M : Mem) (a0 : Nat) (p1 : Int32) : Option Mem :=
  l_X7_becomes_2 N a0 N M p1 (0 : Int32)
set_option maxRecDepth 100000 in
set_option maxHeartbeats 4000000 in
theorem k_X7_becomes (l : Launch) (N : Nat) (nc : Nat) (hnc : 45 ≤ nc) (M : Mem) (a0 : Nat) (p1 : Int32) (ha0 : a0 < nc ∨ 45 ≤ a0) (M' : Mem) (h : f_X7_becomes N M a0 p1 = some M') (d : Nat) (hd : 0 ≤ d) : Ct l d yX7_becomes cX7_becomes 4 none shp nc [.ref 34, .ref a0, .int p1] M none M' := by
  unfold f_X7_becomes at h
  refine Ct.of (by decide +kernel) (Nat.le_of_ble_eq_true rfl) ?_
  intro p e s m args below meth c A ad D cI cJ X hr
  have hl2 : ∀ (n : Nat) (M : Mem) (v2 : Int32) (v3 : Int32), l_X7_becomes_2 N a0 n M v2 v3 = some M' → AW p l e (rmd d) s m args below meth c 4 A ad D cI cJ shp nc 0 0 (MQ below (Qq A ad D cI cJ shp nc none M') args s 0 0 A) M 2 [(0, .ref 34), (1, .ref a0), (2, .int v2), (3, .int v3)] [] := by
    intro n
    induction n with
    | zero => intro M v2 v3 h; cases h
    | succ n ih =>
      intro M v2 v3 h
      rw [l_X7_becomes_2] at h
      refine r_iload_n X 3 dX7_becomes_2 rfl rfl ?_
      refine r_iload_n X 2 dX7_becomes_3 rfl rfl ?_
      refine r_icge X 25 dX7_becomes_4 (by decide) (fun c1 => ?_) (fun c1 => ?_)
      · replace h := it_t c1 h
        refine r_aload_n X 0 dX7_becomes_25 rfl rfl ?_
        refine r_getr X 1 36 in_X7 (ci := 6) rfl rfl (ltn hnc rfl) (Nat.le_of_ble_eq_true rfl) rfl w_610 dX7_becomes_26 (by decide) ?_
        refine r_bipush X 55 dX7_becomes_29 rfl ?_
        refine r_iload_n X 2 dX7_becomes_31 rfl rfl ?_
        obtain ⟨M2, eM2, h⟩ := nm_ex h
        refine r_iast X (n := 56) rfl (ltn hnc rfl) (by decide) dX7_becomes_32 ?_
        refine r_mem eM2 ?_
        exact r_vretE X hr dX7_becomes_33 h
      · replace h := it_f c1 h
        refine r_aload_n X 0 dX7_becomes_7 rfl rfl ?_
        refine r_getr X 1 36 in_X7 (ci := 6) rfl rfl (ltn hnc rfl) (Nat.le_of_ble_eq_true rfl) rfl w_610 dX7_becomes_8 (by decide) ?_
        refine r_bipush X 31 dX7_becomes_11 rfl ?_
        refine r_iload_n X 3 dX7_becomes_13 rfl rfl ?_
        refine r_iadd X dX7_becomes_14 ?_
        refine r_aload_n X 1 dX7_becomes_15 rfl rfl ?_
        refine r_iload_n X 3 dX7_becomes_16 rfl rfl ?_
        obtain ⟨n3, en3, h⟩ := bd_ex h
        obtain ⟨c4, h⟩ := ck_ex h
        refine r_iald X en3 ha0 c4 dX7_becomes_17 ?_
        obtain ⟨c5, h⟩ := ck_ex h
        obtain ⟨M6, eM6, h⟩ := nm_ex h
        refine r_iast X (n := 56) rfl (ltn hnc rfl) c5 dX7_becomes_18 ?_
        refine r_mem eM6 ?_
        refine r_iinc X [(3, .int (v3 + 1)), (0, .ref 34), (1, .ref a0), (2, .int v2)] 3 (v3 + 1) dX7_becomes_19 rfl rfl (Nat.le_of_ble_eq_true rfl) rfl ?_
        refine r_goto X 2 dX7_becomes_22 (by decide) ?_
        refine r_sub (ls' := [(0, .ref 34), (1, .ref a0), (2, .int v2), (3, .int (v3 + 1))]) [1, 2, 3, 0] rfl ?_
        exact ih M6 v2 (v3 + 1) h
  refine r_sub (ls' := [(0, .ref 34), (1, .ref a0), (2, .int p1)]) [0, 1, 2] rfl ?_
  refine r_iconst X 0 dX7_becomes_0 rfl ?_
  refine r_istore_n X [(3, .int (0 : Int32)), (0, .ref 34), (1, .ref a0), (2, .int p1)] dX7_becomes_1 rfl (Nat.le_of_ble_eq_true rfl) rfl ?_
  refine r_sub (ls' := [(0, .ref 34), (1, .ref a0), (2, .int p1), (3, .int (0 : Int32))]) [1, 2, 3, 0] rfl ?_
  exact hl2  N M p1 (0 : Int32) h
def f_X7_ring (N : Nat) (M : Mem) (p0 : Int32) (p1 : Int32) (p2 : Int32) : Option (Int32 × Mem) :=
  bd2 (f_X7_within N M p0 (1 : Int32) (6 : Int32)) fun r2 M1 =>
  if r2 = 0 then
    (if p2 < 0 then
      (some ((-9 : Int32), M1))
    else
      (bd2 (f_X7_ringsOf N M1 p0 p1 p2) fun r7 M6 =>
      if 0 ≤ r7 then
        (bd (f_X7_becomes N M6 43 p0) fun M10 =>
        some ((1 : Int32), M10))
      else
        (some ((-9 : Int32), M6))))
  else
    (bd2 (f_X7_refuse N M1 r2) fun r13 M12 =>
    some (r13, M12))
set_option maxRecDepth 100000 in
set_option maxHeartbeats 4000000 in
theorem k_X7_ring (l : Launch) (N : Nat) (nc : Nat) (hnc : 45 ≤ nc) (M : Mem) (p0 : Int32) (p1 : Int32) (p2 : Int32) (r : Int32) (M' : Mem) (h : f_X7_ring N M p0 p1 p2 = some (r, M')) (d : Nat) (hd : 19 ≤ d) : Ct l d yX7_ring cX7_ring 5 (some .int) shp nc [.ref 34, .int p0, .int p1, .int p2] M (some (.int r)) M' := by
  obtain ⟨d, rfl⟩ : ∃ q, d = q + 1 := ⟨d - 1, by omega⟩
  unfold f_X7_ring at h
  refine Ct.of (by decide +kernel) (Nat.le_of_ble_eq_true rfl) ?_
  intro p e s m args below meth c A ad D cI cJ X hr
  refine r_sub (ls' := [(0, .ref 34), (1, .int p0), (2, .int p1), (3, .int p2)]) [0, 1, 2, 3] rfl ?_
  refine r_iload_n X 1 dX7_ring_0 rfl rfl ?_
  refine r_iconst X 1 dX7_ring_1 rfl ?_
  refine r_bipush X 6 dX7_ring_2 rfl ?_
  obtain ⟨r2, M1, h3, h⟩ := bd2_ex h
  refine r_callS X (st := []) (av := [.int p0, .int (1 : Int32), .int (6 : Int32)]) (k_X7_within l N _ hnc _ _ _ _ _ _ h3 d (by omega)) (fitR_s (Nat.le_of_ble_eq_true rfl)) ⟨Nat.le_refl 0, Nat.le_refl 0⟩ w_707 w_47 w_706 w_705 hy_X7_within rfl (Nat.le_of_ble_eq_true rfl) dX7_ring_4 ?_
  refine r_istore X [(4, .int r2), (0, .ref 34), (1, .int p0), (2, .int p1), (3, .int p2)] dX7_ring_7 (Nat.le_of_ble_eq_true rfl) rfl ?_
  refine r_iload X 0 dX7_ring_9 rfl ?_
  refine r_ifeq X 21 dX7_ring_11 (by decide) (fun c4 => ?_) (fun c4 => ?_)
  · replace h := it_t c4 h
    refine r_iload_n X 4 dX7_ring_21 rfl rfl ?_
    refine r_iflt X 35 dX7_ring_22 (by decide) (fun c5 => ?_) (fun c5 => ?_)
    · replace h := it_t c5 h
      refine r_bipush X (-9) dX7_ring_35 rfl ?_
      exact r_iretE X hr dX7_ring_37 h
    · replace h := it_f c5 h
      refine r_aload_n X 1 dX7_ring_25 rfl rfl ?_
      refine r_iload_n X 2 dX7_ring_26 rfl rfl ?_
      refine r_iload_n X 3 dX7_ring_27 rfl rfl ?_
      refine r_iload_n X 4 dX7_ring_28 rfl rfl ?_
      obtain ⟨r7, M6, h8, h⟩ := bd2_ex h
      refine r_callV X (st := []) (av := [.int p0, .int p1, .int p2]) (k := 34) (ci := 6) (k_X7_ringsOf l N _ hnc _ _ _ _ _ _ h8 d (by omega)) (fitR_s (Nat.le_of_ble_eq_true rfl)) ⟨Nat.le_refl 0, Nat.le_refl 0⟩ rfl (ltn hnc rfl) rfl w_831 w_47 w_830 w_31 w_828 hy_X7_ringsOf rfl (Nat.le_of_ble_eq_true rfl) dX7_ring_29 ?_
      refine r_ifge X 38 dX7_ring_32 (by decide) (fun c9 => ?_) (fun c9 => ?_)
      · replace h := it_t c9 h
        refine r_aload_n X 1 dX7_ring_38 rfl rfl ?_
        refine r_aload_n X 1 dX7_ring_39 rfl rfl ?_
        refine r_getr X 13 43 in_X7 (ci := 6) rfl rfl (ltn hnc rfl) (Nat.le_of_ble_eq_true rfl) rfl w_622 dX7_ring_40 (by decide) ?_
        refine r_iload_n X 2 dX7_ring_43 rfl rfl ?_
        obtain ⟨M10, h11, h⟩ := bd_ex h
        refine r_callV X (st := []) (av := [.ref 43, .int p0]) (k := 34) (ci := 6) (k_X7_becomes l N _ hnc _ _ _ (Or.inl (ltn hnc rfl)) _ h11 d (by omega)) (fitR_s (Nat.le_of_ble_eq_true rfl)) ⟨Nat.le_refl 0, Nat.le_refl 0⟩ rfl (ltn hnc rfl) rfl w_862 w_47 w_861 w_37 w_859 hy_X7_becomes rfl (Nat.le_of_ble_eq_true rfl) dX7_ring_44 ?_
        refine r_iconst X 1 dX7_ring_47 rfl ?_
        exact r_iretE X hr dX7_ring_48 h
      · replace h := it_f c9 h
        refine r_bipush X (-9) dX7_ring_35 rfl ?_
        exact r_iretE X hr dX7_ring_37 h
  · replace h := it_f c4 h
    refine r_aload_n X 1 dX7_ring_14 rfl rfl ?_
    refine r_iload X 0 dX7_ring_15 rfl ?_
    obtain ⟨r13, M12, h14, h⟩ := bd2_ex h
    refine r_callV X (st := []) (av := [.int r2]) (k := 34) (ci := 6) (k_X7_refuse l N _ hnc _ _ _ _ h14 d (by omega)) (fitR_s (Nat.le_of_ble_eq_true rfl)) ⟨Nat.le_refl 0, Nat.le_refl 0⟩ rfl (ltn hnc rfl) rfl w_689 w_47 w_688 w_18 w_686 hy_X7_refuse rfl (Nat.le_of_ble_eq_true rfl) dX7_ring_17 ?_
    exact r_iretE X hr dX7_ring_20 h
def l_X6_most_3 (N : Nat)    : Nat → Mem → Int32 → Int32 → Option (Int32 × Mem)
  | 0, _, _, _ => none
  | n + 1, M, v1, v2 =>
    if v2 < (1 : Int32) then
      (some ((-9 : Int32), M))
    else
      (bd (f_X3_through N M v2 v1 (0 : Int32) (0 : Int32)) fun M2 =>
      if (M2.1 21 9) ≤ 0 then
        (l_X6_most_3 N n M2 v1 (v2 + (-1)))
      else
        (some (v2, M2)))
def f_X6_most (N : Nat) (M : Mem) (p0 : Int32) : Option (Int32 × Mem) :=
  l_X6_most_3 N N M p0 (6 : Int32)
set_option maxRecDepth 100000 in
set_option maxHeartbeats 4000000 in
theorem k_X6_most (l : Launch) (N : Nat) (nc : Nat) (hnc : 34 ≤ nc) (M : Mem) (p0 : Int32) (r : Int32) (M' : Mem) (h : f_X6_most N M p0 = some (r, M')) (d : Nat) (hd : 7 ≤ d) : Ct l d yX6_most cX6_most 3 (some .int) shp nc [.ref 0, .int p0] M (some (.int r)) M' := by
  obtain ⟨d, rfl⟩ : ∃ q, d = q + 1 := ⟨d - 1, by omega⟩
  unfold f_X6_most at h
  refine Ct.of (by decide +kernel) (Nat.le_of_ble_eq_true rfl) ?_
  intro p e s m args below meth c A ad D cI cJ X hr
  have hl3 : ∀ (n : Nat) (M : Mem) (v1 : Int32) (v2 : Int32), l_X6_most_3 N n M v1 v2 = some (r, M') → AW p l e (rmd (d + 1)) s m args below meth c 3 A ad D cI cJ shp nc 0 0 (MQ below (Qq A ad D cI cJ shp nc (some (.int r)) M') args s 0 0 A) M 3 [(0, .ref 0), (1, .int v1), (2, .int v2)] [] := by
    intro n
    induction n with
    | zero => intro M v1 v2 h; cases h
    | succ n ih =>
      intro M v1 v2 h
      rw [l_X6_most_3] at h
      refine r_iload_n X 2 dX6_most_3 rfl rfl ?_
      refine r_iconst X 1 dX6_most_4 rfl ?_
      refine r_iclt X 37 dX6_most_5 (by decide) (fun c1 => ?_) (fun c1 => ?_)
      · replace h := it_t c1 h
        refine r_bipush X (-9) dX6_most_37 rfl ?_
        exact r_iretE X hr dX6_most_39 h
      · replace h := it_f c1 h
        refine r_aload_n X 0 dX6_most_8 rfl rfl ?_
        refine r_getr X 5 21 in_X6 (ci := 5) rfl rfl (ltn hnc rfl) (Nat.le_of_ble_eq_true rfl) rfl w_245 dX6_most_9 (by decide) ?_
        refine r_iload_n X 2 dX6_most_12 rfl rfl ?_
        refine r_iload_n X 1 dX6_most_13 rfl rfl ?_
        refine r_iconst X 0 dX6_most_14 rfl ?_
        refine r_iconst X 0 dX6_most_15 rfl ?_
        obtain ⟨M2, h3, h⟩ := bd_ex h
        refine r_callV X (st := []) (av := [.int v2, .int v1, .int (0 : Int32), .int (0 : Int32)]) (k := 21) (ci := 2) (k_X3_through l N _ hnc _ _ _ _ _ _ h3 d (by omega)) (fitR_s (Nat.le_of_ble_eq_true rfl)) ⟨Nat.le_refl 0, Nat.le_refl 0⟩ rfl (ltn hnc rfl) rfl w_462 w_43 w_460 w_461 w_459 hy_X3_through rfl (Nat.le_of_ble_eq_true rfl) dX6_most_16 ?_
        refine r_aload_n X 0 dX6_most_19 rfl rfl ?_
        refine r_getr X 5 21 in_X6 (ci := 5) rfl rfl (ltn hnc rfl) (Nat.le_of_ble_eq_true rfl) rfl w_245 dX6_most_20 (by decide) ?_
        refine r_geti X 9 in_X3 (ci := 2) rfl rfl (ltn hnc rfl) (Nat.le_of_ble_eq_true rfl) rfl w_164 dX6_most_23 ?_
        refine r_ifle X 31 dX6_most_26 (by decide) (fun c4 => ?_) (fun c4 => ?_)
        · replace h := it_t c4 h
          refine r_iinc X [(2, .int (v2 + (-1))), (0, .ref 0), (1, .int v1)] 2 (v2 + (-1)) dX6_most_31 rfl rfl (Nat.le_of_ble_eq_true rfl) rfl ?_
          refine r_goto X 3 dX6_most_34 (by decide) ?_
          refine r_sub (ls' := [(0, .ref 0), (1, .int v1), (2, .int (v2 + (-1)))]) [1, 2, 0] rfl ?_
          exact ih M2 v1 (v2 + (-1)) h
        · replace h := it_f c4 h
          refine r_iload_n X 2 dX6_most_29 rfl rfl ?_
          exact r_iretE X hr dX6_most_30 h
  refine r_sub (ls' := [(0, .ref 0), (1, .int p0)]) [0, 1] rfl ?_
  refine r_bipush X 6 dX6_most_0 rfl ?_
  refine r_istore_n X [(2, .int (6 : Int32)), (0, .ref 0), (1, .int p0)] dX6_most_2 rfl (Nat.le_of_ble_eq_true rfl) rfl ?_
  refine r_sub (ls' := [(0, .ref 0), (1, .int p0), (2, .int (6 : Int32))]) [1, 2, 0] rfl ?_
  exact hl3  N M p0 (6 : Int32) h
