/-! Part 09: methods as pure functions (f_..), and their contracts (k_..) -/
def f_X6_touches (N : Nat) (M : Mem)  : Option (Int32 × Mem) :=
  bd (f_X5_follow N M 4 (M.1 1 3)) fun M1 =>
  bd2 (f_X5_firstTouch N M1 ) fun r4 M3 =>
  some (r4, M3)
set_option maxRecDepth 100000 in
set_option maxHeartbeats 4000000 in
theorem k_X6_touches (l : Launch) (N : Nat) (nc : Nat) (hnc : 34 ≤ nc) (M : Mem)  (r : Int32) (M' : Mem) (h : f_X6_touches N M  = some (r, M')) (d : Nat) (hd : 4 ≤ d) : Ct l d yX6_touches cX6_touches 1 (some .int) shp nc [.ref 0] M (some (.int r)) M' := by
  obtain ⟨d, rfl⟩ : ∃ q, d = q + 1 := ⟨d - 1, by omega⟩
  unfold f_X6_touches at h
  refine Ct.of (by decide +kernel) (Nat.le_of_ble_eq_true rfl) ?_
  intro p e s m args below meth c A ad D cI cJ X hr
  refine r_sub (ls' := [(0, .ref 0)]) [0] rfl ?_
  refine r_aload_n X 0 dX6_touches_0 rfl rfl ?_
  refine r_getr X 4 17 in_X6 (ci := 5) rfl rfl (ltn hnc rfl) (Nat.le_of_ble_eq_true rfl) rfl w_244 dX6_touches_1 (by decide) ?_
  refine r_aload_n X 0 dX6_touches_4 rfl rfl ?_
  refine r_getr X 0 1 in_X6 (ci := 5) rfl rfl (ltn hnc rfl) (Nat.le_of_ble_eq_true rfl) rfl w_240 dX6_touches_5 (by decide) ?_
  refine r_getr X 2 4 in_X0 (ci := 0) rfl rfl (ltn hnc rfl) (Nat.le_of_ble_eq_true rfl) rfl w_80 dX6_touches_8 (by decide) ?_
  refine r_aload_n X 0 dX6_touches_11 rfl rfl ?_
  refine r_getr X 0 1 in_X6 (ci := 5) rfl rfl (ltn hnc rfl) (Nat.le_of_ble_eq_true rfl) rfl w_240 dX6_touches_12 (by decide) ?_
  refine r_geti X 3 in_X0 (ci := 0) rfl rfl (ltn hnc rfl) (Nat.le_of_ble_eq_true rfl) rfl w_82 dX6_touches_15 ?_
  obtain ⟨M1, h2, h⟩ := bd_ex h
  refine r_callV X (st := []) (av := [.ref 4, .int (M.1 1 3)]) (k := 17) (ci := 4) (k_X5_follow l N _ hnc _ _ _ (Or.inl (ltn hnc rfl)) _ h2 d (by omega)) (fitR_s (Nat.le_of_ble_eq_true rfl)) ⟨Nat.le_refl 0, Nat.le_refl 0⟩ rfl (ltn hnc rfl) rfl w_335 w_42 w_333 w_334 w_332 hy_X5_follow rfl (Nat.le_of_ble_eq_true rfl) dX6_touches_18 ?_
  refine r_aload_n X 0 dX6_touches_21 rfl rfl ?_
  refine r_getr X 4 17 in_X6 (ci := 5) rfl rfl (ltn hnc rfl) (Nat.le_of_ble_eq_true rfl) rfl w_244 dX6_touches_22 (by decide) ?_
  obtain ⟨r4, M3, h5, h⟩ := bd2_ex h
  refine r_callV X (st := []) (av := []) (k := 17) (ci := 4) (k_X5_firstTouch l N _ hnc _  _ _ h5 d (by omega)) (fitR_s (Nat.le_of_ble_eq_true rfl)) ⟨Nat.le_refl 0, Nat.le_refl 0⟩ rfl (ltn hnc rfl) rfl w_445 w_42 w_443 w_444 w_442 hy_X5_firstTouch rfl (Nat.le_of_ble_eq_true rfl) dX6_touches_25 ?_
  exact r_iretE X hr dX6_touches_28 h
def f_X7_isCrossed (N : Nat) (M : Mem) (p0 : Int32) : Option (Int32 × Mem) :=
  if p0 ≤ 0 then
    (some ((0 : Int32), M))
  else
    (ck (inb (p0 - (1 : Int32)) 24) <|
    if (M.1 40 (ix (p0 - (1 : Int32)))) = (9 : Int32) then
      (some ((1 : Int32), M))
    else
      (some ((0 : Int32), M)))
set_option maxRecDepth 100000 in
set_option maxHeartbeats 4000000 in
theorem k_X7_isCrossed (l : Launch) (N : Nat) (nc : Nat) (hnc : 45 ≤ nc) (M : Mem) (p0 : Int32) (r : Int32) (M' : Mem) (h : f_X7_isCrossed N M p0 = some (r, M')) (d : Nat) (hd : 0 ≤ d) : Ct l d yX7_isCrossed cX7_isCrossed 2 (some .boolean) shp nc [.ref 34, .int p0] M (some (.int r)) M' := by
  unfold f_X7_isCrossed at h
  refine Ct.of (by decide +kernel) (Nat.le_of_ble_eq_true rfl) ?_
  intro p e s m args below meth c A ad D cI cJ X hr
  refine r_sub (ls' := [(0, .ref 34), (1, .int p0)]) [0, 1] rfl ?_
  refine r_iload_n X 1 dX7_isCrossed_0 rfl rfl ?_
  refine r_ifle X 21 dX7_isCrossed_1 (by decide) (fun c1 => ?_) (fun c1 => ?_)
  · replace h := it_t c1 h
    refine r_iconst X 0 dX7_isCrossed_21 rfl ?_
    exact r_zretE X hr rfl dX7_isCrossed_22 h
  · replace h := it_f c1 h
    refine r_aload_n X 0 dX7_isCrossed_4 rfl rfl ?_
    refine r_getr X 7 40 in_X7 (ci := 6) rfl rfl (ltn hnc rfl) (Nat.le_of_ble_eq_true rfl) rfl w_616 dX7_isCrossed_5 (by decide) ?_
    refine r_iload_n X 1 dX7_isCrossed_8 rfl rfl ?_
    refine r_iconst X 1 dX7_isCrossed_9 rfl ?_
    refine r_isub X dX7_isCrossed_10 ?_
    obtain ⟨c2, h⟩ := ck_ex h
    refine r_iald X (n := 24) rfl (Or.inl (ltn hnc rfl)) c2 dX7_isCrossed_11 ?_
    refine r_bipush X 9 dX7_isCrossed_12 rfl ?_
    refine r_icne X 21 dX7_isCrossed_14 (by decide) (fun c3 => ?_) (fun c3 => ?_)
    · replace h := it_f c3 h
      refine r_iconst X 0 dX7_isCrossed_21 rfl ?_
      exact r_zretE X hr rfl dX7_isCrossed_22 h
    · replace h := it_t c3 h
      refine r_iconst X 1 dX7_isCrossed_17 rfl ?_
      refine r_goto X 22 dX7_isCrossed_18 (by decide) ?_
      exact r_zretE X hr rfl dX7_isCrossed_22 h
def l_X7_touchOf_17 (N : Nat)  (K7 : Mem → Int32 → Int32 → Option (Int32 × Mem))  : Nat → Mem → Int32 → Int32 → Int32 → Option (Int32 × Mem)
  | 0, _, _, _, _ => none
  | n + 1, M, v1, v2, v3 =>
    if v2 ≤ v3 then
      (K7 M v1 (v2 + 1))
    else
      (bd2 (f_X7_isSame N M v3 v2) fun r7 M6 =>
      if r7 = 0 then
        (l_X7_touchOf_17 N K7 n M6 v1 v2 (v3 + 1))
      else
        (if v1 = 0 then
          (bd2 (f_X7_isCrossed N M6 v3) fun r12 M11 =>
          if r12 = 0 then
            (some (v2, M11))
          else
            (bd2 (f_X7_isCrossed N M11 v2) fun r16 M15 =>
            if r16 = 0 then
              (some (v2, M15))
            else
              (l_X7_touchOf_17 N K7 n M15 v1 v2 (v3 + 1))))
        else
          (if v3 = 0 then
            (if v2 = (M6.1 34 8) then
              (l_X7_touchOf_17 N K7 n M6 v1 v2 (v3 + 1))
            else
              (bd2 (f_X7_isCrossed N M6 v3) fun r30 M29 =>
              if r30 = 0 then
                (some (v2, M29))
              else
                (bd2 (f_X7_isCrossed N M29 v2) fun r34 M33 =>
                if r34 = 0 then
                  (some (v2, M33))
                else
                  (l_X7_touchOf_17 N K7 n M33 v1 v2 (v3 + 1)))))
          else
            (bd2 (f_X7_isCrossed N M6 v3) fun r21 M20 =>
            if r21 = 0 then
              (some (v2, M20))
            else
              (bd2 (f_X7_isCrossed N M20 v2) fun r25 M24 =>
              if r25 = 0 then
                (some (v2, M24))
              else
                (l_X7_touchOf_17 N K7 n M24 v1 v2 (v3 + 1)))))))
def l_X7_touchOf_7 (N : Nat)    : Nat → Mem → Int32 → Int32 → Option (Int32 × Mem)
  | 0, _, _, _ => none
  | n + 1, M, v1, v2 =>
    if (M.1 34 8) < v2 then
      (some ((-9 : Int32), M))
    else
      (l_X7_touchOf_17 N (l_X7_touchOf_7 N n) N M v1 v2 (0 : Int32))
def f_X7_touchOf (N : Nat) (M : Mem)  : Option (Int32 × Mem) :=
  bd2 (f_X7_isClosed N M ) fun r2 M1 =>
  l_X7_touchOf_7 N N M1 r2 (1 : Int32)
set_option maxRecDepth 100000 in
set_option maxHeartbeats 4000000 in
theorem k_X7_touchOf (l : Launch) (N : Nat) (nc : Nat) (hnc : 45 ≤ nc) (M : Mem)  (r : Int32) (M' : Mem) (h : f_X7_touchOf N M  = some (r, M')) (d : Nat) (hd : 2 ≤ d) : Ct l d yX7_touchOf cX7_touchOf 4 (some .int) shp nc [.ref 34] M (some (.int r)) M' := by
  obtain ⟨d, rfl⟩ : ∃ q, d = q + 1 := ⟨d - 1, by omega⟩
  unfold f_X7_touchOf at h
  refine Ct.of (by decide +kernel) (Nat.le_of_ble_eq_true rfl) ?_
  intro p e s m args below meth c A ad D cI cJ X hr
  have hl17 : ∀ (K7 : Mem → Int32 → Int32 → Option (Int32 × Mem)), (∀ (M : Mem) (v1 : Int32) (v2 : Int32), K7 M v1 v2 = some (r, M') → AW p l e (rmd (d + 1)) s m args below meth c 4 A ad D cI cJ shp nc 0 0 (MQ below (Qq A ad D cI cJ shp nc (some (.int r)) M') args s 0 0 A) M 7 [(0, .ref 34), (1, .int v1), (2, .int v2)] []) → ∀ (n : Nat) (M : Mem) (v1 : Int32) (v2 : Int32) (v3 : Int32), l_X7_touchOf_17 N K7 n M v1 v2 v3 = some (r, M') → AW p l e (rmd (d + 1)) s m args below meth c 4 A ad D cI cJ shp nc 0 0 (MQ below (Qq A ad D cI cJ shp nc (some (.int r)) M') args s 0 0 A) M 17 [(0, .ref 34), (1, .int v1), (2, .int v2), (3, .int v3)] [] := by
    intro K7 hK7
    intro n
    induction n with
    | zero => intro M v1 v2 v3 h; cases h
    | succ n ih =>
      intro M v1 v2 v3 h
      rw [l_X7_touchOf_17] at h
      refine r_iload_n X 3 dX7_touchOf_17 rfl rfl ?_
      refine r_iload_n X 2 dX7_touchOf_18 rfl rfl ?_
      refine r_icge X 74 dX7_touchOf_19 (by decide) (fun c5 => ?_) (fun c5 => ?_)
      · replace h := it_t c5 h
        refine r_iinc X [(2, .int (v2 + 1)), (0, .ref 34), (1, .int v1), (3, .int v3)] 2 (v2 + 1) dX7_touchOf_74 rfl rfl (Nat.le_of_ble_eq_true rfl) rfl ?_
        refine r_goto X 7 dX7_touchOf_77 (by decide) ?_
        refine r_sub (ls' := [(0, .ref 34), (1, .int v1), (2, .int (v2 + 1))]) [1, 2, 0] rfl ?_
        exact hK7 M v1 (v2 + 1) h
      · replace h := it_f c5 h
        refine r_aload_n X 0 dX7_touchOf_22 rfl rfl ?_
        refine r_iload_n X 3 dX7_touchOf_23 rfl rfl ?_
        refine r_iload_n X 2 dX7_touchOf_24 rfl rfl ?_
        obtain ⟨r7, M6, h8, h⟩ := bd2_ex h
        refine r_callV X (st := []) (av := [.int v3, .int v2]) (k := 34) (ci := 6) (k_X7_isSame l N _ hnc _ _ _ _ _ h8 d (by omega)) (fitR_s (Nat.le_of_ble_eq_true rfl)) ⟨Nat.le_refl 0, Nat.le_refl 0⟩ rfl (ltn hnc rfl) rfl w_754 w_47 w_753 w_24 w_751 hy_X7_isSame rfl (Nat.le_of_ble_eq_true rfl) dX7_touchOf_25 ?_
        refine r_ifeq X 68 dX7_touchOf_28 (by decide) (fun c9 => ?_) (fun c9 => ?_)
        · replace h := it_t c9 h
          refine r_iinc X [(3, .int (v3 + 1)), (0, .ref 34), (1, .int v1), (2, .int v2)] 3 (v3 + 1) dX7_touchOf_68 rfl rfl (Nat.le_of_ble_eq_true rfl) rfl ?_
          refine r_goto X 17 dX7_touchOf_71 (by decide) ?_
          refine r_sub (ls' := [(0, .ref 34), (1, .int v1), (2, .int v2), (3, .int (v3 + 1))]) [1, 2, 3, 0] rfl ?_
          exact ih M6 v1 v2 (v3 + 1) h
        · replace h := it_f c9 h
          refine r_iload_n X 1 dX7_touchOf_31 rfl rfl ?_
          refine r_ifeq X 47 dX7_touchOf_32 (by decide) (fun c10 => ?_) (fun c10 => ?_)
          · replace h := it_t c10 h
            refine r_aload_n X 0 dX7_touchOf_47 rfl rfl ?_
            refine r_iload_n X 3 dX7_touchOf_48 rfl rfl ?_
            obtain ⟨r12, M11, h13, h⟩ := bd2_ex h
            refine r_callV X (st := []) (av := [.int v3]) (k := 34) (ci := 6) (k_X7_isCrossed l N _ hnc _ _ _ _ h13 d (by omega)) (fitR_s (Nat.le_of_ble_eq_true rfl)) ⟨Nat.le_refl 0, Nat.le_refl 0⟩ rfl (ltn hnc rfl) rfl w_815 w_47 w_814 w_29 w_812 hy_X7_isCrossed rfl (Nat.le_of_ble_eq_true rfl) dX7_touchOf_49 ?_
            refine r_ifeq X 66 dX7_touchOf_52 (by decide) (fun c14 => ?_) (fun c14 => ?_)
            · replace h := it_t c14 h
              refine r_iload_n X 2 dX7_touchOf_66 rfl rfl ?_
              exact r_iretE X hr dX7_touchOf_67 h
            · replace h := it_f c14 h
              refine r_aload_n X 0 dX7_touchOf_55 rfl rfl ?_
              refine r_iload_n X 2 dX7_touchOf_56 rfl rfl ?_
              obtain ⟨r16, M15, h17, h⟩ := bd2_ex h
              refine r_callV X (st := []) (av := [.int v2]) (k := 34) (ci := 6) (k_X7_isCrossed l N _ hnc _ _ _ _ h17 d (by omega)) (fitR_s (Nat.le_of_ble_eq_true rfl)) ⟨Nat.le_refl 0, Nat.le_refl 0⟩ rfl (ltn hnc rfl) rfl w_815 w_47 w_814 w_29 w_812 hy_X7_isCrossed rfl (Nat.le_of_ble_eq_true rfl) dX7_touchOf_57 ?_
              refine r_ifeq X 66 dX7_touchOf_60 (by decide) (fun c18 => ?_) (fun c18 => ?_)
              · replace h := it_t c18 h
                refine r_iload_n X 2 dX7_touchOf_66 rfl rfl ?_
                exact r_iretE X hr dX7_touchOf_67 h
              · replace h := it_f c18 h
                refine r_goto X 68 dX7_touchOf_63 (by decide) ?_
                refine r_iinc X [(3, .int (v3 + 1)), (0, .ref 34), (1, .int v1), (2, .int v2)] 3 (v3 + 1) dX7_touchOf_68 rfl rfl (Nat.le_of_ble_eq_true rfl) rfl ?_
                refine r_goto X 17 dX7_touchOf_71 (by decide) ?_
                refine r_sub (ls' := [(0, .ref 34), (1, .int v1), (2, .int v2), (3, .int (v3 + 1))]) [1, 2, 3, 0] rfl ?_
                exact ih M15 v1 v2 (v3 + 1) h
          · replace h := it_f c10 h
            refine r_iload_n X 3 dX7_touchOf_35 rfl rfl ?_
            refine r_ifne X 47 dX7_touchOf_36 (by decide) (fun c19 => ?_) (fun c19 => ?_)
            · replace h := it_f c19 h
              refine r_aload_n X 0 dX7_touchOf_47 rfl rfl ?_
              refine r_iload_n X 3 dX7_touchOf_48 rfl rfl ?_
              obtain ⟨r21, M20, h22, h⟩ := bd2_ex h
              refine r_callV X (st := []) (av := [.int v3]) (k := 34) (ci := 6) (k_X7_isCrossed l N _ hnc _ _ _ _ h22 d (by omega)) (fitR_s (Nat.le_of_ble_eq_true rfl)) ⟨Nat.le_refl 0, Nat.le_refl 0⟩ rfl (ltn hnc rfl) rfl w_815 w_47 w_814 w_29 w_812 hy_X7_isCrossed rfl (Nat.le_of_ble_eq_true rfl) dX7_touchOf_49 ?_
              refine r_ifeq X 66 dX7_touchOf_52 (by decide) (fun c23 => ?_) (fun c23 => ?_)
              · replace h := it_t c23 h
                refine r_iload_n X 2 dX7_touchOf_66 rfl rfl ?_
                exact r_iretE X hr dX7_touchOf_67 h
              · replace h := it_f c23 h
                refine r_aload_n X 0 dX7_touchOf_55 rfl rfl ?_
                refine r_iload_n X 2 dX7_touchOf_56 rfl rfl ?_
                obtain ⟨r25, M24, h26, h⟩ := bd2_ex h
                refine r_callV X (st := []) (av := [.int v2]) (k := 34) (ci := 6) (k_X7_isCrossed l N _ hnc _ _ _ _ h26 d (by omega)) (fitR_s (Nat.le_of_ble_eq_true rfl)) ⟨Nat.le_refl 0, Nat.le_refl 0⟩ rfl (ltn hnc rfl) rfl w_815 w_47 w_814 w_29 w_812 hy_X7_isCrossed rfl (Nat.le_of_ble_eq_true rfl) dX7_touchOf_57 ?_
                refine r_ifeq X 66 dX7_touchOf_60 (by decide) (fun c27 => ?_) (fun c27 => ?_)
                · replace h := it_t c27 h
                  refine r_iload_n X 2 dX7_touchOf_66 rfl rfl ?_
                  exact r_iretE X hr dX7_touchOf_67 h
                · replace h := it_f c27 h
                  refine r_goto X 68 dX7_touchOf_63 (by decide) ?_
                  refine r_iinc X [(3, .int (v3 + 1)), (0, .ref 34), (1, .int v1), (2, .int v2)] 3 (v3 + 1) dX7_touchOf_68 rfl rfl (Nat.le_of_ble_eq_true rfl) rfl ?_
                  refine r_goto X 17 dX7_touchOf_71 (by decide) ?_
                  refine r_sub (ls' := [(0, .ref 34), (1, .int v1), (2, .int v2), (3, .int (v3 + 1))]) [1, 2, 3, 0] rfl ?_
                  exact ih M24 v1 v2 (v3 + 1) h
            · replace h := it_t c19 h
              refine r_iload_n X 2 dX7_touchOf_39 rfl rfl ?_
              refine r_aload_n X 0 dX7_touchOf_40 rfl rfl ?_
              refine r_geti X 8 in_X7 (ci := 6) rfl rfl (ltn hnc rfl) (Nat.le_of_ble_eq_true rfl) rfl w_617 dX7_touchOf_41 ?_
              refine r_iceq X 68 dX7_touchOf_44 (by decide) (fun c28 => ?_) (fun c28 => ?_)
              · replace h := it_t c28 h
                refine r_iinc X [(3, .int (v3 + 1)), (0, .ref 34), (1, .int v1), (2, .int v2)] 3 (v3 + 1) dX7_touchOf_68 rfl rfl (Nat.le_of_ble_eq_true rfl) rfl ?_
                refine r_goto X 17 dX7_touchOf_71 (by decide) ?_
                refine r_sub (ls' := [(0, .ref 34), (1, .int v1), (2, .int v2), (3, .int (v3 + 1))]) [1, 2, 3, 0] rfl ?_
                exact ih M6 v1 v2 (v3 + 1) h
              · replace h := it_f c28 h
                refine r_aload_n X 0 dX7_touchOf_47 rfl rfl ?_
                refine r_iload_n X 3 dX7_touchOf_48 rfl rfl ?_
                obtain ⟨r30, M29, h31, h⟩ := bd2_ex h
                refine r_callV X (st := []) (av := [.int v3]) (k := 34) (ci := 6) (k_X7_isCrossed l N _ hnc _ _ _ _ h31 d (by omega)) (fitR_s (Nat.le_of_ble_eq_true rfl)) ⟨Nat.le_refl 0, Nat.le_refl 0⟩ rfl (ltn hnc rfl) rfl w_815 w_47 w_814 w_29 w_812 hy_X7_isCrossed rfl (Nat.le_of_ble_eq_true rfl) dX7_touchOf_49 ?_
                refine r_ifeq X 66 dX7_touchOf_52 (by decide) (fun c32 => ?_) (fun c32 => ?_)
                · replace h := it_t c32 h
                  refine r_iload_n X 2 dX7_touchOf_66 rfl rfl ?_
                  exact r_iretE X hr dX7_touchOf_67 h
                · replace h := it_f c32 h
                  refine r_aload_n X 0 dX7_touchOf_55 rfl rfl ?_
                  refine r_iload_n X 2 dX7_touchOf_56 rfl rfl ?_
                  obtain ⟨r34, M33, h35, h⟩ := bd2_ex h
                  refine r_callV X (st := []) (av := [.int v2]) (k := 34) (ci := 6) (k_X7_isCrossed l N _ hnc _ _ _ _ h35 d (by omega)) (fitR_s (Nat.le_of_ble_eq_true rfl)) ⟨Nat.le_refl 0, Nat.le_refl 0⟩ rfl (ltn hnc rfl) rfl w_815 w_47 w_814 w_29 w_812 hy_X7_isCrossed rfl (Nat.le_of_ble_eq_true rfl) dX7_touchOf_57 ?_
                  refine r_ifeq X 66 dX7_touchOf_60 (by decide) (fun c36 => ?_) (fun c36 => ?_)
                  · replace h := it_t c36 h
                    refine r_iload_n X 2 dX7_touchOf_66 rfl rfl ?_
                    exact r_iretE X hr dX7_touchOf_67 h
                  · replace h := it_f c36 h
                    refine r_goto X 68 dX7_touchOf_63 (by decide) ?_
                    refine r_iinc X [(3, .int (v3 + 1)), (0, .ref 34), (1, .int v1), (2, .int v2)] 3 (v3 + 1) dX7_touchOf_68 rfl rfl (Nat.le_of_ble_eq_true rfl) rfl ?_
                    refine r_goto X 17 dX7_touchOf_71 (by decide) ?_
                    refine r_sub (ls' := [(0, .ref 34), (1, .int v1), (2, .int v2), (3, .int (v3 + 1))]) [1, 2, 3, 0] rfl ?_
                    exact ih M33 v1 v2 (v3 + 1) h
  have hl7 : ∀ (n : Nat) (M : Mem) (v1 : Int32) (v2 : Int32), l_X7_touchOf_7 N n M v1 v2 = some (r, M') → AW p l e (rmd (d + 1)) s m args below meth c 4 A ad D cI cJ shp nc 0 0 (MQ below (Qq A ad D cI cJ shp nc (some (.int r)) M') args s 0 0 A) M 7 [(0, .ref 34), (1, .int v1), (2, .int v2)] [] := by
    intro n
    induction n with
    | zero => intro M v1 v2 h; cases h
    | succ n ih =>
      intro M v1 v2 h
      rw [l_X7_touchOf_7] at h
      refine r_iload_n X 2 dX7_touchOf_7 rfl rfl ?_
      refine r_aload_n X 0 dX7_touchOf_8 rfl rfl ?_
      refine r_geti X 8 in_X7 (ci := 6) rfl rfl (ltn hnc rfl) (Nat.le_of_ble_eq_true rfl) rfl w_617 dX7_touchOf_9 ?_
      refine r_icgt X 80 dX7_touchOf_12 (by decide) (fun c4 => ?_) (fun c4 => ?_)
      · replace h := it_t c4 h
        refine r_bipush X (-9) dX7_touchOf_80 rfl ?_
        exact r_iretE X hr dX7_touchOf_82 h
      · replace h := it_f c4 h
        refine r_iconst X 0 dX7_touchOf_15 rfl ?_
        refine r_istore_n X [(3, .int (0 : Int32)), (0, .ref 34), (1, .int v1), (2, .int v2)] dX7_touchOf_16 rfl (Nat.le_of_ble_eq_true rfl) rfl ?_
        refine r_sub (ls' := [(0, .ref 34), (1, .int v1), (2, .int v2), (3, .int (0 : Int32))]) [1, 2, 3, 0] rfl ?_
        exact hl17 _ ih N M v1 v2 (0 : Int32) h
  refine r_sub (ls' := [(0, .ref 34)]) [0] rfl ?_
  refine r_aload_n X 0 dX7_touchOf_0 rfl rfl ?_
  obtain ⟨r2, M1, h3, h⟩ := bd2_ex h
  refine r_callV X (st := []) (av := []) (k := 34) (ci := 6) (k_X7_isClosed l N _ hnc _  _ _ h3 d (by omega)) (fitR_s (Nat.le_of_ble_eq_true rfl)) ⟨Nat.le_refl 0, Nat.le_refl 0⟩ rfl (ltn hnc rfl) rfl w_750 w_47 w_749 w_23 w_747 hy_X7_isClosed rfl (Nat.le_of_ble_eq_true rfl) dX7_touchOf_1 ?_
  refine r_istore_n X [(1, .int r2), (0, .ref 34)] dX7_touchOf_4 rfl (Nat.le_of_ble_eq_true rfl) rfl ?_
  refine r_iconst X 1 dX7_touchOf_5 rfl ?_
  refine r_istore_n X [(2, .int (1 : Int32)), (1, .int r2), (0, .ref 34)] dX7_touchOf_6 rfl (Nat.le_of_ble_eq_true rfl) rfl ?_
  refine r_sub (ls' := [(0, .ref 34), (1, .int r2), (2, .int (1 : Int32))]) [2, 1, 0] rfl ?_
  exact hl7  N M1 r2 (1 : Int32) h
def f_X7_touches (N : Nat) (M : Mem)  : Option (Int32 × Mem) :=
  bd (f_X7_takes N M ) fun M1 =>
  bd2 (f_X7_touchOf N M1 ) fun r4 M3 =>
  some (r4, M3)
set_option maxRecDepth 100000 in
set_option maxHeartbeats 4000000 in
theorem k_X7_touches (l : Launch) (N : Nat) (nc : Nat) (hnc : 45 ≤ nc) (M : Mem)  (r : Int32) (M' : Mem) (h : f_X7_touches N M  = some (r, M')) (d : Nat) (hd : 4 ≤ d) : Ct l d yX7_touches cX7_touches 1 (some .int) shp nc [.ref 34] M (some (.int r)) M' := by
  obtain ⟨d, rfl⟩ : ∃ q, d = q + 1 := ⟨d - 1, by omega⟩
  unfold f_X7_touches at h
  refine Ct.of (by decide +kernel) (Nat.le_of_ble_eq_true rfl) ?_
  intro p e s m args below meth c A ad D cI cJ X hr
  refine r_sub (ls' := [(0, .ref 34)]) [0] rfl ?_
  refine r_aload_n X 0 dX7_touches_0 rfl rfl ?_
  obtain ⟨M1, h2, h⟩ := bd_ex h
  refine r_callV X (st := []) (av := []) (k := 34) (ci := 6) (k_X7_takes l N _ hnc _  _ h2 d (by omega)) (fitR_s (Nat.le_of_ble_eq_true rfl)) ⟨Nat.le_refl 0, Nat.le_refl 0⟩ rfl (ltn hnc rfl) rfl w_724 w_47 w_723 w_19 w_721 hy_X7_takes rfl (Nat.le_of_ble_eq_true rfl) dX7_touches_1 ?_
  refine r_aload_n X 0 dX7_touches_4 rfl rfl ?_
  obtain ⟨r4, M3, h5, h⟩ := bd2_ex h
  refine r_callV X (st := []) (av := []) (k := 34) (ci := 6) (k_X7_touchOf l N _ hnc _  _ _ h5 d (by omega)) (fitR_s (Nat.le_of_ble_eq_true rfl)) ⟨Nat.le_refl 0, Nat.le_refl 0⟩ rfl (ltn hnc rfl) rfl w_811 w_47 w_810 w_28 w_808 hy_X7_touchOf rfl (Nat.le_of_ble_eq_true rfl) dX7_touches_5 ?_
  exact r_iretE X hr dX7_touches_8 h
def f_X6_lies (N : Nat) (M : Mem)  : Option (Int32 × Mem) :=
  bd (f_X5_follow N M 4 (M.1 1 3)) fun M1 =>
  bd2 (f_X0_firstOff N M1 ) fun r4 M3 =>
  if r4 = (-9 : Int32) then
    (bd2 (f_X5_firstTouch N M3 ) fun r11 M10 =>
    if r11 = (-9 : Int32) then
      (bd2 (f_X6_yes N M10 (1 : Int32)) fun r18 M17 =>
      some (r18, M17))
    else
      (bd2 (f_X6_yes N M10 (0 : Int32)) fun r15 M14 =>
      some (r15, M14)))
  else
    (bd2 (f_X6_yes N M3 (0 : Int32)) fun r8 M7 =>
    some (r8, M7))
set_option maxRecDepth 100000 in
set_option maxHeartbeats 4000000 in
theorem k_X6_lies (l : Launch) (N : Nat) (nc : Nat) (hnc : 34 ≤ nc) (M : Mem)  (r : Int32) (M' : Mem) (h : f_X6_lies N M  = some (r, M')) (d : Nat) (hd : 4 ≤ d) : Ct l d yX6_lies cX6_lies 1 (some .int) shp nc [.ref 0] M (some (.int r)) M' := by
  obtain ⟨d, rfl⟩ : ∃ q, d = q + 1 := ⟨d - 1, by omega⟩
  unfold f_X6_lies at h
  refine Ct.of (by decide +kernel) (Nat.le_of_ble_eq_true rfl) ?_
  intro p e s m args below meth c A ad D cI cJ X hr
  refine r_sub (ls' := [(0, .ref 0)]) [0] rfl ?_
  refine r_aload_n X 0 dX6_lies_0 rfl rfl ?_
  refine r_getr X 4 17 in_X6 (ci := 5) rfl rfl (ltn hnc rfl) (Nat.le_of_ble_eq_true rfl) rfl w_244 dX6_lies_1 (by decide) ?_
  refine r_aload_n X 0 dX6_lies_4 rfl rfl ?_
  refine r_getr X 0 1 in_X6 (ci := 5) rfl rfl (ltn hnc rfl) (Nat.le_of_ble_eq_true rfl) rfl w_240 dX6_lies_5 (by decide) ?_
  refine r_getr X 2 4 in_X0 (ci := 0) rfl rfl (ltn hnc rfl) (Nat.le_of_ble_eq_true rfl) rfl w_80 dX6_lies_8 (by decide) ?_
  refine r_aload_n X 0 dX6_lies_11 rfl rfl ?_
  refine r_getr X 0 1 in_X6 (ci := 5) rfl rfl (ltn hnc rfl) (Nat.le_of_ble_eq_true rfl) rfl w_240 dX6_lies_12 (by decide) ?_
  refine r_geti X 3 in_X0 (ci := 0) rfl rfl (ltn hnc rfl) (Nat.le_of_ble_eq_true rfl) rfl w_82 dX6_lies_15 ?_
  obtain ⟨M1, h2, h⟩ := bd_ex h
  refine r_callV X (st := []) (av := [.ref 4, .int (M.1 1 3)]) (k := 17) (ci := 4) (k_X5_follow l N _ hnc _ _ _ (Or.inl (ltn hnc rfl)) _ h2 d (by omega)) (fitR_s (Nat.le_of_ble_eq_true rfl)) ⟨Nat.le_refl 0, Nat.le_refl 0⟩ rfl (ltn hnc rfl) rfl w_335 w_42 w_333 w_334 w_332 hy_X5_follow rfl (Nat.le_of_ble_eq_true rfl) dX6_lies_18 ?_
  refine r_aload_n X 0 dX6_lies_21 rfl rfl ?_
  refine r_getr X 0 1 in_X6 (ci := 5) rfl rfl (ltn hnc rfl) (Nat.le_of_ble_eq_true rfl) rfl w_240 dX6_lies_22 (by decide) ?_
  refine r_aload_n X 0 dX6_lies_25 rfl rfl ?_
  refine r_getr X 4 17 in_X6 (ci := 5) rfl rfl (ltn hnc rfl) (Nat.le_of_ble_eq_true rfl) rfl w_244 dX6_lies_26 (by decide) ?_
  obtain ⟨r4, M3, h5, h⟩ := bd2_ex h
  refine r_callV X (st := []) (av := [.ref 17]) (k := 1) (ci := 0) (k_X0_firstOff l N _ hnc _  _ _ h5 d (by omega)) (fitR_s (Nat.le_of_ble_eq_true rfl)) ⟨Nat.le_refl 0, Nat.le_refl 0⟩ rfl (ltn hnc rfl) rfl w_425 w_40 w_423 w_424 w_422 hy_X0_firstOff rfl (Nat.le_of_ble_eq_true rfl) dX6_lies_29 ?_
  refine r_bipush X (-9) dX6_lies_32 rfl ?_
  refine r_icne X 53 dX6_lies_34 (by decide) (fun c6 => ?_) (fun c6 => ?_)
  · replace h := it_f c6 h
    refine r_iconst X 0 dX6_lies_53 rfl ?_
    obtain ⟨r8, M7, h9, h⟩ := bd2_ex h
    refine r_callS X (st := []) (av := [.int (0 : Int32)]) (k_X6_yes l N _ hnc _ _ _ _ h9 d (by omega)) (fitR_s (Nat.le_of_ble_eq_true rfl)) ⟨Nat.le_refl 0, Nat.le_refl 0⟩ w_368 w_39 w_367 w_366 hy_X6_yes rfl (Nat.le_of_ble_eq_true rfl) dX6_lies_54 ?_
    exact r_iretE X hr dX6_lies_57 h
  · replace h := it_t c6 h
    refine r_aload_n X 0 dX6_lies_37 rfl rfl ?_
    refine r_getr X 4 17 in_X6 (ci := 5) rfl rfl (ltn hnc rfl) (Nat.le_of_ble_eq_true rfl) rfl w_244 dX6_lies_38 (by decide) ?_
    obtain ⟨r11, M10, h12, h⟩ := bd2_ex h
    refine r_callV X (st := []) (av := []) (k := 17) (ci := 4) (k_X5_firstTouch l N _ hnc _  _ _ h12 d (by omega)) (fitR_s (Nat.le_of_ble_eq_true rfl)) ⟨Nat.le_refl 0, Nat.le_refl 0⟩ rfl (ltn hnc rfl) rfl w_445 w_42 w_443 w_444 w_442 hy_X5_firstTouch rfl (Nat.le_of_ble_eq_true rfl) dX6_lies_41 ?_
    refine r_bipush X (-9) dX6_lies_44 rfl ?_
    refine r_icne X 53 dX6_lies_46 (by decide) (fun c13 => ?_) (fun c13 => ?_)
    · replace h := it_f c13 h
      refine r_iconst X 0 dX6_lies_53 rfl ?_
      obtain ⟨r15, M14, h16, h⟩ := bd2_ex h
      refine r_callS X (st := []) (av := [.int (0 : Int32)]) (k_X6_yes l N _ hnc _ _ _ _ h16 d (by omega)) (fitR_s (Nat.le_of_ble_eq_true rfl)) ⟨Nat.le_refl 0, Nat.le_refl 0⟩ w_368 w_39 w_367 w_366 hy_X6_yes rfl (Nat.le_of_ble_eq_true rfl) dX6_lies_54 ?_
      exact r_iretE X hr dX6_lies_57 h
    · replace h := it_t c13 h
      refine r_iconst X 1 dX6_lies_49 rfl ?_
      refine r_goto X 54 dX6_lies_50 (by decide) ?_
      obtain ⟨r18, M17, h19, h⟩ := bd2_ex h
      refine r_callS X (st := []) (av := [.int (1 : Int32)]) (k_X6_yes l N _ hnc _ _ _ _ h19 d (by omega)) (fitR_s (Nat.le_of_ble_eq_true rfl)) ⟨Nat.le_refl 0, Nat.le_refl 0⟩ w_368 w_39 w_367 w_366 hy_X6_yes rfl (Nat.le_of_ble_eq_true rfl) dX6_lies_54 ?_
      exact r_iretE X hr dX6_lies_57 h
def f_X7_isLying (N : Nat) (M : Mem)  : Option (Int32 × Mem) :=
  bd2 (f_X7_offOf N M ) fun r2 M1 =>
  if r2 = (-9 : Int32) then
    (bd2 (f_X7_touchOf N M1 ) fun r6 M5 =>
    if r6 = (-9 : Int32) then
      (some ((1 : Int32), M5))
    else
      (some ((0 : Int32), M5)))
  else
    (some ((0 : Int32), M1))
set_option maxRecDepth 100000 in
set_option maxHeartbeats 4000000 in
theorem k_X7_isLying (l : Launch) (N : Nat) (nc : Nat) (hnc : 45 ≤ nc) (M : Mem)  (r : Int32) (M' : Mem) (h : f_X7_isLying N M  = some (r, M')) (d : Nat) (hd : 3 ≤ d) : Ct l d yX7_isLying cX7_isLying 1 (some .boolean) shp nc [.ref 34] M (some (.int r)) M' := by
  obtain ⟨d, rfl⟩ : ∃ q, d = q + 1 := ⟨d - 1, by omega⟩
  unfold f_X7_isLying at h
  refine Ct.of (by decide +kernel) (Nat.le_of_ble_eq_true rfl) ?_
  intro p e s m args below meth c A ad D cI cJ X hr
  refine r_sub (ls' := [(0, .ref 34)]) [0] rfl ?_
  refine r_aload_n X 0 dX7_isLying_0 rfl rfl ?_
  obtain ⟨r2, M1, h3, h⟩ := bd2_ex h
  refine r_callV X (st := []) (av := []) (k := 34) (ci := 6) (k_X7_offOf l N _ hnc _  _ _ h3 d (by omega)) (fitR_s (Nat.le_of_ble_eq_true rfl)) ⟨Nat.le_refl 0, Nat.le_refl 0⟩ rfl (ltn hnc rfl) rfl w_799 w_47 w_798 w_26 w_796 hy_X7_offOf rfl (Nat.le_of_ble_eq_true rfl) dX7_isLying_1 ?_
  refine r_bipush X (-9) dX7_isLying_4 rfl ?_
  refine r_icne X 22 dX7_isLying_6 (by decide) (fun c4 => ?_) (fun c4 => ?_)
  · replace h := it_f c4 h
    refine r_iconst X 0 dX7_isLying_22 rfl ?_
    exact r_zretE X hr rfl dX7_isLying_23 h
  · replace h := it_t c4 h
    refine r_aload_n X 0 dX7_isLying_9 rfl rfl ?_
    obtain ⟨r6, M5, h7, h⟩ := bd2_ex h
    refine r_callV X (st := []) (av := []) (k := 34) (ci := 6) (k_X7_touchOf l N _ hnc _  _ _ h7 d (by omega)) (fitR_s (Nat.le_of_ble_eq_true rfl)) ⟨Nat.le_refl 0, Nat.le_refl 0⟩ rfl (ltn hnc rfl) rfl w_811 w_47 w_810 w_28 w_808 hy_X7_touchOf rfl (Nat.le_of_ble_eq_true rfl) dX7_isLying_10 ?_
    refine r_bipush X (-9) dX7_isLying_13 rfl ?_
    refine r_icne X 22 dX7_isLying_15 (by decide) (fun c8 => ?_) (fun c8 => ?_)
    · replace h := it_f c8 h
      refine r_iconst X 0 dX7_isLying_22 rfl ?_
      exact r_zretE X hr rfl dX7_isLying_23 h
    · replace h := it_t c8 h
      refine r_iconst X 1 dX7_isLying_18 rfl ?_
      refine r_goto X 23 dX7_isLying_19 (by decide) ?_
      exact r_zretE X hr rfl dX7_isLying_23 h
def f_X7_lies (N : Nat) (M : Mem)  : Option (Int32 × Mem) :=
  bd (f_X7_takes N M ) fun M1 =>
  bd2 (f_X7_isLying N M1 ) fun r4 M3 =>
  if r4 = 0 then
    (some ((0 : Int32), M3))
  else
    (some ((1 : Int32), M3))
set_option maxRecDepth 100000 in
set_option maxHeartbeats 4000000 in
theorem k_X7_lies (l : Launch) (N : Nat) (nc : Nat) (hnc : 45 ≤ nc) (M : Mem)  (r : Int32) (M' : Mem) (h : f_X7_lies N M  = some (r, M')) (d : Nat) (hd : 4 ≤ d) : Ct l d yX7_lies cX7_lies 1 (some .int) shp nc [.ref 34] M (some (.int r)) M' := by
  obtain ⟨d, rfl⟩ : ∃ q, d = q + 1 := ⟨d - 1, by omega⟩
  unfold f_X7_lies at h
  refine Ct.of (by decide +kernel) (Nat.le_of_ble_eq_true rfl) ?_
  intro p e s m args below meth c A ad D cI cJ X hr
  refine r_sub (ls' := [(0, .ref 34)]) [0] rfl ?_
  refine r_aload_n X 0 dX7_lies_0 rfl rfl ?_
  obtain ⟨M1, h2, h⟩ := bd_ex h
  refine r_callV X (st := []) (av := []) (k := 34) (ci := 6) (k_X7_takes l N _ hnc _  _ h2 d (by omega)) (fitR_s (Nat.le_of_ble_eq_true rfl)) ⟨Nat.le_refl 0, Nat.le_refl 0⟩ rfl (ltn hnc rfl) rfl w_724 w_47 w_723 w_19 w_721 hy_X7_takes rfl (Nat.le_of_ble_eq_true rfl) dX7_lies_1 ?_
  refine r_aload_n X 0 dX7_lies_4 rfl rfl ?_
  obtain ⟨r4, M3, h5, h⟩ := bd2_ex h
  refine r_callV X (st := []) (av := []) (k := 34) (ci := 6) (k_X7_isLying l N _ hnc _  _ _ h5 d (by omega)) (fitR_s (Nat.le_of_ble_eq_true rfl)) ⟨Nat.le_refl 0, Nat.le_refl 0⟩ rfl (ltn hnc rfl) rfl w_823 w_47 w_822 w_30 w_820 hy_X7_isLying rfl (Nat.le_of_ble_eq_true rfl) dX7_lies_5 ?_
  refine r_ifeq X 15 dX7_lies_8 (by decide) (fun c6 => ?_) (fun c6 => ?_)
  · replace h := it_t c6 h
    refine r_iconst X 0 dX7_lies_15 rfl ?_
    exact r_iretE X hr dX7_lies_16 h
  · replace h := it_f c6 h
    refine r_iconst X 1 dX7_lies_11 rfl ?_
    refine r_goto X 16 dX7_lies_12 (by decide) ?_
    exact r_iretE X hr dX7_lies_16 h
def l_J7_fill_53178_5 (sh : Nat → Shp) (N : Nat)   (a0 : Nat) (n1 : Nat) : Nat → Mem → Int32 → Int32 → Int32 → Option Mem
  | 0, _, _, _, _ => none
  | n + 1, M, v1, v2, v3 =>
    if v3 ≤ v2 then
      (some M)
    else
      (ck (inb v2 n1) <|
      ck (a0 < 45) <|
      nm (seI M a0 (ix v2) v1) fun M4 =>
      l_J7_fill_53178_5 sh N a0 n1 n M4 v1 (v2 + 1) v3)
def f_J7_fill_53178 (sh : Nat → Shp) (N : Nat) (M : Mem) (a0 : Nat) (p1 : Int32) : Option Mem :=
  bd (iaL sh a0) fun n1 =>
  l_J7_fill_53178_5 sh N a0 n1 N M p1 (0 : Int32) (Int32.ofNat n1)
set_option maxRecDepth 100000 in
set_option maxHeartbeats 4000000 in
theorem k_J7_fill_53178 (l : Launch) (N : Nat) (sh : Nat → Shp) (nc : Nat) (M : Mem) (a0 : Nat) (p1 : Int32) (ha0 : a0 < nc ∨ 45 ≤ a0) (M' : Mem) (h : f_J7_fill_53178 sh N M a0 p1 = some M') (d : Nat) (hd : 0 ≤ d) : Ct l d yJ7_fill_53178 cJ7_fill_53178 4 none sh nc [.ref a0, .int p1] M none M' := by
  unfold f_J7_fill_53178 at h
  refine Ct.of (by decide +kernel) (Nat.le_of_ble_eq_true rfl) ?_
  intro p e s m args below meth c A ad D cI cJ X hr
  have hl5 : ∀ (n1 : Nat) (en1 : iaL sh a0 = some n1), ∀ (n : Nat) (M : Mem) (v1 : Int32) (v2 : Int32) (v3 : Int32), l_J7_fill_53178_5 sh N a0 n1 n M v1 v2 v3 = some M' → AW p l e (rmd d) s m args below meth c 4 A ad D cI cJ sh nc 0 0 (MQ below (Qq A ad D cI cJ sh nc none M') args s 0 0 A) M 5 [(0, .ref a0), (1, .int v1), (2, .int v2), (3, .int v3)] [] := by
    intro n1 en1
    intro n
    induction n with
    | zero => intro M v1 v2 v3 h; cases h
    | succ n ih =>
      intro M v1 v2 v3 h
      rw [l_J7_fill_53178_5] at h
      refine r_iload_n X 2 dJ7_fill_53178_5 rfl rfl ?_
      refine r_iload_n X 3 dJ7_fill_53178_6 rfl rfl ?_
      refine r_icge X 20 dJ7_fill_53178_7 (by decide) (fun c2 => ?_) (fun c2 => ?_)
      · replace h := it_t c2 h
        exact r_vretE X hr dJ7_fill_53178_20 h
      · replace h := it_f c2 h
        refine r_aload_n X 0 dJ7_fill_53178_10 rfl rfl ?_
        refine r_iload_n X 2 dJ7_fill_53178_11 rfl rfl ?_
        refine r_iload_n X 1 dJ7_fill_53178_12 rfl rfl ?_
        obtain ⟨c3, h⟩ := ck_ex h
        obtain ⟨c5, h⟩ := ck_ex h
        obtain ⟨M4, eM4, h⟩ := nm_ex h
        refine r_iast X en1 (ha0.resolve_right (Nat.not_le.mpr c5)) c3 dJ7_fill_53178_13 ?_
        refine r_mem eM4 ?_
        refine r_iinc X [(2, .int (v2 + 1)), (0, .ref a0), (1, .int v1), (3, .int v3)] 2 (v2 + 1) dJ7_fill_53178_14 rfl rfl (Nat.le_of_ble_eq_true rfl) rfl ?_
        refine r_goto X 5 dJ7_fill_53178_17 (by decide) ?_
        refine r_sub (ls' := [(0, .ref a0), (1, .int v1), (2, .int (v2 + 1)), (3, .int v3)]) [1, 2, 0, 3] rfl ?_
        exact ih M4 v1 (v2 + 1) v3 h
  refine r_sub (ls' := [(0, .ref a0), (1, .int p1)]) [0, 1] rfl ?_
  refine r_iconst X 0 dJ7_fill_53178_0 rfl ?_
  refine r_istore_n X [(2, .int (0 : Int32)), (0, .ref a0), (1, .int p1)] dJ7_fill_53178_1 rfl (Nat.le_of_ble_eq_true rfl) rfl ?_
  refine r_aload_n X 1 dJ7_fill_53178_2 rfl rfl ?_
  obtain ⟨n1, en1, h⟩ := bd_ex h
  refine r_alen X en1 ha0 rfl dJ7_fill_53178_3 ?_
  refine r_istore_n X [(3, .int (Int32.ofNat n1)), (2, .int (0 : Int32)), (0, .ref a0), (1, .int p1)] dJ7_fill_53178_4 rfl (Nat.le_of_ble_eq_true rfl) rfl ?_
  refine r_sub (ls' := [(0, .ref a0), (1, .int p1), (2, .int (0 : Int32)), (3, .int (Int32.ofNat n1))]) [2, 3, 1, 0] rfl ?_
  exact hl5 n1 en1 N M p1 (0 : Int32) (Int32.ofNat n1) h
def l_X3_endOf_8 (N : Nat)    : Nat → Mem → Int32 → Int32 → Int64 → Int32 → Int32 → Option (Int64 × Mem)
  | 0, _, _, _, _, _, _ => none
  | n + 1, M, v1, v2, v3, v5, v6 =>
    if v1 ≤ v6 then
      (some ((((Int32.toInt64 v2) * v3) * (8 : Int64)) + (Int32.toInt64 v5), M))
    else
      (bd2 (f_X6_at shp N M 25 v6) fun r3 M2 =>
      bd2 (f_X1_step N M2 v5 r3) fun r6 M5 =>
      bd2 (f_X1_turned N M5 v5 r3) fun r9 M8 =>
      l_X3_endOf_8 N n M8 v1 v2 (v3 + r6) r9 (v6 + 1))
def f_X3_endOf (N : Nat) (M : Mem) (p0 : Int32) (p1 : Int32) : Option (Int64 × Mem) :=
  l_X3_endOf_8 N N M p0 p1 (0 : Int64) (0 : Int32) (0 : Int32)
set_option maxRecDepth 100000 in
set_option maxHeartbeats 4000000 in
theorem k_X3_endOf (l : Launch) (N : Nat) (nc : Nat) (hnc : 34 ≤ nc) (M : Mem) (p0 : Int32) (p1 : Int32) (r : Int64) (M' : Mem) (h : f_X3_endOf N M p0 p1 = some (r, M')) (d : Nat) (hd : 2 ≤ d) : Ct l d yX3_endOf cX3_endOf 8 (some .long) shp nc [.ref 21, .int p0, .int p1] M (some (.long r)) M' := by
  obtain ⟨d, rfl⟩ : ∃ q, d = q + 1 := ⟨d - 1, by omega⟩
  unfold f_X3_endOf at h
  refine Ct.of (by decide +kernel) (Nat.le_of_ble_eq_true rfl) ?_
  intro p e s m args below meth c A ad D cI cJ X hr
  have hl8 : ∀ (n : Nat) (M : Mem) (v1 : Int32) (v2 : Int32) (v3 : Int64) (v5 : Int32) (v6 : Int32), l_X3_endOf_8 N n M v1 v2 v3 v5 v6 = some (r, M') → AW p l e (rmd (d + 1)) s m args below meth c 8 A ad D cI cJ shp nc 0 0 (MQ below (Qq A ad D cI cJ shp nc (some (.long r)) M') args s 0 0 A) M 8 [(0, .ref 21), (1, .int v1), (2, .int v2), (3, .long v3), (5, .int v5), (6, .int v6)] [] := by
    intro n
    induction n with
    | zero => intro M v1 v2 v3 v5 v6 h; cases h
    | succ n ih =>
      intro M v1 v2 v3 v5 v6 h
      rw [l_X3_endOf_8] at h
      refine r_iload X 5 dX3_endOf_8 rfl ?_
      refine r_iload_n X 1 dX3_endOf_10 rfl rfl ?_
      refine r_icge X 54 dX3_endOf_11 (by decide) (fun c1 => ?_) (fun c1 => ?_)
      · replace h := it_t c1 h
        refine r_iload_n X 2 dX3_endOf_54 rfl rfl ?_
        refine r_i2l X dX3_endOf_55 ?_
        refine r_lload_n X 3 dX3_endOf_56 rfl rfl ?_
        refine r_lmul X dX3_endOf_57 ?_
        refine r_ldc2 X w_480 dX3_endOf_58 ?_
        refine r_lmul X dX3_endOf_61 ?_
        refine r_iload X 4 dX3_endOf_62 rfl ?_
        refine r_i2l X dX3_endOf_64 ?_
        refine r_ladd X dX3_endOf_65 ?_
        exact r_lretE X hr dX3_endOf_66 h
      · replace h := it_f c1 h
        refine r_aload_n X 0 dX3_endOf_14 rfl rfl ?_
        refine r_getr X 7 25 in_X3 (ci := 2) rfl rfl (ltn hnc rfl) (Nat.le_of_ble_eq_true rfl) rfl w_159 dX3_endOf_15 (by decide) ?_
        refine r_iload X 5 dX3_endOf_18 rfl ?_
        obtain ⟨r3, M2, h4, h⟩ := bd2_ex h
        refine r_callSN X (st := []) (av := [.ref 25, .int v6]) (k_X6_at l N _ _ _ _ _ (Or.inl (ltn hnc rfl)) _ _ h4 d (by omega)) (fitR_s (Nat.le_of_ble_eq_true rfl)) ⟨Nat.le_refl 0, Nat.le_refl 0⟩ w_71 w_39 w_70 w_472 hy_X6_at rfl (Nat.le_of_ble_eq_true rfl) dX3_endOf_20 ?_
        refine r_istore X [(7, .int r3), (0, .ref 21), (1, .int v1), (2, .int v2), (3, .long v3), (5, .int v5), (6, .int v6)] dX3_endOf_23 (Nat.le_of_ble_eq_true rfl) rfl ?_
        refine r_lload_n X 4 dX3_endOf_25 rfl rfl ?_
        refine r_aload_n X 1 dX3_endOf_26 rfl rfl ?_
        refine r_getr X 1 15 in_X3 (ci := 2) rfl rfl (ltn hnc rfl) (Nat.le_of_ble_eq_true rfl) rfl w_153 dX3_endOf_27 (by decide) ?_
        refine r_iload X 5 dX3_endOf_30 rfl ?_
        refine r_iload X 0 dX3_endOf_32 rfl ?_
        obtain ⟨r6, M5, h7, h⟩ := bd2_ex h
        refine r_callV X (st := [.long v3]) (av := [.int v5, .int r3]) (k := 15) (ci := 1) (k_X1_step l N _ hnc _ _ _ _ _ h7 d (by omega)) (fitR_s (Nat.le_of_ble_eq_true rfl)) ⟨Nat.le_refl 0, Nat.le_refl 0⟩ rfl (ltn hnc rfl) rfl w_340 w_41 w_338 w_339 w_478 hy_X1_step rfl (Nat.le_of_ble_eq_true rfl) dX3_endOf_34 ?_
        refine r_ladd X dX3_endOf_37 ?_
        refine r_lstore_n X [(3, .long (v3 + r6)), (7, .int r3), (0, .ref 21), (1, .int v1), (2, .int v2), (5, .int v5), (6, .int v6)] dX3_endOf_38 rfl (Nat.le_of_ble_eq_true rfl) rfl ?_
        refine r_iload X 5 dX3_endOf_39 rfl ?_
        refine r_iload X 1 dX3_endOf_41 rfl ?_
        obtain ⟨r9, M8, h10, h⟩ := bd2_ex h
        refine r_callS X (st := []) (av := [.int v5, .int r3]) (k_X1_turned l N _ hnc _ _ _ _ _ h10 d (by omega)) (fitR_s (Nat.le_of_ble_eq_true rfl)) ⟨Nat.le_refl 0, Nat.le_refl 0⟩ w_346 w_41 w_345 w_479 hy_X1_turned rfl (Nat.le_of_ble_eq_true rfl) dX3_endOf_43 ?_
        refine r_istore X [(5, .int r9), (3, .long (v3 + r6)), (7, .int r3), (0, .ref 21), (1, .int v1), (2, .int v2), (6, .int v6)] dX3_endOf_46 (Nat.le_of_ble_eq_true rfl) rfl ?_
        refine r_iinc X [(6, .int (v6 + 1)), (5, .int r9), (3, .long (v3 + r6)), (7, .int r3), (0, .ref 21), (1, .int v1), (2, .int v2)] 6 (v6 + 1) dX3_endOf_48 rfl rfl (Nat.le_of_ble_eq_true rfl) rfl ?_
        refine r_goto X 8 dX3_endOf_51 (by decide) ?_
        refine r_sub (ls' := [(0, .ref 21), (1, .int v1), (2, .int v2), (3, .long (v3 + r6)), (5, .int r9), (6, .int (v6 + 1))]) [4, 5, 6, 2, 1, 0] rfl ?_
        exact ih M8 v1 v2 (v3 + r6) r9 (v6 + 1) h
  refine r_sub (ls' := [(0, .ref 21), (1, .int p0), (2, .int p1)]) [0, 1, 2] rfl ?_
  refine r_lconst X 0 dX3_endOf_0 rfl ?_
  refine r_lstore_n X [(3, .long (0 : Int64)), (0, .ref 21), (1, .int p0), (2, .int p1)] dX3_endOf_1 rfl (Nat.le_of_ble_eq_true rfl) rfl ?_
  refine r_iconst X 0 dX3_endOf_2 rfl ?_
  refine r_istore X [(5, .int (0 : Int32)), (3, .long (0 : Int64)), (0, .ref 21), (1, .int p0), (2, .int p1)] dX3_endOf_3 (Nat.le_of_ble_eq_true rfl) rfl ?_
  refine r_iconst X 0 dX3_endOf_5 rfl ?_
  refine r_istore X [(6, .int (0 : Int32)), (5, .int (0 : Int32)), (3, .long (0 : Int64)), (0, .ref 21), (1, .int p0), (2, .int p1)] dX3_endOf_6 (Nat.le_of_ble_eq_true rfl) rfl ?_
  refine r_sub (ls' := [(0, .ref 21), (1, .int p0), (2, .int p1), (3, .long (0 : Int64)), (5, .int (0 : Int32)), (6, .int (0 : Int32))]) [3, 4, 5, 2, 1, 0] rfl ?_
  exact hl8  N M p0 p1 (0 : Int64) (0 : Int32) (0 : Int32) h
def f_X3_slotOf (N : Nat) (M : Mem) (p0 : Int64) : Option (Int32 × Mem) :=
  nm (p0 * (2654435761 : Int64)) fun x1 =>
  some ((Int64.toInt32 (ushr64 x1 (40 : Int32))) &&& (1023 : Int32), M)
set_option maxRecDepth 100000 in
set_option maxHeartbeats 4000000 in
theorem k_X3_slotOf (l : Launch) (N : Nat) (nc : Nat) (hnc : 34 ≤ nc) (M : Mem) (p0 : Int64) (r : Int32) (M' : Mem) (h : f_X3_slotOf N M p0 = some (r, M')) (d : Nat) (hd : 0 ≤ d) : Ct l d yX3_slotOf cX3_slotOf 4 (some .int) shp nc [.long p0] M (some (.int r)) M' := by
  unfold f_X3_slotOf at h
  refine Ct.of (by decide +kernel) (Nat.le_of_ble_eq_true rfl) ?_
  intro p e s m args below meth c A ad D cI cJ X hr
  refine r_sub (ls' := [(0, .long p0)]) [0] rfl ?_
  refine r_lload_n X 0 dX3_slotOf_0 rfl rfl ?_
  refine r_ldc2 X w_484 dX3_slotOf_1 ?_
  refine r_lmul X dX3_slotOf_4 ?_
  obtain ⟨x1, ex1, h⟩ := nm_ex h
  refine r_topl ex1 ?_
  refine r_lstore_n X [(2, .long x1), (0, .long p0)] dX3_slotOf_5 rfl (Nat.le_of_ble_eq_true rfl) rfl ?_
  refine r_lload_n X 0 dX3_slotOf_6 rfl rfl ?_
  refine r_bipush X 40 dX3_slotOf_7 rfl ?_
  refine r_lushr X dX3_slotOf_9 ?_
  refine r_l2i X dX3_slotOf_10 ?_
  refine r_sipush X 1023 dX3_slotOf_11 rfl ?_
  refine r_iand X dX3_slotOf_14 ?_
  exact r_iretE X hr dX3_slotOf_15 h
def l_X3_gather_28 (N : Nat)  (K20 : Mem → Int32 → Option Mem)  : Nat → Mem → Int32 → Int32 → Int32 → Option Mem
  | 0, _, _, _, _ => none
  | n + 1, M, v1, v2, v3 =>
    if (3 : Int32) ≤ v3 then
      (bd2 (f_X3_endOf N M (3 : Int32) (-1 : Int32)) fun r8 M7 =>
      bd2 (f_X3_slotOf N M7 r8) fun r11 M10 =>
      bd (f_X6_putPlace shp N M10 22 v1 r8) fun M13 =>
      bd2 (f_X6_at shp N M13 24 r11) fun r16 M15 =>
      bd (f_X6_put shp N M15 23 v1 r16) fun M18 =>
      bd (f_X6_put shp N M18 24 r11 v1) fun M20 =>
      K20 M20 (v1 + (-1)))
    else
      (bd2 (f_X6_at shp N M 48 (v2 - v2 / (10 : Int32) * (10 : Int32))) fun r23 M22 =>
      bd (f_X6_put shp N M22 25 v3 r23) fun M25 =>
      nm (v2 / (10 : Int32)) fun x27 =>
      l_X3_gather_28 N K20 n M25 v1 x27 (v3 + 1))
def l_X3_gather_20 (N : Nat)    : Nat → Mem → Int32 → Option Mem
  | 0, _, _ => none
  | n + 1, M, v1 =>
    if v1 < 0 then
      (nm (seI M 21 6 (1 : Int32)) fun M5 =>
      some M5)
    else
      (l_X3_gather_28 N (l_X3_gather_20 N n) N M v1 v1 (0 : Int32))
def f_X3_gather (N : Nat) (M : Mem)  : Option Mem :=
  if (M.1 21 6) = 0 then
    (bd (f_J7_fill_53178 shp N M 24 (-1 : Int32)) fun M2 =>
    l_X3_gather_20 N N M2 (999 : Int32))
  else
    (some M)
set_option maxRecDepth 100000 in
set_option maxHeartbeats 4000000 in
theorem k_X3_gather (l : Launch) (N : Nat) (nc : Nat) (hnc : 34 ≤ nc) (M : Mem)  (M' : Mem) (h : f_X3_gather N M  = some M') (d : Nat) (hd : 3 ≤ d) : Ct l d yX3_gather cX3_gather 6 none shp nc [.ref 21] M none M' := by
  obtain ⟨d, rfl⟩ : ∃ q, d = q + 1 := ⟨d - 1, by omega⟩
  unfold f_X3_gather at h
  refine Ct.of (by decide +kernel) (Nat.le_of_ble_eq_true rfl) ?_
  intro p e s m args below meth c A ad D cI cJ X hr
  have hl28 : ∀ (K20 : Mem → Int32 → Option Mem), (∀ (M : Mem) (v1 : Int32), K20 M v1 = some M' → AW p l e (rmd (d + 1)) s m args below meth c 6 A ad D cI cJ shp nc 0 0 (MQ below (Qq A ad D cI cJ shp nc none M') args s 0 0 A) M 20 [(0, .ref 21), (1, .int v1)] []) → ∀ (n : Nat) (M : Mem) (v1 : Int32) (v2 : Int32) (v3 : Int32), l_X3_gather_28 N K20 n M v1 v2 v3 = some M' → AW p l e (rmd (d + 1)) s m args below meth c 6 A ad D cI cJ shp nc 0 0 (MQ below (Qq A ad D cI cJ shp nc none M') args s 0 0 A) M 28 [(0, .ref 21), (1, .int v1), (2, .int v2), (3, .int v3)] [] := by
    intro K20 hK20
    intro n
    induction n with
    | zero => intro M v1 v2 v3 h; cases h
    | succ n ih =>
      intro M v1 v2 v3 h
      rw [l_X3_gather_28] at h
      refine r_iload_n X 3 dX3_gather_28 rfl rfl ?_
      refine r_iconst X 3 dX3_gather_29 rfl ?_
      refine r_icge X 62 dX3_gather_30 (by decide) (fun c6 => ?_) (fun c6 => ?_)
      · replace h := it_t c6 h
        refine r_aload_n X 0 dX3_gather_62 rfl rfl ?_
        refine r_iconst X 3 dX3_gather_63 rfl ?_
        refine r_iconst X (-1) dX3_gather_64 rfl ?_
        obtain ⟨r8, M7, h9, h⟩ := bd2_ex h
        refine r_callV X (st := []) (av := [.int (3 : Int32), .int (-1 : Int32)]) (k := 21) (ci := 2) (k_X3_endOf l N _ hnc _ _ _ _ _ h9 d (by omega)) (fitR_s (Nat.le_of_ble_eq_true rfl)) ⟨Nat.le_refl 0, Nat.le_refl 0⟩ rfl (ltn hnc rfl) rfl w_477 w_43 w_476 w_8 w_474 hy_X3_endOf rfl (Nat.le_of_ble_eq_true rfl) dX3_gather_65 ?_
        refine r_lstore_n X [(3, .long r8), (0, .ref 21), (1, .int v1), (2, .int v2)] dX3_gather_68 rfl (Nat.le_of_ble_eq_true rfl) rfl ?_
        refine r_lload_n X 0 dX3_gather_69 rfl rfl ?_
        obtain ⟨r11, M10, h12, h⟩ := bd2_ex h
        refine r_callS X (st := []) (av := [.long r8]) (k_X3_slotOf l N _ hnc _ _ _ _ h12 d (by omega)) (fitR_s (Nat.le_of_ble_eq_true rfl)) ⟨Nat.le_refl 0, Nat.le_refl 0⟩ w_483 w_43 w_482 w_481 hy_X3_slotOf rfl (Nat.le_of_ble_eq_true rfl) dX3_gather_70 ?_
        refine r_istore X [(5, .int r11), (3, .long r8), (0, .ref 21), (1, .int v1), (2, .int v2)] dX3_gather_73 (Nat.le_of_ble_eq_true rfl) rfl ?_
        refine r_aload_n X 2 dX3_gather_75 rfl rfl ?_
        refine r_getr X 3 22 in_X3 (ci := 2) rfl rfl (ltn hnc rfl) (Nat.le_of_ble_eq_true rfl) rfl w_155 dX3_gather_76 (by decide) ?_
        refine r_iload_n X 3 dX3_gather_79 rfl rfl ?_
        refine r_lload_n X 1 dX3_gather_80 rfl rfl ?_
        obtain ⟨M13, h14, h⟩ := bd_ex h
        refine r_callSN X (st := []) (av := [.ref 22, .int v1, .long r8]) (k_X6_putPlace l N _ _ _ _ _ _ (Or.inl (ltn hnc rfl)) _ h14 d (by omega)) (fitR_s (Nat.le_of_ble_eq_true rfl)) ⟨Nat.le_refl 0, Nat.le_refl 0⟩ w_239 w_39 w_238 w_485 hy_X6_putPlace rfl (Nat.le_of_ble_eq_true rfl) dX3_gather_81 ?_
        refine r_aload_n X 2 dX3_gather_84 rfl rfl ?_
        refine r_getr X 4 23 in_X3 (ci := 2) rfl rfl (ltn hnc rfl) (Nat.le_of_ble_eq_true rfl) rfl w_156 dX3_gather_85 (by decide) ?_
        refine r_iload_n X 3 dX3_gather_88 rfl rfl ?_
        refine r_aload_n X 2 dX3_gather_89 rfl rfl ?_
        refine r_getr X 5 24 in_X3 (ci := 2) rfl rfl (ltn hnc rfl) (Nat.le_of_ble_eq_true rfl) rfl w_157 dX3_gather_90 (by decide) ?_
        refine r_iload X 0 dX3_gather_93 rfl ?_
        obtain ⟨r16, M15, h17, h⟩ := bd2_ex h
        refine r_callSN X (st := [.int v1, .ref 23]) (av := [.ref 24, .int r11]) (k_X6_at l N _ _ _ _ _ (Or.inl (ltn hnc rfl)) _ _ h17 d (by omega)) (fitR_s (Nat.le_of_ble_eq_true rfl)) ⟨Nat.le_refl 0, Nat.le_refl 0⟩ w_71 w_39 w_70 w_472 hy_X6_at rfl (Nat.le_of_ble_eq_true rfl) dX3_gather_95 ?_
        obtain ⟨M18, h19, h⟩ := bd_ex h
        refine r_callSN X (st := []) (av := [.ref 23, .int v1, .int r16]) (k_X6_put l N _ _ _ _ _ _ (Or.inl (ltn hnc rfl)) _ h19 d (by omega)) (fitR_s (Nat.le_of_ble_eq_true rfl)) ⟨Nat.le_refl 0, Nat.le_refl 0⟩ w_287 w_39 w_286 w_473 hy_X6_put rfl (Nat.le_of_ble_eq_true rfl) dX3_gather_98 ?_
        refine r_aload_n X 2 dX3_gather_101 rfl rfl ?_
        refine r_getr X 5 24 in_X3 (ci := 2) rfl rfl (ltn hnc rfl) (Nat.le_of_ble_eq_true rfl) rfl w_157 dX3_gather_102 (by decide) ?_
        refine r_iload X 0 dX3_gather_105 rfl ?_
        refine r_iload_n X 3 dX3_gather_107 rfl rfl ?_
        obtain ⟨M20, h21, h⟩ := bd_ex h
        refine r_callSN X (st := []) (av := [.ref 24, .int r11, .int v1]) (k_X6_put l N _ _ _ _ _ _ (Or.inl (ltn hnc rfl)) _ h21 d (by omega)) (fitR_s (Nat.le_of_ble_eq_true rfl)) ⟨Nat.le_refl 0, Nat.le_refl 0⟩ w_287 w_39 w_286 w_473 hy_X6_put rfl (Nat.le_of_ble_eq_true rfl) dX3_gather_108 ?_
        refine r_iinc X [(1, .int (v1 + (-1))), (5, .int r11), (3, .long r8), (0, .ref 21), (2, .int v2)] 3 (v1 + (-1)) dX3_gather_111 rfl rfl (Nat.le_of_ble_eq_true rfl) rfl ?_
        refine r_goto X 20 dX3_gather_114 (by decide) ?_
        refine r_sub (ls' := [(0, .ref 21), (1, .int (v1 + (-1)))]) [3, 0] rfl ?_
        exact hK20 M20 (v1 + (-1)) h
      · replace h := it_f c6 h
        refine r_aload_n X 0 dX3_gather_33 rfl rfl ?_
        refine r_getr X 7 25 in_X3 (ci := 2) rfl rfl (ltn hnc rfl) (Nat.le_of_ble_eq_true rfl) rfl w_159 dX3_gather_34 (by decide) ?_
        refine r_iload_n X 3 dX3_gather_37 rfl rfl ?_
        refine r_getsN X 3 (Nat.le_of_ble_eq_true rfl) w_470 dX3_gather_38 ?_
        refine r_iload_n X 2 dX3_gather_41 rfl rfl ?_
        refine r_bipush X 10 dX3_gather_42 rfl ?_
        refine r_irem X (by decide) dX3_gather_44 ?_
        obtain ⟨r23, M22, h24, h⟩ := bd2_ex h
        refine r_callSN X (st := [.int v3, .ref 25]) (av := [.ref 48, .int (v2 - v2 / (10 : Int32) * (10 : Int32))]) (k_X6_at l N _ _ _ _ _ (Or.inr (Nat.le_of_ble_eq_true rfl)) _ _ h24 d (by omega)) (fitR_s (Nat.le_of_ble_eq_true rfl)) ⟨Nat.le_refl 0, Nat.le_refl 0⟩ w_71 w_39 w_70 w_472 hy_X6_at rfl (Nat.le_of_ble_eq_true rfl) dX3_gather_45 ?_
        obtain ⟨M25, h26, h⟩ := bd_ex h
        refine r_callSN X (st := []) (av := [.ref 25, .int v3, .int r23]) (k_X6_put l N _ _ _ _ _ _ (Or.inl (ltn hnc rfl)) _ h26 d (by omega)) (fitR_s (Nat.le_of_ble_eq_true rfl)) ⟨Nat.le_refl 0, Nat.le_refl 0⟩ w_287 w_39 w_286 w_473 hy_X6_put rfl (Nat.le_of_ble_eq_true rfl) dX3_gather_48 ?_
        refine r_iload_n X 2 dX3_gather_51 rfl rfl ?_
        refine r_bipush X 10 dX3_gather_52 rfl ?_
        refine r_idiv X (by decide) dX3_gather_54 ?_
        obtain ⟨x27, ex27, h⟩ := nm_ex h
        refine r_top ex27 ?_
        refine r_istore_n X [(2, .int x27), (0, .ref 21), (1, .int v1), (3, .int v3)] dX3_gather_55 rfl (Nat.le_of_ble_eq_true rfl) rfl ?_
        refine r_iinc X [(3, .int (v3 + 1)), (2, .int x27), (0, .ref 21), (1, .int v1)] 3 (v3 + 1) dX3_gather_56 rfl rfl (Nat.le_of_ble_eq_true rfl) rfl ?_
        refine r_goto X 28 dX3_gather_59 (by decide) ?_
        refine r_sub (ls' := [(0, .ref 21), (1, .int v1), (2, .int x27), (3, .int (v3 + 1))]) [2, 3, 1, 0] rfl ?_
        exact ih M25 v1 x27 (v3 + 1) h
  have hl20 : ∀ (n : Nat) (M : Mem) (v1 : Int32), l_X3_gather_20 N n M v1 = some M' → AW p l e (rmd (d + 1)) s m args below meth c 6 A ad D cI cJ shp nc 0 0 (MQ below (Qq A ad D cI cJ shp nc none M') args s 0 0 A) M 20 [(0, .ref 21), (1, .int v1)] [] := by
    intro n
    induction n with
    | zero => intro M v1 h; cases h
    | succ n ih =>
      intro M v1 h
      rw [l_X3_gather_20] at h
      refine r_iload_n X 1 dX3_gather_20 rfl rfl ?_
      refine r_iflt X 117 dX3_gather_21 (by decide) (fun c4 => ?_) (fun c4 => ?_)
      · replace h := it_t c4 h
        refine r_aload_n X 0 dX3_gather_117 rfl rfl ?_
        refine r_iconst X 1 dX3_gather_118 rfl ?_
        obtain ⟨M5, eM5, h⟩ := nm_ex h
        refine r_puti X 6 in_X3 (ci := 2) rfl tyX3_ok nmX3 rfl (ltn hnc rfl) (Nat.le_of_ble_eq_true rfl) rfl w_158 rfl (ty := .boolean) rfl rfl rfl dX3_gather_119 ?_
        refine r_mem eM5 ?_
        exact r_vretE X hr dX3_gather_122 h
      · replace h := it_f c4 h
        refine r_iload_n X 1 dX3_gather_24 rfl rfl ?_
        refine r_istore_n X [(2, .int v1), (0, .ref 21), (1, .int v1)] dX3_gather_25 rfl (Nat.le_of_ble_eq_true rfl) rfl ?_
        refine r_iconst X 0 dX3_gather_26 rfl ?_
        refine r_istore_n X [(3, .int (0 : Int32)), (2, .int v1), (0, .ref 21), (1, .int v1)] dX3_gather_27 rfl (Nat.le_of_ble_eq_true rfl) rfl ?_
        refine r_sub (ls' := [(0, .ref 21), (1, .int v1), (2, .int v1), (3, .int (0 : Int32))]) [2, 3, 1, 0] rfl ?_
        exact hl28 _ ih N M v1 v1 (0 : Int32) h
  refine r_sub (ls' := [(0, .ref 21)]) [0] rfl ?_
  refine r_aload_n X 0 dX3_gather_0 rfl rfl ?_
  refine r_geti X 6 in_X3 (ci := 2) rfl rfl (ltn hnc rfl) (Nat.le_of_ble_eq_true rfl) rfl w_158 dX3_gather_1 ?_
  refine r_ifeq X 8 dX3_gather_4 (by decide) (fun c1 => ?_) (fun c1 => ?_)
  · replace h := it_t c1 h
    refine r_aload_n X 0 dX3_gather_8 rfl rfl ?_
    refine r_getr X 5 24 in_X3 (ci := 2) rfl rfl (ltn hnc rfl) (Nat.le_of_ble_eq_true rfl) rfl w_157 dX3_gather_9 (by decide) ?_
    refine r_iconst X (-1) dX3_gather_12 rfl ?_
    obtain ⟨M2, h3, h⟩ := bd_ex h
    refine r_callS X (st := []) (av := [.ref 24, .int (-1 : Int32)]) (k_J7_fill_53178 l N _ _ _ _ _ (Or.inl (ltn hnc rfl)) _ h3 d (by omega)) (fitR_s (Nat.le_of_ble_eq_true rfl)) ⟨Nat.le_refl 0, Nat.le_refl 0⟩ w_469 w_49 w_468 w_467 hy_J7_fill_53178 rfl (Nat.le_of_ble_eq_true rfl) dX3_gather_13 ?_
    refine r_sipush X 999 dX3_gather_16 rfl ?_
    refine r_istore_n X [(1, .int (999 : Int32)), (0, .ref 21)] dX3_gather_19 rfl (Nat.le_of_ble_eq_true rfl) rfl ?_
    refine r_sub (ls' := [(0, .ref 21), (1, .int (999 : Int32))]) [1, 0] rfl ?_
    exact hl20  N M2 (999 : Int32) h
  · replace h := it_f c1 h
    exact r_vretE X hr dX3_gather_7 h
def l_X3_layAt_10 (N : Nat)    : Nat → Mem → Int32 → Int32 → Int32 → Option Mem
  | 0, _, _, _, _ => none
  | n + 1, M, v1, v4, v5 =>
    if v5 < v1 then
      (some M)
    else
      (bd (f_X6_put shp N M 25 v5 (v4 - v4 / (10 : Int32) * (10 : Int32))) fun M3 =>
      nm (v4 / (10 : Int32)) fun x5 =>
      l_X3_layAt_10 N n M3 v1 x5 (v5 + (-1)))
def f_X3_layAt (N : Nat) (M : Mem) (p0 : Int32) (p1 : Int32) (p2 : Int32) : Option Mem :=
  nm ((p0 + p1) - (1 : Int32)) fun x1 =>
  l_X3_layAt_10 N N M p0 p2 x1
set_option maxRecDepth 100000 in
set_option maxHeartbeats 4000000 in
theorem k_X3_layAt (l : Launch) (N : Nat) (nc : Nat) (hnc : 34 ≤ nc) (M : Mem) (p0 : Int32) (p1 : Int32) (p2 : Int32) (M' : Mem) (h : f_X3_layAt N M p0 p1 p2 = some M') (d : Nat) (hd : 1 ≤ d) : Ct l d yX3_layAt cX3_layAt 6 none shp nc [.ref 21, .int p0, .int p1, .int p2] M none M' := by
  obtain ⟨d, rfl⟩ : ∃ q, d = q + 1 := ⟨d - 1, by omega⟩
  unfold f_X3_layAt at h
  refine Ct.of (by decide +kernel) (Nat.le_of_ble_eq_true rfl) ?_
  intro p e s m args below meth c A ad D cI cJ X hr
  have hl10 : ∀ (n : Nat) (M : Mem) (v1 : Int32) (v4 : Int32) (v5 : Int32), l_X3_layAt_10 N n M v1 v4 v5 = some M' → AW p l e (rmd (d + 1)) s m args below meth c 6 A ad D cI cJ shp nc 0 0 (MQ below (Qq A ad D cI cJ shp nc none M') args s 0 0 A) M 10 [(0, .ref 21), (1, .int v1), (4, .int v4), (5, .int v5)] [] := by
    intro n
    induction n with
    | zero => intro M v1 v4 v5 h; cases h
    | succ n ih =>
      intro M v1 v4 v5 h
      rw [l_X3_layAt_10] at h
      refine r_iload X 3 dX3_layAt_10 rfl ?_
      refine r_iload_n X 1 dX3_layAt_12 rfl rfl ?_
      refine r_iclt X 43 dX3_layAt_13 (by decide) (fun c2 => ?_) (fun c2 => ?_)
      · replace h := it_t c2 h
        exact r_vretE X hr dX3_layAt_43 h
      · replace h := it_f c2 h
        refine r_aload_n X 0 dX3_layAt_16 rfl rfl ?_
        refine r_getr X 7 25 in_X3 (ci := 2) rfl rfl (ltn hnc rfl) (Nat.le_of_ble_eq_true rfl) rfl w_159 dX3_layAt_17 (by decide) ?_
        refine r_iload X 3 dX3_layAt_20 rfl ?_
        refine r_iload X 2 dX3_layAt_22 rfl ?_
        refine r_bipush X 10 dX3_layAt_24 rfl ?_
        refine r_irem X (by decide) dX3_layAt_26 ?_
        obtain ⟨M3, h4, h⟩ := bd_ex h
        refine r_callSN X (st := []) (av := [.ref 25, .int v5, .int (v4 - v4 / (10 : Int32) * (10 : Int32))]) (k_X6_put l N _ _ _ _ _ _ (Or.inl (ltn hnc rfl)) _ h4 d (by omega)) (fitR_s (Nat.le_of_ble_eq_true rfl)) ⟨Nat.le_refl 0, Nat.le_refl 0⟩ w_287 w_39 w_286 w_473 hy_X6_put rfl (Nat.le_of_ble_eq_true rfl) dX3_layAt_27 ?_
        refine r_iload X 2 dX3_layAt_30 rfl ?_
        refine r_bipush X 10 dX3_layAt_32 rfl ?_
        refine r_idiv X (by decide) dX3_layAt_34 ?_
        obtain ⟨x5, ex5, h⟩ := nm_ex h
        refine r_top ex5 ?_
        refine r_istore X [(4, .int x5), (0, .ref 21), (1, .int v1), (5, .int v5)] dX3_layAt_35 (Nat.le_of_ble_eq_true rfl) rfl ?_
        refine r_iinc X [(5, .int (v5 + (-1))), (4, .int x5), (0, .ref 21), (1, .int v1)] 3 (v5 + (-1)) dX3_layAt_37 rfl rfl (Nat.le_of_ble_eq_true rfl) rfl ?_
        refine r_goto X 10 dX3_layAt_40 (by decide) ?_
        refine r_sub (ls' := [(0, .ref 21), (1, .int v1), (4, .int x5), (5, .int (v5 + (-1)))]) [2, 3, 1, 0] rfl ?_
        exact ih M3 v1 x5 (v5 + (-1)) h
  refine r_sub (ls' := [(0, .ref 21), (1, .int p0), (2, .int p1), (3, .int p2)]) [0, 1, 2, 3] rfl ?_
  refine r_iload_n X 3 dX3_layAt_0 rfl rfl ?_
  refine r_istore X [(4, .int p2), (0, .ref 21), (1, .int p0), (2, .int p1), (3, .int p2)] dX3_layAt_1 (Nat.le_of_ble_eq_true rfl) rfl ?_
  refine r_iload_n X 2 dX3_layAt_3 rfl rfl ?_
  refine r_iload_n X 3 dX3_layAt_4 rfl rfl ?_
  refine r_iadd X dX3_layAt_5 ?_
  refine r_iconst X 1 dX3_layAt_6 rfl ?_
  refine r_isub X dX3_layAt_7 ?_
  obtain ⟨x1, ex1, h⟩ := nm_ex h
  refine r_top ex1 ?_
  refine r_istore X [(5, .int x1), (4, .int p2), (0, .ref 21), (1, .int p0), (2, .int p1), (3, .int p2)] dX3_layAt_8 (Nat.le_of_ble_eq_true rfl) rfl ?_
  refine r_sub (ls' := [(0, .ref 21), (1, .int p0), (4, .int p2), (5, .int x1)]) [2, 3, 1, 0] rfl ?_
  exact hl10  N M p0 p2 x1 h
def l_X3_isFirstSoFar_11 (N : Nat)    : Nat → Mem → Int32 → Int32 → Int32 → Option (Int32 × Mem)
  | 0, _, _, _, _ => none
  | n + 1, M, v1, v2, v3 =>
    if v1 ≤ v3 then
      (some ((1 : Int32), M))
    else
      (bd2 (f_X6_at shp N M 25 v3) fun r6 M5 =>
      if r6 < v2 then
        (some ((0 : Int32), M5))
      else
        (bd2 (f_X6_at shp N M5 48 r6) fun r10 M9 =>
        if v2 ≤ r10 then
          (l_X3_isFirstSoFar_11 N n M9 v1 v2 (v3 + 1))
        else
          (some ((0 : Int32), M9))))
def f_X3_isFirstSoFar (N : Nat) (M : Mem) (p0 : Int32) : Option (Int32 × Mem) :=
  bd2 (f_X6_at shp N M 25 (0 : Int32)) fun r2 M1 =>
  l_X3_isFirstSoFar_11 N N M1 p0 r2 (0 : Int32)
set_option maxRecDepth 100000 in
set_option maxHeartbeats 4000000 in
theorem k_X3_isFirstSoFar (l : Launch) (N : Nat) (nc : Nat) (hnc : 34 ≤ nc) (M : Mem) (p0 : Int32) (r : Int32) (M' : Mem) (h : f_X3_isFirstSoFar N M p0 = some (r, M')) (d : Nat) (hd : 1 ≤ d) : Ct l d yX3_isFirstSoFar cX3_isFirstSoFar 5 (some .boolean) shp nc [.ref 21, .int p0] M (some (.int r)) M' := by
  obtain ⟨d, rfl⟩ : ∃ q, d = q + 1 := ⟨d - 1, by omega⟩
  unfold f_X3_isFirstSoFar at h
  refine Ct.of (by decide +kernel) (Nat.le_of_ble_eq_true rfl) ?_
  intro p e s m args below meth c A ad D cI cJ X hr
  have hl11 : ∀ (n : Nat) (M : Mem) (v1 : Int32) (v2 : Int32) (v3 : Int32), l_X3_isFirstSoFar_11 N n M v1 v2 v3 = some (r, M') → AW p l e (rmd (d + 1)) s m args below meth c 5 A ad D cI cJ shp nc 0 0 (MQ below (Qq A ad D cI cJ shp nc (some (.int r)) M') args s 0 0 A) M 11 [(0, .ref 21), (1, .int v1), (2, .int v2), (3, .int v3)] [] := by
    intro n
    induction n with
    | zero => intro M v1 v2 v3 h; cases h
    | succ n ih =>
      intro M v1 v2 v3 h
      rw [l_X3_isFirstSoFar_11] at h
      refine r_iload_n X 3 dX3_isFirstSoFar_11 rfl rfl ?_
      refine r_iload_n X 1 dX3_isFirstSoFar_12 rfl rfl ?_
      refine r_icge X 52 dX3_isFirstSoFar_13 (by decide) (fun c4 => ?_) (fun c4 => ?_)
      · replace h := it_t c4 h
        refine r_iconst X 1 dX3_isFirstSoFar_52 rfl ?_
        exact r_zretE X hr rfl dX3_isFirstSoFar_53 h
      · replace h := it_f c4 h
        refine r_aload_n X 0 dX3_isFirstSoFar_16 rfl rfl ?_
        refine r_getr X 7 25 in_X3 (ci := 2) rfl rfl (ltn hnc rfl) (Nat.le_of_ble_eq_true rfl) rfl w_159 dX3_isFirstSoFar_17 (by decide) ?_
        refine r_iload_n X 3 dX3_isFirstSoFar_20 rfl rfl ?_
        obtain ⟨r6, M5, h7, h⟩ := bd2_ex h
        refine r_callSN X (st := []) (av := [.ref 25, .int v3]) (k_X6_at l N _ _ _ _ _ (Or.inl (ltn hnc rfl)) _ _ h7 d (by omega)) (fitR_s (Nat.le_of_ble_eq_true rfl)) ⟨Nat.le_refl 0, Nat.le_refl 0⟩ w_71 w_39 w_70 w_472 hy_X6_at rfl (Nat.le_of_ble_eq_true rfl) dX3_isFirstSoFar_21 ?_
        refine r_istore X [(4, .int r6), (0, .ref 21), (1, .int v1), (2, .int v2), (3, .int v3)] dX3_isFirstSoFar_24 (Nat.le_of_ble_eq_true rfl) rfl ?_
        refine r_iload X 0 dX3_isFirstSoFar_26 rfl ?_
        refine r_iload_n X 3 dX3_isFirstSoFar_28 rfl rfl ?_
        refine r_iclt X 44 dX3_isFirstSoFar_29 (by decide) (fun c8 => ?_) (fun c8 => ?_)
        · replace h := it_t c8 h
          refine r_iconst X 0 dX3_isFirstSoFar_44 rfl ?_
          exact r_zretE X hr rfl dX3_isFirstSoFar_45 h
        · replace h := it_f c8 h
          refine r_getsN X 3 (Nat.le_of_ble_eq_true rfl) w_470 dX3_isFirstSoFar_32 ?_
          refine r_iload X 0 dX3_isFirstSoFar_35 rfl ?_
          obtain ⟨r10, M9, h11, h⟩ := bd2_ex h
          refine r_callSN X (st := []) (av := [.ref 48, .int r6]) (k_X6_at l N _ _ _ _ _ (Or.inr (Nat.le_of_ble_eq_true rfl)) _ _ h11 d (by omega)) (fitR_s (Nat.le_of_ble_eq_true rfl)) ⟨Nat.le_refl 0, Nat.le_refl 0⟩ w_71 w_39 w_70 w_472 hy_X6_at rfl (Nat.le_of_ble_eq_true rfl) dX3_isFirstSoFar_37 ?_
          refine r_iload_n X 3 dX3_isFirstSoFar_40 rfl rfl ?_
          refine r_icge X 46 dX3_isFirstSoFar_41 (by decide) (fun c12 => ?_) (fun c12 => ?_)
          · replace h := it_t c12 h
            refine r_iinc X [(3, .int (v3 + 1)), (4, .int r6), (0, .ref 21), (1, .int v1), (2, .int v2)] 4 (v3 + 1) dX3_isFirstSoFar_46 rfl rfl (Nat.le_of_ble_eq_true rfl) rfl ?_
            refine r_goto X 11 dX3_isFirstSoFar_49 (by decide) ?_
            refine r_sub (ls' := [(0, .ref 21), (1, .int v1), (2, .int v2), (3, .int (v3 + 1))]) [2, 3, 4, 0] rfl ?_
            exact ih M9 v1 v2 (v3 + 1) h
          · replace h := it_f c12 h
            refine r_iconst X 0 dX3_isFirstSoFar_44 rfl ?_
            exact r_zretE X hr rfl dX3_isFirstSoFar_45 h
  refine r_sub (ls' := [(0, .ref 21), (1, .int p0)]) [0, 1] rfl ?_
  refine r_aload_n X 0 dX3_isFirstSoFar_0 rfl rfl ?_
  refine r_getr X 7 25 in_X3 (ci := 2) rfl rfl (ltn hnc rfl) (Nat.le_of_ble_eq_true rfl) rfl w_159 dX3_isFirstSoFar_1 (by decide) ?_
  refine r_iconst X 0 dX3_isFirstSoFar_4 rfl ?_
  obtain ⟨r2, M1, h3, h⟩ := bd2_ex h
  refine r_callSN X (st := []) (av := [.ref 25, .int (0 : Int32)]) (k_X6_at l N _ _ _ _ _ (Or.inl (ltn hnc rfl)) _ _ h3 d (by omega)) (fitR_s (Nat.le_of_ble_eq_true rfl)) ⟨Nat.le_refl 0, Nat.le_refl 0⟩ w_71 w_39 w_70 w_472 hy_X6_at rfl (Nat.le_of_ble_eq_true rfl) dX3_isFirstSoFar_5 ?_
  refine r_istore_n X [(2, .int r2), (0, .ref 21), (1, .int p0)] dX3_isFirstSoFar_8 rfl (Nat.le_of_ble_eq_true rfl) rfl ?_
  refine r_iconst X 0 dX3_isFirstSoFar_9 rfl ?_
  refine r_istore_n X [(3, .int (0 : Int32)), (2, .int r2), (0, .ref 21), (1, .int p0)] dX3_isFirstSoFar_10 rfl (Nat.le_of_ble_eq_true rfl) rfl ?_
  refine r_sub (ls' := [(0, .ref 21), (1, .int p0), (2, .int r2), (3, .int (0 : Int32))]) [2, 3, 1, 0] rfl ?_
  exact hl11  N M1 p0 r2 (0 : Int32) h
def f_X3_lacks (N : Nat) (M : Mem) (p0 : Int32) (p1 : Int32) : Option (Int32 × Mem) :=
  bd2 (f_X0_lacking N M 25 p0) fun r2 M1 =>
  if p1 = 0 then
    (if r2 ≤ (0 : Int32) then
      (some (r2, M1))
    else
      (some ((-1 : Int32), M1)))
  else
    (if r2 ≤ (1 : Int32) then
      (some (r2, M1))
    else
      (some ((-1 : Int32), M1)))
set_option maxRecDepth 100000 in
set_option maxHeartbeats 4000000 in
theorem k_X3_lacks (l : Launch) (N : Nat) (nc : Nat) (hnc : 34 ≤ nc) (M : Mem) (p0 : Int32) (p1 : Int32) (r : Int32) (M' : Mem) (h : f_X3_lacks N M p0 p1 = some (r, M')) (d : Nat) (hd : 3 ≤ d) : Ct l d yX3_lacks cX3_lacks 4 (some .int) shp nc [.ref 21, .int p0, .int p1] M (some (.int r)) M' := by
  obtain ⟨d, rfl⟩ : ∃ q, d = q + 1 := ⟨d - 1, by omega⟩
  unfold f_X3_lacks at h
  refine Ct.of (by decide +kernel) (Nat.le_of_ble_eq_true rfl) ?_
  intro p e s m args below meth c A ad D cI cJ X hr
  refine r_sub (ls' := [(0, .ref 21), (1, .int p0), (2, .int p1)]) [0, 1, 2] rfl ?_
  refine r_aload_n X 0 dX3_lacks_0 rfl rfl ?_
  refine r_getr X 0 1 in_X3 (ci := 2) rfl rfl (ltn hnc rfl) (Nat.le_of_ble_eq_true rfl) rfl w_152 dX3_lacks_1 (by decide) ?_
  refine r_aload_n X 0 dX3_lacks_4 rfl rfl ?_
  refine r_getr X 7 25 in_X3 (ci := 2) rfl rfl (ltn hnc rfl) (Nat.le_of_ble_eq_true rfl) rfl w_159 dX3_lacks_5 (by decide) ?_
  refine r_iload_n X 1 dX3_lacks_8 rfl rfl ?_
  obtain ⟨r2, M1, h3, h⟩ := bd2_ex h
  refine r_callV X (st := []) (av := [.ref 25, .int p0]) (k := 1) (ci := 0) (k_X0_lacking l N _ hnc _ _ _ (Or.inl (ltn hnc rfl)) _ _ h3 d (by omega)) (fitR_s (Nat.le_of_ble_eq_true rfl)) ⟨Nat.le_refl 0, Nat.le_refl 0⟩ rfl (ltn hnc rfl) rfl w_376 w_40 w_374 w_375 w_498 hy_X0_lacking rfl (Nat.le_of_ble_eq_true rfl) dX3_lacks_9 ?_
  refine r_istore_n X [(3, .int r2), (0, .ref 21), (1, .int p0), (2, .int p1)] dX3_lacks_12 rfl (Nat.le_of_ble_eq_true rfl) rfl ?_
  refine r_iload_n X 0 dX3_lacks_13 rfl rfl ?_
  refine r_iload_n X 3 dX3_lacks_14 rfl rfl ?_
  refine r_ifeq X 22 dX3_lacks_15 (by decide) (fun c4 => ?_) (fun c4 => ?_)
  · replace h := it_t c4 h
    refine r_iconst X 0 dX3_lacks_22 rfl ?_
    refine r_icle X 30 dX3_lacks_23 (by decide) (fun c5 => ?_) (fun c5 => ?_)
    · replace h := it_t c5 h
      refine r_iload_n X 0 dX3_lacks_30 rfl rfl ?_
      exact r_iretE X hr dX3_lacks_31 h
    · replace h := it_f c5 h
      refine r_iconst X (-1) dX3_lacks_26 rfl ?_
      refine r_goto X 31 dX3_lacks_27 (by decide) ?_
      exact r_iretE X hr dX3_lacks_31 h
  · replace h := it_f c4 h
    refine r_iconst X 1 dX3_lacks_18 rfl ?_
    refine r_goto X 23 dX3_lacks_19 (by decide) ?_
    refine r_icle X 30 dX3_lacks_23 (by decide) (fun c6 => ?_) (fun c6 => ?_)
    · replace h := it_t c6 h
      refine r_iload_n X 0 dX3_lacks_30 rfl rfl ?_
      exact r_iretE X hr dX3_lacks_31 h
    · replace h := it_f c6 h
      refine r_iconst X (-1) dX3_lacks_26 rfl ?_
      refine r_goto X 31 dX3_lacks_27 (by decide) ?_
      exact r_iretE X hr dX3_lacks_31 h
def l_X3_isBefore_6 (N : Nat)    : Nat → Mem → Int32 → Int32 → Int32 → Int32 → Int32 → Option (Int32 × Mem)
  | 0, _, _, _, _, _, _ => none
  | n + 1, M, v1, v3, v4, v5, v6 =>
    if v1 ≤ v6 then
      (some ((0 : Int32), M))
    else
      (bd2 (f_X6_at shp N M 25 v5) fun r3 M2 =>
      if v4 = 0 then
        (bd2 (f_X6_at shp N M2 25 v6) fun r7 M6 =>
        if (r3 - r7) = 0 then
          (if 0 ≤ (v5 + v3) then
            (if (v5 + v3) < v1 then
              (l_X3_isBefore_6 N n M6 v1 v3 v4 (v5 + v3) (v6 + 1))
            else
              (l_X3_isBefore_6 N n M6 v1 v3 v4 (0 : Int32) (v6 + 1)))
          else
            (nm (v1 - (1 : Int32)) fun x12 =>
            l_X3_isBefore_6 N n M6 v1 v3 v4 x12 (v6 + 1)))
        else
          (if 0 ≤ (r3 - r7) then
            (some ((0 : Int32), M6))
          else
            (some ((1 : Int32), M6))))
      else
        (bd2 (f_X6_at shp N M2 48 r3) fun r15 M14 =>
        bd2 (f_X6_at shp N M14 25 v6) fun r18 M17 =>
        if (r15 - r18) = 0 then
          (if 0 ≤ (v5 + v3) then
            (if (v5 + v3) < v1 then
              (l_X3_isBefore_6 N n M17 v1 v3 v4 (v5 + v3) (v6 + 1))
            else
              (l_X3_isBefore_6 N n M17 v1 v3 v4 (0 : Int32) (v6 + 1)))
          else
            (nm (v1 - (1 : Int32)) fun x23 =>
            l_X3_isBefore_6 N n M17 v1 v3 v4 x23 (v6 + 1)))
        else
          (if 0 ≤ (r15 - r18) then
            (some ((0 : Int32), M17))
          else
            (some ((1 : Int32), M17)))))
def f_X3_isBefore (N : Nat) (M : Mem) (p0 : Int32) (p1 : Int32) (p2 : Int32) (p3 : Int32) : Option (Int32 × Mem) :=
  l_X3_isBefore_6 N N M p0 p2 p3 p1 (0 : Int32)
set_option maxRecDepth 100000 in
set_option maxHeartbeats 4000000 in
theorem k_X3_isBefore (l : Launch) (N : Nat) (nc : Nat) (hnc : 34 ≤ nc) (M : Mem) (p0 : Int32) (p1 : Int32) (p2 : Int32) (p3 : Int32) (r : Int32) (M' : Mem) (h : f_X3_isBefore N M p0 p1 p2 p3 = some (r, M')) (d : Nat) (hd : 1 ≤ d) : Ct l d yX3_isBefore cX3_isBefore 9 (some .boolean) shp nc [.ref 21, .int p0, .int p1, .int p2, .int p3] M (some (.int r)) M' := by
  obtain ⟨d, rfl⟩ : ∃ q, d = q + 1 := ⟨d - 1, by omega⟩
  unfold f_X3_isBefore at h
  refine Ct.of (by decide +kernel) (Nat.le_of_ble_eq_true rfl) ?_
  intro p e s m args below meth c A ad D cI cJ X hr
  have hl6 : ∀ (n : Nat) (M : Mem) (v1 : Int32) (v3 : Int32) (v4 : Int32) (v5 : Int32) (v6 : Int32), l_X3_isBefore_6 N n M v1 v3 v4 v5 v6 = some (r, M') → AW p l e (rmd (d + 1)) s m args below meth c 9 A ad D cI cJ shp nc 0 0 (MQ below (Qq A ad D cI cJ shp nc (some (.int r)) M') args s 0 0 A) M 6 [(0, .ref 21), (1, .int v1), (3, .int v3), (4, .int v4), (5, .int v5), (6, .int v6)] [] := by
    intro n
    induction n with
    | zero => intro M v1 v3 v4 v5 v6 h; cases h
    | succ n ih =>
      intro M v1 v3 v4 v5 v6 h
      rw [l_X3_isBefore_6] at h
      refine r_iload X 5 dX3_isBefore_6 rfl ?_
      refine r_iload_n X 1 dX3_isBefore_8 rfl rfl ?_
      refine r_icge X 106 dX3_isBefore_9 (by decide) (fun c1 => ?_) (fun c1 => ?_)
      · replace h := it_t c1 h
        refine r_iconst X 0 dX3_isBefore_106 rfl ?_
        exact r_zretE X hr rfl dX3_isBefore_107 h
      · replace h := it_f c1 h
        refine r_aload_n X 0 dX3_isBefore_12 rfl rfl ?_
        refine r_getr X 7 25 in_X3 (ci := 2) rfl rfl (ltn hnc rfl) (Nat.le_of_ble_eq_true rfl) rfl w_159 dX3_isBefore_13 (by decide) ?_
        refine r_iload X 4 dX3_isBefore_16 rfl ?_
        obtain ⟨r3, M2, h4, h⟩ := bd2_ex h
        refine r_callSN X (st := []) (av := [.ref 25, .int v5]) (k_X6_at l N _ _ _ _ _ (Or.inl (ltn hnc rfl)) _ _ h4 d (by omega)) (fitR_s (Nat.le_of_ble_eq_true rfl)) ⟨Nat.le_refl 0, Nat.le_refl 0⟩ w_71 w_39 w_70 w_472 hy_X6_at rfl (Nat.le_of_ble_eq_true rfl) dX3_isBefore_18 ?_
        refine r_istore X [(7, .int r3), (0, .ref 21), (1, .int v1), (3, .int v3), (4, .int v4), (5, .int v5), (6, .int v6)] dX3_isBefore_21 (Nat.le_of_ble_eq_true rfl) rfl ?_
        refine r_iload X 4 dX3_isBefore_23 rfl ?_
        refine r_ifeq X 39 dX3_isBefore_25 (by decide) (fun c5 => ?_) (fun c5 => ?_)
        · replace h := it_t c5 h
          refine r_iload X 0 dX3_isBefore_39 rfl ?_
          refine r_aload_n X 1 dX3_isBefore_41 rfl rfl ?_
          refine r_getr X 7 25 in_X3 (ci := 2) rfl rfl (ltn hnc rfl) (Nat.le_of_ble_eq_true rfl) rfl w_159 dX3_isBefore_42 (by decide) ?_
          refine r_iload X 6 dX3_isBefore_45 rfl ?_
          obtain ⟨r7, M6, h8, h⟩ := bd2_ex h
          refine r_callSN X (st := [.int r3]) (av := [.ref 25, .int v6]) (k_X6_at l N _ _ _ _ _ (Or.inl (ltn hnc rfl)) _ _ h8 d (by omega)) (fitR_s (Nat.le_of_ble_eq_true rfl)) ⟨Nat.le_refl 0, Nat.le_refl 0⟩ w_71 w_39 w_70 w_472 hy_X6_at rfl (Nat.le_of_ble_eq_true rfl) dX3_isBefore_47 ?_
          refine r_isub X dX3_isBefore_50 ?_
          refine r_istore X [(8, .int (r3 - r7)), (7, .int r3), (0, .ref 21), (1, .int v1), (3, .int v3), (4, .int v4), (5, .int v5), (6, .int v6)] dX3_isBefore_51 (Nat.le_of_ble_eq_true rfl) rfl ?_
          refine r_iload X 0 dX3_isBefore_53 rfl ?_
          refine r_ifeq X 69 dX3_isBefore_55 (by decide) (fun c9 => ?_) (fun c9 => ?_)
          · replace h := it_t c9 h
            refine r_iload X 6 dX3_isBefore_69 rfl ?_
            refine r_iload_n X 4 dX3_isBefore_71 rfl rfl ?_
            refine r_iadd X dX3_isBefore_72 ?_
            refine r_istore X [(5, .int (v5 + v3)), (8, .int (r3 - r7)), (7, .int r3), (0, .ref 21), (1, .int v1), (3, .int v3), (4, .int v4), (6, .int v6)] dX3_isBefore_73 (Nat.le_of_ble_eq_true rfl) rfl ?_
            refine r_iload X 0 dX3_isBefore_75 rfl ?_
            refine r_ifge X 86 dX3_isBefore_77 (by decide) (fun c10 => ?_) (fun c10 => ?_)
            · replace h := it_t c10 h
              refine r_iload X 0 dX3_isBefore_86 rfl ?_
              refine r_iload_n X 4 dX3_isBefore_88 rfl rfl ?_
              refine r_iclt X 96 dX3_isBefore_89 (by decide) (fun c11 => ?_) (fun c11 => ?_)
              · replace h := it_t c11 h
                refine r_iload X 0 dX3_isBefore_96 rfl ?_
                refine r_istore X [(5, .int (v5 + v3)), (8, .int (r3 - r7)), (7, .int r3), (0, .ref 21), (1, .int v1), (3, .int v3), (4, .int v4), (6, .int v6)] dX3_isBefore_98 (Nat.le_of_ble_eq_true rfl) rfl ?_
                refine r_iinc X [(6, .int (v6 + 1)), (5, .int (v5 + v3)), (8, .int (r3 - r7)), (7, .int r3), (0, .ref 21), (1, .int v1), (3, .int v3), (4, .int v4)] 7 (v6 + 1) dX3_isBefore_100 rfl rfl (Nat.le_of_ble_eq_true rfl) rfl ?_
                refine r_goto X 6 dX3_isBefore_103 (by decide) ?_
                refine r_sub (ls' := [(0, .ref 21), (1, .int v1), (3, .int v3), (4, .int v4), (5, .int (v5 + v3)), (6, .int (v6 + 1))]) [4, 5, 6, 7, 1, 0] rfl ?_
                exact ih M6 v1 v3 v4 (v5 + v3) (v6 + 1) h
              · replace h := it_f c11 h
                refine r_iconst X 0 dX3_isBefore_92 rfl ?_
                refine r_goto X 98 dX3_isBefore_93 (by decide) ?_
                refine r_istore X [(5, .int (0 : Int32)), (8, .int (r3 - r7)), (7, .int r3), (0, .ref 21), (1, .int v1), (3, .int v3), (4, .int v4), (6, .int v6)] dX3_isBefore_98 (Nat.le_of_ble_eq_true rfl) rfl ?_
                refine r_iinc X [(6, .int (v6 + 1)), (5, .int (0 : Int32)), (8, .int (r3 - r7)), (7, .int r3), (0, .ref 21), (1, .int v1), (3, .int v3), (4, .int v4)] 7 (v6 + 1) dX3_isBefore_100 rfl rfl (Nat.le_of_ble_eq_true rfl) rfl ?_
                refine r_goto X 6 dX3_isBefore_103 (by decide) ?_
                refine r_sub (ls' := [(0, .ref 21), (1, .int v1), (3, .int v3), (4, .int v4), (5, .int (0 : Int32)), (6, .int (v6 + 1))]) [4, 5, 6, 7, 1, 0] rfl ?_
                exact ih M6 v1 v3 v4 (0 : Int32) (v6 + 1) h
            · replace h := it_f c10 h
              refine r_iload_n X 4 dX3_isBefore_80 rfl rfl ?_
              refine r_iconst X 1 dX3_isBefore_81 rfl ?_
              refine r_isub X dX3_isBefore_82 ?_
              refine r_goto X 98 dX3_isBefore_83 (by decide) ?_
              obtain ⟨x12, ex12, h⟩ := nm_ex h
              refine r_top ex12 ?_
              refine r_istore X [(5, .int x12), (8, .int (r3 - r7)), (7, .int r3), (0, .ref 21), (1, .int v1), (3, .int v3), (4, .int v4), (6, .int v6)] dX3_isBefore_98 (Nat.le_of_ble_eq_true rfl) rfl ?_
              refine r_iinc X [(6, .int (v6 + 1)), (5, .int x12), (8, .int (r3 - r7)), (7, .int r3), (0, .ref 21), (1, .int v1), (3, .int v3), (4, .int v4)] 7 (v6 + 1) dX3_isBefore_100 rfl rfl (Nat.le_of_ble_eq_true rfl) rfl ?_
              refine r_goto X 6 dX3_isBefore_103 (by decide) ?_
              refine r_sub (ls' := [(0, .ref 21), (1, .int v1), (3, .int v3), (4, .int v4), (5, .int x12), (6, .int (v6 + 1))]) [4, 5, 6, 7, 1, 0] rfl ?_
              exact ih M6 v1 v3 v4 x12 (v6 + 1) h
          · replace h := it_f c9 h
            refine r_iload X 0 dX3_isBefore_58 rfl ?_
            refine r_ifge X 67 dX3_isBefore_60 (by decide) (fun c13 => ?_) (fun c13 => ?_)
            · replace h := it_t c13 h
              refine r_iconst X 0 dX3_isBefore_67 rfl ?_
              exact r_zretE X hr rfl dX3_isBefore_68 h
            · replace h := it_f c13 h
              refine r_iconst X 1 dX3_isBefore_63 rfl ?_
              refine r_goto X 68 dX3_isBefore_64 (by decide) ?_
              exact r_zretE X hr rfl dX3_isBefore_68 h
        · replace h := it_f c5 h
          refine r_getsN X 3 (Nat.le_of_ble_eq_true rfl) w_470 dX3_isBefore_28 ?_
          refine r_iload X 0 dX3_isBefore_31 rfl ?_
          obtain ⟨r15, M14, h16, h⟩ := bd2_ex h
          refine r_callSN X (st := []) (av := [.ref 48, .int r3]) (k_X6_at l N _ _ _ _ _ (Or.inr (Nat.le_of_ble_eq_true rfl)) _ _ h16 d (by omega)) (fitR_s (Nat.le_of_ble_eq_true rfl)) ⟨Nat.le_refl 0, Nat.le_refl 0⟩ w_71 w_39 w_70 w_472 hy_X6_at rfl (Nat.le_of_ble_eq_true rfl) dX3_isBefore_33 ?_
          refine r_goto X 41 dX3_isBefore_36 (by decide) ?_
          refine r_aload_n X 1 dX3_isBefore_41 rfl rfl ?_
          refine r_getr X 7 25 in_X3 (ci := 2) rfl rfl (ltn hnc rfl) (Nat.le_of_ble_eq_true rfl) rfl w_159 dX3_isBefore_42 (by decide) ?_
          refine r_iload X 6 dX3_isBefore_45 rfl ?_
          obtain ⟨r18, M17, h19, h⟩ := bd2_ex h
          refine r_callSN X (st := [.int r15]) (av := [.ref 25, .int v6]) (k_X6_at l N _ _ _ _ _ (Or.inl (ltn hnc rfl)) _ _ h19 d (by omega)) (fitR_s (Nat.le_of_ble_eq_true rfl)) ⟨Nat.le_refl 0, Nat.le_refl 0⟩ w_71 w_39 w_70 w_472 hy_X6_at rfl (Nat.le_of_ble_eq_true rfl) dX3_isBefore_47 ?_
          refine r_isub X dX3_isBefore_50 ?_
          refine r_istore X [(8, .int (r15 - r18)), (7, .int r3), (0, .ref 21), (1, .int v1), (3, .int v3), (4, .int v4), (5, .int v5), (6, .int v6)] dX3_isBefore_51 (Nat.le_of_ble_eq_true rfl) rfl ?_
          refine r_iload X 0 dX3_isBefore_53 rfl ?_
          refine r_ifeq X 69 dX3_isBefore_55 (by decide) (fun c20 => ?_) (fun c20 => ?_)
          · replace h := it_t c20 h
            refine r_iload X 6 dX3_isBefore_69 rfl ?_
            refine r_iload_n X 4 dX3_isBefore_71 rfl rfl ?_
            refine r_iadd X dX3_isBefore_72 ?_
            refine r_istore X [(5, .int (v5 + v3)), (8, .int (r15 - r18)), (7, .int r3), (0, .ref 21), (1, .int v1), (3, .int v3), (4, .int v4), (6, .int v6)] dX3_isBefore_73 (Nat.le_of_ble_eq_true rfl) rfl ?_
            refine r_iload X 0 dX3_isBefore_75 rfl ?_
            refine r_ifge X 86 dX3_isBefore_77 (by decide) (fun c21 => ?_) (fun c21 => ?_)
            · replace h := it_t c21 h
              refine r_iload X 0 dX3_isBefore_86 rfl ?_
              refine r_iload_n X 4 dX3_isBefore_88 rfl rfl ?_
              refine r_iclt X 96 dX3_isBefore_89 (by decide) (fun c22 => ?_) (fun c22 => ?_)
              · replace h := it_t c22 h
                refine r_iload X 0 dX3_isBefore_96 rfl ?_
                refine r_istore X [(5, .int (v5 + v3)), (8, .int (r15 - r18)), (7, .int r3), (0, .ref 21), (1, .int v1), (3, .int v3), (4, .int v4), (6, .int v6)] dX3_isBefore_98 (Nat.le_of_ble_eq_true rfl) rfl ?_
                refine r_iinc X [(6, .int (v6 + 1)), (5, .int (v5 + v3)), (8, .int (r15 - r18)), (7, .int r3), (0, .ref 21), (1, .int v1), (3, .int v3), (4, .int v4)] 7 (v6 + 1) dX3_isBefore_100 rfl rfl (Nat.le_of_ble_eq_true rfl) rfl ?_
                refine r_goto X 6 dX3_isBefore_103 (by decide) ?_
                refine r_sub (ls' := [(0, .ref 21), (1, .int v1), (3, .int v3), (4, .int v4), (5, .int (v5 + v3)), (6, .int (v6 + 1))]) [4, 5, 6, 7, 1, 0] rfl ?_
                exact ih M17 v1 v3 v4 (v5 + v3) (v6 + 1) h
              · replace h := it_f c22 h
                refine r_iconst X 0 dX3_isBefore_92 rfl ?_
                refine r_goto X 98 dX3_isBefore_93 (by decide) ?_
                refine r_istore X [(5, .int (0 : Int32)), (8, .int (r15 - r18)), (7, .int r3), (0, .ref 21), (1, .int v1), (3, .int v3), (4, .int v4), (6, .int v6)] dX3_isBefore_98 (Nat.le_of_ble_eq_true rfl) rfl ?_
                refine r_iinc X [(6, .int (v6 + 1)), (5, .int (0 : Int32)), (8, .int (r15 - r18)), (7, .int r3), (0, .ref 21), (1, .int v1), (3, .int v3), (4, .int v4)] 7 (v6 + 1) dX3_isBefore_100 rfl rfl (Nat.le_of_ble_eq_true rfl) rfl ?_
                refine r_goto X 6 dX3_isBefore_103 (by decide) ?_
                refine r_sub (ls' := [(0, .ref 21), (1, .int v1), (3, .int v3), (4, .int v4), (5, .int (0 : Int32)), (6, .int (v6 + 1))]) [4, 5, 6, 7, 1, 0] rfl ?_
                exact ih M17 v1 v3 v4 (0 : Int32) (v6 + 1) h
            · replace h := it_f c21 h
              refine r_iload_n X 4 dX3_isBefore_80 rfl rfl ?_
              refine r_iconst X 1 dX3_isBefore_81 rfl ?_
              refine r_isub X dX3_isBefore_82 ?_
              refine r_goto X 98 dX3_isBefore_83 (by decide) ?_
              obtain ⟨x23, ex23, h⟩ := nm_ex h
              refine r_top ex23 ?_
              refine r_istore X [(5, .int x23), (8, .int (r15 - r18)), (7, .int r3), (0, .ref 21), (1, .int v1), (3, .int v3), (4, .int v4), (6, .int v6)] dX3_isBefore_98 (Nat.le_of_ble_eq_true rfl) rfl ?_
              refine r_iinc X [(6, .int (v6 + 1)), (5, .int x23), (8, .int (r15 - r18)), (7, .int r3), (0, .ref 21), (1, .int v1), (3, .int v3), (4, .int v4)] 7 (v6 + 1) dX3_isBefore_100 rfl rfl (Nat.le_of_ble_eq_true rfl) rfl ?_
              refine r_goto X 6 dX3_isBefore_103 (by decide) ?_
              refine r_sub (ls' := [(0, .ref 21), (1, .int v1), (3, .int v3), (4, .int v4), (5, .int x23), (6, .int (v6 + 1))]) [4, 5, 6, 7, 1, 0] rfl ?_
              exact ih M17 v1 v3 v4 x23 (v6 + 1) h
          · replace h := it_f c20 h
            refine r_iload X 0 dX3_isBefore_58 rfl ?_
            refine r_ifge X 67 dX3_isBefore_60 (by decide) (fun c24 => ?_) (fun c24 => ?_)
            · replace h := it_t c24 h
              refine r_iconst X 0 dX3_isBefore_67 rfl ?_
              exact r_zretE X hr rfl dX3_isBefore_68 h
            · replace h := it_f c24 h
              refine r_iconst X 1 dX3_isBefore_63 rfl ?_
              refine r_goto X 68 dX3_isBefore_64 (by decide) ?_
              exact r_zretE X hr rfl dX3_isBefore_68 h
  refine r_sub (ls' := [(0, .ref 21), (1, .int p0), (2, .int p1), (3, .int p2), (4, .int p3)]) [0, 1, 2, 3, 4] rfl ?_
  refine r_iload_n X 2 dX3_isBefore_0 rfl rfl ?_
  refine r_istore X [(5, .int p1), (0, .ref 21), (1, .int p0), (2, .int p1), (3, .int p2), (4, .int p3)] dX3_isBefore_1 (Nat.le_of_ble_eq_true rfl) rfl ?_
  refine r_iconst X 0 dX3_isBefore_3 rfl ?_
  refine r_istore X [(6, .int (0 : Int32)), (5, .int p1), (0, .ref 21), (1, .int p0), (2, .int p1), (3, .int p2), (4, .int p3)] dX3_isBefore_4 (Nat.le_of_ble_eq_true rfl) rfl ?_
  refine r_sub (ls' := [(0, .ref 21), (1, .int p0), (3, .int p2), (4, .int p3), (5, .int p1), (6, .int (0 : Int32))]) [2, 3, 5, 6, 1, 0] rfl ?_
  exact hl6  N M p0 p2 p3 p1 (0 : Int32) h
def l_X3_standsForAll_2 (N : Nat)    : Nat → Mem → Int32 → Int32 → Option (Int32 × Mem)
  | 0, _, _, _ => none
  | n + 1, M, v1, v2 =>
    if v1 ≤ v2 then
      (some ((1 : Int32), M))
    else
      (bd2 (f_X3_isBefore N M v1 v2 (1 : Int32) (0 : Int32)) fun r3 M2 =>
      if r3 = 0 then
        (bd2 (f_X3_isBefore N M2 v1 v2 (1 : Int32) (1 : Int32)) fun r7 M6 =>
        if r7 = 0 then
          (bd2 (f_X3_isBefore N M6 v1 v2 (-1 : Int32) (0 : Int32)) fun r11 M10 =>
          if r11 = 0 then
            (bd2 (f_X3_isBefore N M10 v1 v2 (-1 : Int32) (1 : Int32)) fun r15 M14 =>
            if r15 = 0 then
              (l_X3_standsForAll_2 N n M14 v1 (v2 + 1))
            else
              (some ((0 : Int32), M14)))
          else
            (some ((0 : Int32), M10)))
        else
          (some ((0 : Int32), M6)))
      else
        (some ((0 : Int32), M2)))
def f_X3_standsForAll (N : Nat) (M : Mem) (p0 : Int32) : Option (Int32 × Mem) :=
  l_X3_standsForAll_2 N N M p0 (0 : Int32)
set_option maxRecDepth 100000 in
set_option maxHeartbeats 4000000 in
theorem k_X3_standsForAll (l : Launch) (N : Nat) (nc : Nat) (hnc : 34 ≤ nc) (M : Mem) (p0 : Int32) (r : Int32) (M' : Mem) (h : f_X3_standsForAll N M p0 = some (r, M')) (d : Nat) (hd : 2 ≤ d) : Ct l d yX3_standsForAll cX3_standsForAll 3 (some .boolean) shp nc [.ref 21, .int p0] M (some (.int r)) M' := by
  obtain ⟨d, rfl⟩ : ∃ q, d = q + 1 := ⟨d - 1, by omega⟩
  unfold f_X3_standsForAll at h
  refine Ct.of (by decide +kernel) (Nat.le_of_ble_eq_true rfl) ?_
  intro p e s m args below meth c A ad D cI cJ X hr
  have hl2 : ∀ (n : Nat) (M : Mem) (v1 : Int32) (v2 : Int32), l_X3_standsForAll_2 N n M v1 v2 = some (r, M') → AW p l e (rmd (d + 1)) s m args below meth c 3 A ad D cI cJ shp nc 0 0 (MQ below (Qq A ad D cI cJ shp nc (some (.int r)) M') args s 0 0 A) M 2 [(0, .ref 21), (1, .int v1), (2, .int v2)] [] := by
    intro n
    induction n with
    | zero => intro M v1 v2 h; cases h
    | succ n ih =>
      intro M v1 v2 h
      rw [l_X3_standsForAll_2] at h
      refine r_iload_n X 2 dX3_standsForAll_2 rfl rfl ?_
      refine r_iload_n X 1 dX3_standsForAll_3 rfl rfl ?_
      refine r_icge X 59 dX3_standsForAll_4 (by decide) (fun c1 => ?_) (fun c1 => ?_)
      · replace h := it_t c1 h
        refine r_iconst X 1 dX3_standsForAll_59 rfl ?_
        exact r_zretE X hr rfl dX3_standsForAll_60 h
      · replace h := it_f c1 h
        refine r_aload_n X 0 dX3_standsForAll_7 rfl rfl ?_
        refine r_iload_n X 1 dX3_standsForAll_8 rfl rfl ?_
        refine r_iload_n X 2 dX3_standsForAll_9 rfl rfl ?_
        refine r_iconst X 1 dX3_standsForAll_10 rfl ?_
        refine r_iconst X 0 dX3_standsForAll_11 rfl ?_
        obtain ⟨r3, M2, h4, h⟩ := bd2_ex h
        refine r_callV X (st := []) (av := [.int v1, .int v2, .int (1 : Int32), .int (0 : Int32)]) (k := 21) (ci := 2) (k_X3_isBefore l N _ hnc _ _ _ _ _ _ _ h4 d (by omega)) (fitR_s (Nat.le_of_ble_eq_true rfl)) ⟨Nat.le_refl 0, Nat.le_refl 0⟩ rfl (ltn hnc rfl) rfl w_515 w_43 w_514 w_15 w_512 hy_X3_isBefore rfl (Nat.le_of_ble_eq_true rfl) dX3_standsForAll_12 ?_
        refine r_ifne X 51 dX3_standsForAll_15 (by decide) (fun c5 => ?_) (fun c5 => ?_)
        · replace h := it_f c5 h
          refine r_iconst X 0 dX3_standsForAll_51 rfl ?_
          exact r_zretE X hr rfl dX3_standsForAll_52 h
        · replace h := it_t c5 h
          refine r_aload_n X 0 dX3_standsForAll_18 rfl rfl ?_
          refine r_iload_n X 1 dX3_standsForAll_19 rfl rfl ?_
          refine r_iload_n X 2 dX3_standsForAll_20 rfl rfl ?_
          refine r_iconst X 1 dX3_standsForAll_21 rfl ?_
          refine r_iconst X 1 dX3_standsForAll_22 rfl ?_
          obtain ⟨r7, M6, h8, h⟩ := bd2_ex h
          refine r_callV X (st := []) (av := [.int v1, .int v2, .int (1 : Int32), .int (1 : Int32)]) (k := 21) (ci := 2) (k_X3_isBefore l N _ hnc _ _ _ _ _ _ _ h8 d (by omega)) (fitR_s (Nat.le_of_ble_eq_true rfl)) ⟨Nat.le_refl 0, Nat.le_refl 0⟩ rfl (ltn hnc rfl) rfl w_515 w_43 w_514 w_15 w_512 hy_X3_isBefore rfl (Nat.le_of_ble_eq_true rfl) dX3_standsForAll_23 ?_
          refine r_ifne X 51 dX3_standsForAll_26 (by decide) (fun c9 => ?_) (fun c9 => ?_)
          · replace h := it_f c9 h
            refine r_iconst X 0 dX3_standsForAll_51 rfl ?_
            exact r_zretE X hr rfl dX3_standsForAll_52 h
          · replace h := it_t c9 h
            refine r_aload_n X 0 dX3_standsForAll_29 rfl rfl ?_
            refine r_iload_n X 1 dX3_standsForAll_30 rfl rfl ?_
            refine r_iload_n X 2 dX3_standsForAll_31 rfl rfl ?_
            refine r_iconst X (-1) dX3_standsForAll_32 rfl ?_
            refine r_iconst X 0 dX3_standsForAll_33 rfl ?_
            obtain ⟨r11, M10, h12, h⟩ := bd2_ex h
            refine r_callV X (st := []) (av := [.int v1, .int v2, .int (-1 : Int32), .int (0 : Int32)]) (k := 21) (ci := 2) (k_X3_isBefore l N _ hnc _ _ _ _ _ _ _ h12 d (by omega)) (fitR_s (Nat.le_of_ble_eq_true rfl)) ⟨Nat.le_refl 0, Nat.le_refl 0⟩ rfl (ltn hnc rfl) rfl w_515 w_43 w_514 w_15 w_512 hy_X3_isBefore rfl (Nat.le_of_ble_eq_true rfl) dX3_standsForAll_34 ?_
            refine r_ifne X 51 dX3_standsForAll_37 (by decide) (fun c13 => ?_) (fun c13 => ?_)
            · replace h := it_f c13 h
              refine r_iconst X 0 dX3_standsForAll_51 rfl ?_
              exact r_zretE X hr rfl dX3_standsForAll_52 h
            · replace h := it_t c13 h
              refine r_aload_n X 0 dX3_standsForAll_40 rfl rfl ?_
              refine r_iload_n X 1 dX3_standsForAll_41 rfl rfl ?_
              refine r_iload_n X 2 dX3_standsForAll_42 rfl rfl ?_
              refine r_iconst X (-1) dX3_standsForAll_43 rfl ?_
              refine r_iconst X 1 dX3_standsForAll_44 rfl ?_
              obtain ⟨r15, M14, h16, h⟩ := bd2_ex h
              refine r_callV X (st := []) (av := [.int v1, .int v2, .int (-1 : Int32), .int (1 : Int32)]) (k := 21) (ci := 2) (k_X3_isBefore l N _ hnc _ _ _ _ _ _ _ h16 d (by omega)) (fitR_s (Nat.le_of_ble_eq_true rfl)) ⟨Nat.le_refl 0, Nat.le_refl 0⟩ rfl (ltn hnc rfl) rfl w_515 w_43 w_514 w_15 w_512 hy_X3_isBefore rfl (Nat.le_of_ble_eq_true rfl) dX3_standsForAll_45 ?_
              refine r_ifeq X 53 dX3_standsForAll_48 (by decide) (fun c17 => ?_) (fun c17 => ?_)
              · replace h := it_t c17 h
                refine r_iinc X [(2, .int (v2 + 1)), (0, .ref 21), (1, .int v1)] 2 (v2 + 1) dX3_standsForAll_53 rfl rfl (Nat.le_of_ble_eq_true rfl) rfl ?_
                refine r_goto X 2 dX3_standsForAll_56 (by decide) ?_
                refine r_sub (ls' := [(0, .ref 21), (1, .int v1), (2, .int (v2 + 1))]) [1, 2, 0] rfl ?_
                exact ih M14 v1 (v2 + 1) h
              · replace h := it_f c17 h
                refine r_iconst X 0 dX3_standsForAll_51 rfl ?_
                exact r_zretE X hr rfl dX3_standsForAll_52 h
  refine r_sub (ls' := [(0, .ref 21), (1, .int p0)]) [0, 1] rfl ?_
  refine r_iconst X 0 dX3_standsForAll_0 rfl ?_
  refine r_istore_n X [(2, .int (0 : Int32)), (0, .ref 21), (1, .int p0)] dX3_standsForAll_1 rfl (Nat.le_of_ble_eq_true rfl) rfl ?_
  refine r_sub (ls' := [(0, .ref 21), (1, .int p0), (2, .int (0 : Int32))]) [1, 2, 0] rfl ?_
  exact hl2  N M p0 (0 : Int32) h
def l_X0_lackedKind_2 (N : Nat)   (a0 : Nat) : Nat → Mem → Int32 → Int32 → Option (Int32 × Mem)
  | 0, _, _, _ => none
  | n + 1, M, v2, v3 =>
    if (7 : Int32) ≤ v3 then
      (some ((-9 : Int32), M))
    else
      (bd2 (f_X0_taken N M a0 v2 v3) fun r3 M2 =>
      bd2 (f_X6_at shp N M2 2 v3) fun r6 M5 =>
      if r3 ≤ r6 then
        (l_X0_lackedKind_2 N a0 n M5 v2 (v3 + 1))
      else
        (some (v3, M5)))
def f_X0_lackedKind (N : Nat) (M : Mem) (a0 : Nat) (p1 : Int32) : Option (Int32 × Mem) :=
  l_X0_lackedKind_2 N a0 N M p1 (0 : Int32)
set_option maxRecDepth 100000 in
set_option maxHeartbeats 4000000 in
theorem k_X0_lackedKind (l : Launch) (N : Nat) (nc : Nat) (hnc : 34 ≤ nc) (M : Mem) (a0 : Nat) (p1 : Int32) (ha0 : a0 < nc ∨ 45 ≤ a0) (r : Int32) (M' : Mem) (h : f_X0_lackedKind N M a0 p1 = some (r, M')) (d : Nat) (hd : 2 ≤ d) : Ct l d yX0_lackedKind cX0_lackedKind 4 (some .int) shp nc [.ref 1, .ref a0, .int p1] M (some (.int r)) M' := by
  obtain ⟨d, rfl⟩ : ∃ q, d = q + 1 := ⟨d - 1, by omega⟩
  unfold f_X0_lackedKind at h
  refine Ct.of (by decide +kernel) (Nat.le_of_ble_eq_true rfl) ?_
  intro p e s m args below meth c A ad D cI cJ X hr
  have hl2 : ∀ (n : Nat) (M : Mem) (v2 : Int32) (v3 : Int32), l_X0_lackedKind_2 N a0 n M v2 v3 = some (r, M') → AW p l e (rmd (d + 1)) s m args below meth c 4 A ad D cI cJ shp nc 0 0 (MQ below (Qq A ad D cI cJ shp nc (some (.int r)) M') args s 0 0 A) M 2 [(0, .ref 1), (1, .ref a0), (2, .int v2), (3, .int v3)] [] := by
    intro n
    induction n with
    | zero => intro M v2 v3 h; cases h
    | succ n ih =>
      intro M v2 v3 h
      rw [l_X0_lackedKind_2] at h
      refine r_iload_n X 3 dX0_lackedKind_2 rfl rfl ?_
      refine r_bipush X 7 dX0_lackedKind_3 rfl ?_
      refine r_icge X 33 dX0_lackedKind_5 (by decide) (fun c1 => ?_) (fun c1 => ?_)
      · replace h := it_t c1 h
        refine r_bipush X (-9) dX0_lackedKind_33 rfl ?_
        exact r_iretE X hr dX0_lackedKind_35 h
      · replace h := it_f c1 h
        refine r_aload_n X 1 dX0_lackedKind_8 rfl rfl ?_
        refine r_iload_n X 2 dX0_lackedKind_9 rfl rfl ?_
        refine r_iload_n X 3 dX0_lackedKind_10 rfl rfl ?_
        obtain ⟨r3, M2, h4, h⟩ := bd2_ex h
        refine r_callS X (st := []) (av := [.ref a0, .int v2, .int v3]) (k_X0_taken l N _ hnc _ _ _ _ ha0 _ _ h4 d (by omega)) (fitR_s (Nat.le_of_ble_eq_true rfl)) ⟨Nat.le_refl 0, Nat.le_refl 0⟩ w_379 w_40 w_378 w_377 hy_X0_taken rfl (Nat.le_of_ble_eq_true rfl) dX0_lackedKind_11 ?_
        refine r_aload_n X 0 dX0_lackedKind_14 rfl rfl ?_
        refine r_getr X 0 2 in_X0 (ci := 0) rfl rfl (ltn hnc rfl) (Nat.le_of_ble_eq_true rfl) rfl w_74 dX0_lackedKind_15 (by decide) ?_
        refine r_iload_n X 3 dX0_lackedKind_18 rfl rfl ?_
        obtain ⟨r6, M5, h7, h⟩ := bd2_ex h
        refine r_callSN X (st := [.int r3]) (av := [.ref 2, .int v3]) (k_X6_at l N _ _ _ _ _ (Or.inl (ltn hnc rfl)) _ _ h7 d (by omega)) (fitR_s (Nat.le_of_ble_eq_true rfl)) ⟨Nat.le_refl 0, Nat.le_refl 0⟩ w_71 w_39 w_70 w_301 hy_X6_at rfl (Nat.le_of_ble_eq_true rfl) dX0_lackedKind_19 ?_
        refine r_icle X 27 dX0_lackedKind_22 (by decide) (fun c8 => ?_) (fun c8 => ?_)
        · replace h := it_t c8 h
          refine r_iinc X [(3, .int (v3 + 1)), (0, .ref 1), (1, .ref a0), (2, .int v2)] 3 (v3 + 1) dX0_lackedKind_27 rfl rfl (Nat.le_of_ble_eq_true rfl) rfl ?_
          refine r_goto X 2 dX0_lackedKind_30 (by decide) ?_
          refine r_sub (ls' := [(0, .ref 1), (1, .ref a0), (2, .int v2), (3, .int (v3 + 1))]) [1, 2, 3, 0] rfl ?_
          exact ih M5 v2 (v3 + 1) h
        · replace h := it_f c8 h
          refine r_iload_n X 3 dX0_lackedKind_25 rfl rfl ?_
          exact r_iretE X hr dX0_lackedKind_26 h
  refine r_sub (ls' := [(0, .ref 1), (1, .ref a0), (2, .int p1)]) [0, 1, 2] rfl ?_
  refine r_iconst X 0 dX0_lackedKind_0 rfl ?_
  refine r_istore_n X [(3, .int (0 : Int32)), (0, .ref 1), (1, .ref a0), (2, .int p1)] dX0_lackedKind_1 rfl (Nat.le_of_ble_eq_true rfl) rfl ?_
  refine r_sub (ls' := [(0, .ref 1), (1, .ref a0), (2, .int p1), (3, .int (0 : Int32))]) [1, 2, 3, 0] rfl ?_
  exact hl2  N M p1 (0 : Int32) h
def f_X3_countRing (N : Nat) (M : Mem) (p0 : Int32) (p1 : Int32) (p2 : Int32) : Option Mem :=
  if p2 < 0 then
    (some M)
  else
    (bd2 (f_X3_standsForAll N M p0) fun r3 M2 =>
    if r3 = 0 then
      (some M2)
    else
      (if p1 = 0 then
        (if p2 = 0 then
          (nm (seI M2 21 9 ((M2.1 21 9) + (1 : Int32))) fun M16 =>
          some M16)
        else
          (bd2 (f_X0_lackedKind N M2 25 p0) fun r9 M8 =>
          bd2 (f_X6_at shp N M8 26 r9) fun r12 M11 =>
          bd (f_X6_put shp N M11 26 r9 (r12 + (1 : Int32))) fun M14 =>
          some M14))
      else
        (bd (f_X5_follow N M2 25 p0) fun M17 =>
        bd2 (f_X0_firstOff N M17 ) fun r20 M19 =>
        if r20 = (-9 : Int32) then
          (bd2 (f_X5_firstTouch N M19 ) fun r24 M23 =>
          if r24 = (-9 : Int32) then
            (if p2 = 0 then
              (nm (seI M23 21 9 ((M23.1 21 9) + (1 : Int32))) fun M36 =>
              some M36)
            else
              (bd2 (f_X0_lackedKind N M23 25 p0) fun r29 M28 =>
              bd2 (f_X6_at shp N M28 26 r29) fun r32 M31 =>
              bd (f_X6_put shp N M31 26 r29 (r32 + (1 : Int32))) fun M34 =>
              some M34))
          else
            (some M23))
        else
          (some M19))))
set_option maxRecDepth 100000 in
set_option maxHeartbeats 4000000 in
theorem k_X3_countRing (l : Launch) (N : Nat) (nc : Nat) (hnc : 34 ≤ nc) (M : Mem) (p0 : Int32) (p1 : Int32) (p2 : Int32) (M' : Mem) (h : f_X3_countRing N M p0 p1 p2 = some M') (d : Nat) (hd : 4 ≤ d) : Ct l d yX3_countRing cX3_countRing 5 none shp nc [.ref 21, .int p0, .int p1, .int p2] M none M' := by
  obtain ⟨d, rfl⟩ : ∃ q, d = q + 1 := ⟨d - 1, by omega⟩
  unfold f_X3_countRing at h
  refine Ct.of (by decide +kernel) (Nat.le_of_ble_eq_true rfl) ?_
  intro p e s m args below meth c A ad D cI cJ X hr
  refine r_sub (ls' := [(0, .ref 21), (1, .int p0), (2, .int p1), (3, .int p2)]) [0, 1, 2, 3] rfl ?_
  refine r_iload_n X 3 dX3_countRing_0 rfl rfl ?_
  refine r_iflt X 12 dX3_countRing_1 (by decide) (fun c1 => ?_) (fun c1 => ?_)
  · replace h := it_t c1 h
    exact r_vretE X hr dX3_countRing_12 h
  · replace h := it_f c1 h
    refine r_aload_n X 0 dX3_countRing_4 rfl rfl ?_
    refine r_iload_n X 1 dX3_countRing_5 rfl rfl ?_
    obtain ⟨r3, M2, h4, h⟩ := bd2_ex h
    refine r_callV X (st := []) (av := [.int p0]) (k := 21) (ci := 2) (k_X3_standsForAll l N _ hnc _ _ _ _ h4 d (by omega)) (fitR_s (Nat.le_of_ble_eq_true rfl)) ⟨Nat.le_refl 0, Nat.le_refl 0⟩ rfl (ltn hnc rfl) rfl w_511 w_43 w_510 w_14 w_508 hy_X3_standsForAll rfl (Nat.le_of_ble_eq_true rfl) dX3_countRing_6 ?_
    refine r_ifne X 13 dX3_countRing_9 (by decide) (fun c5 => ?_) (fun c5 => ?_)
    · replace h := it_f c5 h
      refine r_iload_n X 2 dX3_countRing_13 rfl rfl ?_
      refine r_ifeq X 58 dX3_countRing_14 (by decide) (fun c6 => ?_) (fun c6 => ?_)
      · replace h := it_t c6 h
        refine r_iload_n X 3 dX3_countRing_58 rfl rfl ?_
        refine r_ifne X 75 dX3_countRing_59 (by decide) (fun c7 => ?_) (fun c7 => ?_)
        · replace h := it_f c7 h
          refine r_aload_n X 0 dX3_countRing_75 rfl rfl ?_
          refine r_getr X 0 1 in_X3 (ci := 2) rfl rfl (ltn hnc rfl) (Nat.le_of_ble_eq_true rfl) rfl w_152 dX3_countRing_76 (by decide) ?_
          refine r_aload_n X 0 dX3_countRing_79 rfl rfl ?_
          refine r_getr X 7 25 in_X3 (ci := 2) rfl rfl (ltn hnc rfl) (Nat.le_of_ble_eq_true rfl) rfl w_159 dX3_countRing_80 (by decide) ?_
          refine r_iload_n X 1 dX3_countRing_83 rfl rfl ?_
          obtain ⟨r9, M8, h10, h⟩ := bd2_ex h
          refine r_callV X (st := []) (av := [.ref 25, .int p0]) (k := 1) (ci := 0) (k_X0_lackedKind l N _ hnc _ _ _ (Or.inl (ltn hnc rfl)) _ _ h10 d (by omega)) (fitR_s (Nat.le_of_ble_eq_true rfl)) ⟨Nat.le_refl 0, Nat.le_refl 0⟩ rfl (ltn hnc rfl) rfl w_522 w_40 w_520 w_521 w_519 hy_X0_lackedKind rfl (Nat.le_of_ble_eq_true rfl) dX3_countRing_84 ?_
          refine r_istore X [(4, .int r9), (0, .ref 21), (1, .int p0), (2, .int p1), (3, .int p2)] dX3_countRing_87 (Nat.le_of_ble_eq_true rfl) rfl ?_
          refine r_aload_n X 1 dX3_countRing_89 rfl rfl ?_
          refine r_getr X 8 26 in_X3 (ci := 2) rfl rfl (ltn hnc rfl) (Nat.le_of_ble_eq_true rfl) rfl w_161 dX3_countRing_90 (by decide) ?_
          refine r_iload X 0 dX3_countRing_93 rfl ?_
          refine r_aload_n X 1 dX3_countRing_95 rfl rfl ?_
          refine r_getr X 8 26 in_X3 (ci := 2) rfl rfl (ltn hnc rfl) (Nat.le_of_ble_eq_true rfl) rfl w_161 dX3_countRing_96 (by decide) ?_
          refine r_iload X 0 dX3_countRing_99 rfl ?_
          obtain ⟨r12, M11, h13, h⟩ := bd2_ex h
          refine r_callSN X (st := [.int r9, .ref 26]) (av := [.ref 26, .int r9]) (k_X6_at l N _ _ _ _ _ (Or.inl (ltn hnc rfl)) _ _ h13 d (by omega)) (fitR_s (Nat.le_of_ble_eq_true rfl)) ⟨Nat.le_refl 0, Nat.le_refl 0⟩ w_71 w_39 w_70 w_472 hy_X6_at rfl (Nat.le_of_ble_eq_true rfl) dX3_countRing_101 ?_
          refine r_iconst X 1 dX3_countRing_104 rfl ?_
          refine r_iadd X dX3_countRing_105 ?_
          obtain ⟨M14, h15, h⟩ := bd_ex h
          refine r_callSN X (st := []) (av := [.ref 26, .int r9, .int (r12 + (1 : Int32))]) (k_X6_put l N _ _ _ _ _ _ (Or.inl (ltn hnc rfl)) _ h15 d (by omega)) (fitR_s (Nat.le_of_ble_eq_true rfl)) ⟨Nat.le_refl 0, Nat.le_refl 0⟩ w_287 w_39 w_286 w_473 hy_X6_put rfl (Nat.le_of_ble_eq_true rfl) dX3_countRing_106 ?_
          exact r_vretE X hr dX3_countRing_109 h
        · replace h := it_t c7 h
          refine r_aload_n X 0 dX3_countRing_62 rfl rfl ?_
          refine r_dup X dX3_countRing_63 rfl ?_
          refine r_geti X 9 in_X3 (ci := 2) rfl rfl (ltn hnc rfl) (Nat.le_of_ble_eq_true rfl) rfl w_163 dX3_countRing_64 ?_
          refine r_iconst X 1 dX3_countRing_67 rfl ?_
          refine r_iadd X dX3_countRing_68 ?_
          obtain ⟨M16, eM16, h⟩ := nm_ex h
          refine r_puti X 9 in_X3 (ci := 2) rfl tyX3_ok nmX3 rfl (ltn hnc rfl) (Nat.le_of_ble_eq_true rfl) rfl w_163 rfl (ty := .int) rfl rfl rfl dX3_countRing_69 ?_
          refine r_mem eM16 ?_
          refine r_goto X 109 dX3_countRing_72 (by decide) ?_
          exact r_vretE X hr dX3_countRing_109 h
      · replace h := it_f c6 h
        refine r_aload_n X 0 dX3_countRing_17 rfl rfl ?_
        refine r_getr X 2 17 in_X3 (ci := 2) rfl rfl (ltn hnc rfl) (Nat.le_of_ble_eq_true rfl) rfl w_154 dX3_countRing_18 (by decide) ?_
        refine r_aload_n X 0 dX3_countRing_21 rfl rfl ?_
        refine r_getr X 7 25 in_X3 (ci := 2) rfl rfl (ltn hnc rfl) (Nat.le_of_ble_eq_true rfl) rfl w_159 dX3_countRing_22 (by decide) ?_
        refine r_iload_n X 1 dX3_countRing_25 rfl rfl ?_
        obtain ⟨M17, h18, h⟩ := bd_ex h
        refine r_callV X (st := []) (av := [.ref 25, .int p0]) (k := 17) (ci := 4) (k_X5_follow l N _ hnc _ _ _ (Or.inl (ltn hnc rfl)) _ h18 d (by omega)) (fitR_s (Nat.le_of_ble_eq_true rfl)) ⟨Nat.le_refl 0, Nat.le_refl 0⟩ rfl (ltn hnc rfl) rfl w_335 w_42 w_333 w_334 w_516 hy_X5_follow rfl (Nat.le_of_ble_eq_true rfl) dX3_countRing_26 ?_
        refine r_aload_n X 0 dX3_countRing_29 rfl rfl ?_
        refine r_getr X 0 1 in_X3 (ci := 2) rfl rfl (ltn hnc rfl) (Nat.le_of_ble_eq_true rfl) rfl w_152 dX3_countRing_30 (by decide) ?_
        refine r_aload_n X 0 dX3_countRing_33 rfl rfl ?_
        refine r_getr X 2 17 in_X3 (ci := 2) rfl rfl (ltn hnc rfl) (Nat.le_of_ble_eq_true rfl) rfl w_154 dX3_countRing_34 (by decide) ?_
        obtain ⟨r20, M19, h21, h⟩ := bd2_ex h
        refine r_callV X (st := []) (av := [.ref 17]) (k := 1) (ci := 0) (k_X0_firstOff l N _ hnc _  _ _ h21 d (by omega)) (fitR_s (Nat.le_of_ble_eq_true rfl)) ⟨Nat.le_refl 0, Nat.le_refl 0⟩ rfl (ltn hnc rfl) rfl w_425 w_40 w_423 w_424 w_517 hy_X0_firstOff rfl (Nat.le_of_ble_eq_true rfl) dX3_countRing_37 ?_
        refine r_bipush X (-9) dX3_countRing_40 rfl ?_
        refine r_icne X 57 dX3_countRing_42 (by decide) (fun c22 => ?_) (fun c22 => ?_)
        · replace h := it_f c22 h
          exact r_vretE X hr dX3_countRing_57 h
        · replace h := it_t c22 h
          refine r_aload_n X 0 dX3_countRing_45 rfl rfl ?_
          refine r_getr X 2 17 in_X3 (ci := 2) rfl rfl (ltn hnc rfl) (Nat.le_of_ble_eq_true rfl) rfl w_154 dX3_countRing_46 (by decide) ?_
          obtain ⟨r24, M23, h25, h⟩ := bd2_ex h
          refine r_callV X (st := []) (av := []) (k := 17) (ci := 4) (k_X5_firstTouch l N _ hnc _  _ _ h25 d (by omega)) (fitR_s (Nat.le_of_ble_eq_true rfl)) ⟨Nat.le_refl 0, Nat.le_refl 0⟩ rfl (ltn hnc rfl) rfl w_445 w_42 w_443 w_444 w_518 hy_X5_firstTouch rfl (Nat.le_of_ble_eq_true rfl) dX3_countRing_49 ?_
          refine r_bipush X (-9) dX3_countRing_52 rfl ?_
          refine r_iceq X 58 dX3_countRing_54 (by decide) (fun c26 => ?_) (fun c26 => ?_)
          · replace h := it_t c26 h
            refine r_iload_n X 3 dX3_countRing_58 rfl rfl ?_
            refine r_ifne X 75 dX3_countRing_59 (by decide) (fun c27 => ?_) (fun c27 => ?_)
            · replace h := it_f c27 h
              refine r_aload_n X 0 dX3_countRing_75 rfl rfl ?_
              refine r_getr X 0 1 in_X3 (ci := 2) rfl rfl (ltn hnc rfl) (Nat.le_of_ble_eq_true rfl) rfl w_152 dX3_countRing_76 (by decide) ?_
              refine r_aload_n X 0 dX3_countRing_79 rfl rfl ?_
              refine r_getr X 7 25 in_X3 (ci := 2) rfl rfl (ltn hnc rfl) (Nat.le_of_ble_eq_true rfl) rfl w_159 dX3_countRing_80 (by decide) ?_
              refine r_iload_n X 1 dX3_countRing_83 rfl rfl ?_
              obtain ⟨r29, M28, h30, h⟩ := bd2_ex h
              refine r_callV X (st := []) (av := [.ref 25, .int p0]) (k := 1) (ci := 0) (k_X0_lackedKind l N _ hnc _ _ _ (Or.inl (ltn hnc rfl)) _ _ h30 d (by omega)) (fitR_s (Nat.le_of_ble_eq_true rfl)) ⟨Nat.le_refl 0, Nat.le_refl 0⟩ rfl (ltn hnc rfl) rfl w_522 w_40 w_520 w_521 w_519 hy_X0_lackedKind rfl (Nat.le_of_ble_eq_true rfl) dX3_countRing_84 ?_
              refine r_istore X [(4, .int r29), (0, .ref 21), (1, .int p0), (2, .int p1), (3, .int p2)] dX3_countRing_87 (Nat.le_of_ble_eq_true rfl) rfl ?_
              refine r_aload_n X 1 dX3_countRing_89 rfl rfl ?_
              refine r_getr X 8 26 in_X3 (ci := 2) rfl rfl (ltn hnc rfl) (Nat.le_of_ble_eq_true rfl) rfl w_161 dX3_countRing_90 (by decide) ?_
              refine r_iload X 0 dX3_countRing_93 rfl ?_
              refine r_aload_n X 1 dX3_countRing_95 rfl rfl ?_
              refine r_getr X 8 26 in_X3 (ci := 2) rfl rfl (ltn hnc rfl) (Nat.le_of_ble_eq_true rfl) rfl w_161 dX3_countRing_96 (by decide) ?_
              refine r_iload X 0 dX3_countRing_99 rfl ?_
              obtain ⟨r32, M31, h33, h⟩ := bd2_ex h
              refine r_callSN X (st := [.int r29, .ref 26]) (av := [.ref 26, .int r29]) (k_X6_at l N _ _ _ _ _ (Or.inl (ltn hnc rfl)) _ _ h33 d (by omega)) (fitR_s (Nat.le_of_ble_eq_true rfl)) ⟨Nat.le_refl 0, Nat.le_refl 0⟩ w_71 w_39 w_70 w_472 hy_X6_at rfl (Nat.le_of_ble_eq_true rfl) dX3_countRing_101 ?_
              refine r_iconst X 1 dX3_countRing_104 rfl ?_
              refine r_iadd X dX3_countRing_105 ?_
              obtain ⟨M34, h35, h⟩ := bd_ex h
              refine r_callSN X (st := []) (av := [.ref 26, .int r29, .int (r32 + (1 : Int32))]) (k_X6_put l N _ _ _ _ _ _ (Or.inl (ltn hnc rfl)) _ h35 d (by omega)) (fitR_s (Nat.le_of_ble_eq_true rfl)) ⟨Nat.le_refl 0, Nat.le_refl 0⟩ w_287 w_39 w_286 w_473 hy_X6_put rfl (Nat.le_of_ble_eq_true rfl) dX3_countRing_106 ?_
              exact r_vretE X hr dX3_countRing_109 h
            · replace h := it_t c27 h
              refine r_aload_n X 0 dX3_countRing_62 rfl rfl ?_
              refine r_dup X dX3_countRing_63 rfl ?_
              refine r_geti X 9 in_X3 (ci := 2) rfl rfl (ltn hnc rfl) (Nat.le_of_ble_eq_true rfl) rfl w_163 dX3_countRing_64 ?_
              refine r_iconst X 1 dX3_countRing_67 rfl ?_
              refine r_iadd X dX3_countRing_68 ?_
              obtain ⟨M36, eM36, h⟩ := nm_ex h
              refine r_puti X 9 in_X3 (ci := 2) rfl tyX3_ok nmX3 rfl (ltn hnc rfl) (Nat.le_of_ble_eq_true rfl) rfl w_163 rfl (ty := .int) rfl rfl rfl dX3_countRing_69 ?_
              refine r_mem eM36 ?_
              refine r_goto X 109 dX3_countRing_72 (by decide) ?_
              exact r_vretE X hr dX3_countRing_109 h
          · replace h := it_f c26 h
            exact r_vretE X hr dX3_countRing_57 h
    · replace h := it_t c5 h
      exact r_vretE X hr dX3_countRing_12 h
def l_X3_throughTails_31 (N : Nat)    : Nat → Mem → Int32 → Int32 → Int32 → Int32 → Int32 → Int64 → Int32 → Int32 → Option Mem
  | 0, _, _, _, _, _, _, _, _, _ => none
  | n + 1, M, v1, v2, v3, v4, v5, v6, v8, v9 =>
    if (1000 : Int32) ≤ v9 then
      (some M)
    else
      (if v8 < 0 then
        (some M)
      else
        (if v4 < (M.1 21 9) then
          (some M)
        else
          (bd2 (f_X6_placeAt shp N M 22 v8) fun r15 M14 =>
          if (lg_cmp r15 v6) = 0 then
            (bd (f_X3_layAt N M14 v5 (3 : Int32) v8) fun M21 =>
            bd2 (f_X3_lacks N M21 v1 v3) fun r24 M23 =>
            bd (f_X3_countRing N M23 v1 v2 r24) fun M26 =>
            bd2 (f_X6_at shp N M26 23 v8) fun r29 M28 =>
            l_X3_throughTails_31 N n M28 v1 v2 v3 v4 v5 v6 r29 (v9 + 1))
          else
            (bd2 (f_X6_at shp N M14 23 v8) fun r19 M18 =>
            l_X3_throughTails_31 N n M18 v1 v2 v3 v4 v5 v6 r19 (v9 + 1)))))
def f_X3_throughTails (N : Nat) (M : Mem) (p0 : Int32) (p1 : Int32) (p2 : Int32) (p3 : Int32) : Option Mem :=
  nm (p0 - (3 : Int32)) fun x1 =>
  bd2 (f_X3_endOf N M x1 (1 : Int32)) fun r3 M2 =>
  bd2 (f_X3_slotOf N M2 r3) fun r6 M5 =>
  bd2 (f_X6_at shp N M5 24 r6) fun r9 M8 =>
  l_X3_throughTails_31 N N M8 p0 p1 p2 p3 x1 r3 r9 (0 : Int32)
set_option maxRecDepth 100000 in
set_option maxHeartbeats 4000000 in
theorem k_X3_throughTails (l : Launch) (N : Nat) (nc : Nat) (hnc : 34 ≤ nc) (M : Mem) (p0 : Int32) (p1 : Int32) (p2 : Int32) (p3 : Int32) (M' : Mem) (h : f_X3_throughTails N M p0 p1 p2 p3 = some M') (d : Nat) (hd : 5 ≤ d) : Ct l d yX3_throughTails cX3_throughTails 10 none shp nc [.ref 21, .int p0, .int p1, .int p2, .int p3] M none M' := by
  obtain ⟨d, rfl⟩ : ∃ q, d = q + 1 := ⟨d - 1, by omega⟩
  unfold f_X3_throughTails at h
  refine Ct.of (by decide +kernel) (Nat.le_of_ble_eq_true rfl) ?_
  intro p e s m args below meth c A ad D cI cJ X hr
  have hl31 : ∀ (n : Nat) (M : Mem) (v1 : Int32) (v2 : Int32) (v3 : Int32) (v4 : Int32) (v5 : Int32) (v6 : Int64) (v8 : Int32) (v9 : Int32), l_X3_throughTails_31 N n M v1 v2 v3 v4 v5 v6 v8 v9 = some M' → AW p l e (rmd (d + 1)) s m args below meth c 10 A ad D cI cJ shp nc 0 0 (MQ below (Qq A ad D cI cJ shp nc none M') args s 0 0 A) M 31 [(0, .ref 21), (1, .int v1), (2, .int v2), (3, .int v3), (4, .int v4), (5, .int v5), (6, .long v6), (8, .int v8), (9, .int v9)] [] := by
    intro n
    induction n with
    | zero => intro M v1 v2 v3 v4 v5 v6 v8 v9 h; cases h
    | succ n ih =>
      intro M v1 v2 v3 v4 v5 v6 v8 v9 h
      rw [l_X3_throughTails_31] at h
      refine r_iload X 8 dX3_throughTails_31 rfl ?_
      refine r_sipush X 1000 dX3_throughTails_33 rfl ?_
      refine r_icge X 106 dX3_throughTails_36 (by decide) (fun c11 => ?_) (fun c11 => ?_)
      · replace h := it_t c11 h
        exact r_vretE X hr dX3_throughTails_106 h
      · replace h := it_f c11 h
        refine r_iload X 7 dX3_throughTails_39 rfl ?_
        refine r_iflt X 106 dX3_throughTails_41 (by decide) (fun c12 => ?_) (fun c12 => ?_)
        · replace h := it_t c12 h
          exact r_vretE X hr dX3_throughTails_106 h
        · replace h := it_f c12 h
          refine r_aload_n X 0 dX3_throughTails_44 rfl rfl ?_
          refine r_geti X 9 in_X3 (ci := 2) rfl rfl (ltn hnc rfl) (Nat.le_of_ble_eq_true rfl) rfl w_163 dX3_throughTails_45 ?_
          refine r_iload X 4 dX3_throughTails_48 rfl ?_
          refine r_icgt X 106 dX3_throughTails_50 (by decide) (fun c13 => ?_) (fun c13 => ?_)
          · replace h := it_t c13 h
            exact r_vretE X hr dX3_throughTails_106 h
          · replace h := it_f c13 h
            refine r_aload_n X 0 dX3_throughTails_53 rfl rfl ?_
            refine r_getr X 3 22 in_X3 (ci := 2) rfl rfl (ltn hnc rfl) (Nat.le_of_ble_eq_true rfl) rfl w_155 dX3_throughTails_54 (by decide) ?_
            refine r_iload X 7 dX3_throughTails_57 rfl ?_
            obtain ⟨r15, M14, h16, h⟩ := bd2_ex h
            refine r_callSN X (st := []) (av := [.ref 22, .int v8]) (k_X6_placeAt l N _ _ _ _ _ (Or.inl (ltn hnc rfl)) _ _ h16 d (by omega)) (fitR_s (Nat.le_of_ble_eq_true rfl)) ⟨Nat.le_refl 0, Nat.le_refl 0⟩ w_343 w_39 w_342 w_503 hy_X6_placeAt rfl (Nat.le_of_ble_eq_true rfl) dX3_throughTails_59 ?_
            refine r_lload X 6 dX3_throughTails_62 rfl ?_
            refine r_lcmp X dX3_throughTails_64 ?_
            refine r_ifne X 89 dX3_throughTails_65 (by decide) (fun c17 => ?_) (fun c17 => ?_)
            · replace h := it_f c17 h
              refine r_aload_n X 0 dX3_throughTails_89 rfl rfl ?_
              refine r_getr X 4 23 in_X3 (ci := 2) rfl rfl (ltn hnc rfl) (Nat.le_of_ble_eq_true rfl) rfl w_156 dX3_throughTails_90 (by decide) ?_
              refine r_iload X 7 dX3_throughTails_93 rfl ?_
              obtain ⟨r19, M18, h20, h⟩ := bd2_ex h
              refine r_callSN X (st := []) (av := [.ref 23, .int v8]) (k_X6_at l N _ _ _ _ _ (Or.inl (ltn hnc rfl)) _ _ h20 d (by omega)) (fitR_s (Nat.le_of_ble_eq_true rfl)) ⟨Nat.le_refl 0, Nat.le_refl 0⟩ w_71 w_39 w_70 w_472 hy_X6_at rfl (Nat.le_of_ble_eq_true rfl) dX3_throughTails_95 ?_
              refine r_istore X [(8, .int r19), (0, .ref 21), (1, .int v1), (2, .int v2), (3, .int v3), (4, .int v4), (5, .int v5), (6, .long v6), (9, .int v9)] dX3_throughTails_98 (Nat.le_of_ble_eq_true rfl) rfl ?_
              refine r_iinc X [(9, .int (v9 + 1)), (8, .int r19), (0, .ref 21), (1, .int v1), (2, .int v2), (3, .int v3), (4, .int v4), (5, .int v5), (6, .long v6)] 8 (v9 + 1) dX3_throughTails_100 rfl rfl (Nat.le_of_ble_eq_true rfl) rfl ?_
              refine r_goto X 31 dX3_throughTails_103 (by decide) ?_
              refine r_sub (ls' := [(0, .ref 21), (1, .int v1), (2, .int v2), (3, .int v3), (4, .int v4), (5, .int v5), (6, .long v6), (8, .int r19), (9, .int (v9 + 1))]) [2, 3, 4, 5, 6, 7, 8, 1, 0] rfl ?_
              exact ih M18 v1 v2 v3 v4 v5 v6 r19 (v9 + 1) h
            · replace h := it_t c17 h
              refine r_aload_n X 0 dX3_throughTails_68 rfl rfl ?_
              refine r_iload X 5 dX3_throughTails_69 rfl ?_
              refine r_iconst X 3 dX3_throughTails_71 rfl ?_
              refine r_iload X 7 dX3_throughTails_72 rfl ?_
              obtain ⟨M21, h22, h⟩ := bd_ex h
              refine r_callV X (st := []) (av := [.int v5, .int (3 : Int32), .int v8]) (k := 21) (ci := 2) (k_X3_layAt l N _ hnc _ _ _ _ _ h22 d (by omega)) (fitR_s (Nat.le_of_ble_eq_true rfl)) ⟨Nat.le_refl 0, Nat.le_refl 0⟩ rfl (ltn hnc rfl) rfl w_489 w_43 w_488 w_9 w_486 hy_X3_layAt rfl (Nat.le_of_ble_eq_true rfl) dX3_throughTails_74 ?_
              refine r_aload_n X 0 dX3_throughTails_77 rfl rfl ?_
              refine r_iload_n X 1 dX3_throughTails_78 rfl rfl ?_
              refine r_iload_n X 2 dX3_throughTails_79 rfl rfl ?_
              refine r_aload_n X 0 dX3_throughTails_80 rfl rfl ?_
              refine r_iload_n X 1 dX3_throughTails_81 rfl rfl ?_
              refine r_iload_n X 3 dX3_throughTails_82 rfl rfl ?_
              obtain ⟨r24, M23, h25, h⟩ := bd2_ex h
              refine r_callV X (st := [.int v2, .int v1, .ref 21]) (av := [.int v1, .int v3]) (k := 21) (ci := 2) (k_X3_lacks l N _ hnc _ _ _ _ _ h25 d (by omega)) (fitR_s (Nat.le_of_ble_eq_true rfl)) ⟨Nat.le_refl 0, Nat.le_refl 0⟩ rfl (ltn hnc rfl) rfl w_497 w_43 w_496 w_11 w_494 hy_X3_lacks rfl (Nat.le_of_ble_eq_true rfl) dX3_throughTails_83 ?_
              obtain ⟨M26, h27, h⟩ := bd_ex h
              refine r_callV X (st := []) (av := [.int v1, .int v2, .int r24]) (k := 21) (ci := 2) (k_X3_countRing l N _ hnc _ _ _ _ _ h27 d (by omega)) (fitR_s (Nat.le_of_ble_eq_true rfl)) ⟨Nat.le_refl 0, Nat.le_refl 0⟩ rfl (ltn hnc rfl) rfl w_507 w_43 w_506 w_13 w_504 hy_X3_countRing rfl (Nat.le_of_ble_eq_true rfl) dX3_throughTails_86 ?_
              refine r_aload_n X 0 dX3_throughTails_89 rfl rfl ?_
              refine r_getr X 4 23 in_X3 (ci := 2) rfl rfl (ltn hnc rfl) (Nat.le_of_ble_eq_true rfl) rfl w_156 dX3_throughTails_90 (by decide) ?_
              refine r_iload X 7 dX3_throughTails_93 rfl ?_
              obtain ⟨r29, M28, h30, h⟩ := bd2_ex h
              refine r_callSN X (st := []) (av := [.ref 23, .int v8]) (k_X6_at l N _ _ _ _ _ (Or.inl (ltn hnc rfl)) _ _ h30 d (by omega)) (fitR_s (Nat.le_of_ble_eq_true rfl)) ⟨Nat.le_refl 0, Nat.le_refl 0⟩ w_71 w_39 w_70 w_472 hy_X6_at rfl (Nat.le_of_ble_eq_true rfl) dX3_throughTails_95 ?_
              refine r_istore X [(8, .int r29), (0, .ref 21), (1, .int v1), (2, .int v2), (3, .int v3), (4, .int v4), (5, .int v5), (6, .long v6), (9, .int v9)] dX3_throughTails_98 (Nat.le_of_ble_eq_true rfl) rfl ?_
              refine r_iinc X [(9, .int (v9 + 1)), (8, .int r29), (0, .ref 21), (1, .int v1), (2, .int v2), (3, .int v3), (4, .int v4), (5, .int v5), (6, .long v6)] 8 (v9 + 1) dX3_throughTails_100 rfl rfl (Nat.le_of_ble_eq_true rfl) rfl ?_
              refine r_goto X 31 dX3_throughTails_103 (by decide) ?_
              refine r_sub (ls' := [(0, .ref 21), (1, .int v1), (2, .int v2), (3, .int v3), (4, .int v4), (5, .int v5), (6, .long v6), (8, .int r29), (9, .int (v9 + 1))]) [2, 3, 4, 5, 6, 7, 8, 1, 0] rfl ?_
              exact ih M28 v1 v2 v3 v4 v5 v6 r29 (v9 + 1) h
  refine r_sub (ls' := [(0, .ref 21), (1, .int p0), (2, .int p1), (3, .int p2), (4, .int p3)]) [0, 1, 2, 3, 4] rfl ?_
  refine r_iload_n X 1 dX3_throughTails_0 rfl rfl ?_
  refine r_iconst X 3 dX3_throughTails_1 rfl ?_
  refine r_isub X dX3_throughTails_2 ?_
  obtain ⟨x1, ex1, h⟩ := nm_ex h
  refine r_top ex1 ?_
  refine r_istore X [(5, .int x1), (0, .ref 21), (1, .int p0), (2, .int p1), (3, .int p2), (4, .int p3)] dX3_throughTails_3 (Nat.le_of_ble_eq_true rfl) rfl ?_
  refine r_aload_n X 1 dX3_throughTails_5 rfl rfl ?_
  refine r_iload X 0 dX3_throughTails_6 rfl ?_
  refine r_iconst X 1 dX3_throughTails_8 rfl ?_
  obtain ⟨r3, M2, h4, h⟩ := bd2_ex h
  refine r_callV X (st := []) (av := [.int x1, .int (1 : Int32)]) (k := 21) (ci := 2) (k_X3_endOf l N _ hnc _ _ _ _ _ h4 d (by omega)) (fitR_s (Nat.le_of_ble_eq_true rfl)) ⟨Nat.le_refl 0, Nat.le_refl 0⟩ rfl (ltn hnc rfl) rfl w_477 w_43 w_476 w_8 w_474 hy_X3_endOf rfl (Nat.le_of_ble_eq_true rfl) dX3_throughTails_9 ?_
  refine r_lstore X [(6, .long r3), (5, .int x1), (0, .ref 21), (1, .int p0), (2, .int p1), (3, .int p2), (4, .int p3)] dX3_throughTails_12 (Nat.le_of_ble_eq_true rfl) rfl ?_
  refine r_aload_n X 2 dX3_throughTails_14 rfl rfl ?_
  refine r_getr X 5 24 in_X3 (ci := 2) rfl rfl (ltn hnc rfl) (Nat.le_of_ble_eq_true rfl) rfl w_157 dX3_throughTails_15 (by decide) ?_
  refine r_lload X 0 dX3_throughTails_18 rfl ?_
  obtain ⟨r6, M5, h7, h⟩ := bd2_ex h
  refine r_callS X (st := [.ref 24]) (av := [.long r3]) (k_X3_slotOf l N _ hnc _ _ _ _ h7 d (by omega)) (fitR_s (Nat.le_of_ble_eq_true rfl)) ⟨Nat.le_refl 0, Nat.le_refl 0⟩ w_483 w_43 w_482 w_481 hy_X3_slotOf rfl (Nat.le_of_ble_eq_true rfl) dX3_throughTails_20 ?_
  obtain ⟨r9, M8, h10, h⟩ := bd2_ex h
  refine r_callSN X (st := []) (av := [.ref 24, .int r6]) (k_X6_at l N _ _ _ _ _ (Or.inl (ltn hnc rfl)) _ _ h10 d (by omega)) (fitR_s (Nat.le_of_ble_eq_true rfl)) ⟨Nat.le_refl 0, Nat.le_refl 0⟩ w_71 w_39 w_70 w_472 hy_X6_at rfl (Nat.le_of_ble_eq_true rfl) dX3_throughTails_23 ?_
  refine r_istore X [(8, .int r9), (6, .long r3), (5, .int x1), (0, .ref 21), (1, .int p0), (2, .int p1), (3, .int p2), (4, .int p3)] dX3_throughTails_26 (Nat.le_of_ble_eq_true rfl) rfl ?_
  refine r_iconst X 0 dX3_throughTails_28 rfl ?_
  refine r_istore X [(9, .int (0 : Int32)), (8, .int r9), (6, .long r3), (5, .int x1), (0, .ref 21), (1, .int p0), (2, .int p1), (3, .int p2), (4, .int p3)] dX3_throughTails_29 (Nat.le_of_ble_eq_true rfl) rfl ?_
  refine r_sub (ls' := [(0, .ref 21), (1, .int p0), (2, .int p1), (3, .int p2), (4, .int p3), (5, .int x1), (6, .long r3), (8, .int r9), (9, .int (0 : Int32))]) [4, 5, 6, 7, 8, 3, 2, 1, 0] rfl ?_
  exact hl31  N M8 p0 p1 p2 p3 x1 r3 r9 (0 : Int32) h
