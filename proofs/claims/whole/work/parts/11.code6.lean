/-! Part 11: methods as pure functions (f_..), and their contracts (k_..) -/
def l_X7_most_3 (N : Nat)    : Nat → Mem → Int32 → Int32 → Option (Int32 × Mem)
  | 0, _, _, _ => none
  | n + 1, M, v1, v2 =>
    if v2 ≤ 0 then
      (some ((-9 : Int32), M))
    else
      (bd2 (f_X7_ringsOf N M v2 v1 (0 : Int32)) fun r3 M2 =>
      if r3 ≤ 0 then
        (l_X7_most_3 N n M2 v1 (v2 + (-1)))
      else
        (some (v2, M2)))
def f_X7_most (N : Nat) (M : Mem) (p0 : Int32) : Option (Int32 × Mem) :=
  l_X7_most_3 N N M p0 (6 : Int32)
set_option maxRecDepth 100000 in
set_option maxHeartbeats 4000000 in
theorem k_X7_most (l : Launch) (N : Nat) (nc : Nat) (hnc : 45 ≤ nc) (M : Mem) (p0 : Int32) (r : Int32) (M' : Mem) (h : f_X7_most N M p0 = some (r, M')) (d : Nat) (hd : 19 ≤ d) : Ct l d yX7_most cX7_most 3 (some .int) shp nc [.ref 34, .int p0] M (some (.int r)) M' := by
  obtain ⟨d, rfl⟩ : ∃ q, d = q + 1 := ⟨d - 1, by omega⟩
  unfold f_X7_most at h
  refine Ct.of (by decide +kernel) (Nat.le_of_ble_eq_true rfl) ?_
  intro p e s m args below meth c A ad D cI cJ X hr
  have hl3 : ∀ (n : Nat) (M : Mem) (v1 : Int32) (v2 : Int32), l_X7_most_3 N n M v1 v2 = some (r, M') → AW p l e (rmd (d + 1)) s m args below meth c 3 A ad D cI cJ shp nc 0 0 (MQ below (Qq A ad D cI cJ shp nc (some (.int r)) M') args s 0 0 A) M 3 [(0, .ref 34), (1, .int v1), (2, .int v2)] [] := by
    intro n
    induction n with
    | zero => intro M v1 v2 h; cases h
    | succ n ih =>
      intro M v1 v2 h
      rw [l_X7_most_3] at h
      refine r_iload_n X 2 dX7_most_3 rfl rfl ?_
      refine r_ifle X 25 dX7_most_4 (by decide) (fun c1 => ?_) (fun c1 => ?_)
      · replace h := it_t c1 h
        refine r_bipush X (-9) dX7_most_25 rfl ?_
        exact r_iretE X hr dX7_most_27 h
      · replace h := it_f c1 h
        refine r_aload_n X 0 dX7_most_7 rfl rfl ?_
        refine r_iload_n X 2 dX7_most_8 rfl rfl ?_
        refine r_iload_n X 1 dX7_most_9 rfl rfl ?_
        refine r_iconst X 0 dX7_most_10 rfl ?_
        obtain ⟨r3, M2, h4, h⟩ := bd2_ex h
        refine r_callV X (st := []) (av := [.int v2, .int v1, .int (0 : Int32)]) (k := 34) (ci := 6) (k_X7_ringsOf l N _ hnc _ _ _ _ _ _ h4 d (by omega)) (fitR_s (Nat.le_of_ble_eq_true rfl)) ⟨Nat.le_refl 0, Nat.le_refl 0⟩ rfl (ltn hnc rfl) rfl w_831 w_47 w_830 w_31 w_828 hy_X7_ringsOf rfl (Nat.le_of_ble_eq_true rfl) dX7_most_11 ?_
        refine r_ifle X 19 dX7_most_14 (by decide) (fun c5 => ?_) (fun c5 => ?_)
        · replace h := it_t c5 h
          refine r_iinc X [(2, .int (v2 + (-1))), (0, .ref 34), (1, .int v1)] 2 (v2 + (-1)) dX7_most_19 rfl rfl (Nat.le_of_ble_eq_true rfl) rfl ?_
          refine r_goto X 3 dX7_most_22 (by decide) ?_
          refine r_sub (ls' := [(0, .ref 34), (1, .int v1), (2, .int (v2 + (-1)))]) [1, 2, 0] rfl ?_
          exact ih M2 v1 (v2 + (-1)) h
        · replace h := it_f c5 h
          refine r_iload_n X 2 dX7_most_17 rfl rfl ?_
          exact r_iretE X hr dX7_most_18 h
  refine r_sub (ls' := [(0, .ref 34), (1, .int p0)]) [0, 1] rfl ?_
  refine r_bipush X 6 dX7_most_0 rfl ?_
  refine r_istore_n X [(2, .int (6 : Int32)), (0, .ref 34), (1, .int p0)] dX7_most_2 rfl (Nat.le_of_ble_eq_true rfl) rfl ?_
  refine r_sub (ls' := [(0, .ref 34), (1, .int p0), (2, .int (6 : Int32))]) [1, 2, 0] rfl ?_
  exact hl3  N M p0 (6 : Int32) h
def l_X6_opens_46 (N : Nat)    : Nat → Mem → Int32 → Int32 → Int32 → Option (Int32 × Mem)
  | 0, _, _, _, _ => none
  | n + 1, M, v3, v4, v5 =>
    if (7 : Int32) ≤ v5 then
      (some (v3, M))
    else
      (bd2 (f_X6_at shp N M 26 v5) fun r7 M6 =>
      if r7 ≤ v4 then
        (l_X6_opens_46 N n M6 v3 v4 (v5 + 1))
      else
        (l_X6_opens_46 N n M6 v5 r7 (v5 + 1)))
def f_X6_opens (N : Nat) (M : Mem) (p0 : Int32) (p1 : Int32) : Option (Int32 × Mem) :=
  if (1 : Int32) ≤ p0 then
    (if p0 ≤ (6 : Int32) then
      (bd (f_X3_through N M p0 p1 (1 : Int32) (1000000000 : Int32)) fun M3 =>
      l_X6_opens_46 N N M3 (-9 : Int32) (0 : Int32) (0 : Int32))
    else
      (bd2 (f_X6_refuse N M (-6 : Int32)) fun r11 M10 =>
      some (r11, M10)))
  else
    (bd2 (f_X6_refuse N M (-4 : Int32)) fun r14 M13 =>
    some (r14, M13))
set_option maxRecDepth 100000 in
set_option maxHeartbeats 4000000 in
theorem k_X6_opens (l : Launch) (N : Nat) (nc : Nat) (hnc : 34 ≤ nc) (M : Mem) (p0 : Int32) (p1 : Int32) (r : Int32) (M' : Mem) (h : f_X6_opens N M p0 p1 = some (r, M')) (d : Nat) (hd : 7 ≤ d) : Ct l d yX6_opens cX6_opens 7 (some .int) shp nc [.ref 0, .int p0, .int p1] M (some (.int r)) M' := by
  obtain ⟨d, rfl⟩ : ∃ q, d = q + 1 := ⟨d - 1, by omega⟩
  unfold f_X6_opens at h
  refine Ct.of (by decide +kernel) (Nat.le_of_ble_eq_true rfl) ?_
  intro p e s m args below meth c A ad D cI cJ X hr
  have hl46 : ∀ (n : Nat) (M : Mem) (v3 : Int32) (v4 : Int32) (v5 : Int32), l_X6_opens_46 N n M v3 v4 v5 = some (r, M') → AW p l e (rmd (d + 1)) s m args below meth c 7 A ad D cI cJ shp nc 0 0 (MQ below (Qq A ad D cI cJ shp nc (some (.int r)) M') args s 0 0 A) M 46 [(0, .ref 0), (3, .int v3), (4, .int v4), (5, .int v5)] [] := by
    intro n
    induction n with
    | zero => intro M v3 v4 v5 h; cases h
    | succ n ih =>
      intro M v3 v4 v5 h
      rw [l_X6_opens_46] at h
      refine r_iload X 3 dX6_opens_46 rfl ?_
      refine r_bipush X 7 dX6_opens_48 rfl ?_
      refine r_icge X 87 dX6_opens_50 (by decide) (fun c5 => ?_) (fun c5 => ?_)
      · replace h := it_t c5 h
        refine r_iload_n X 1 dX6_opens_87 rfl rfl ?_
        exact r_iretE X hr dX6_opens_88 h
      · replace h := it_f c5 h
        refine r_aload_n X 0 dX6_opens_53 rfl rfl ?_
        refine r_getr X 5 21 in_X6 (ci := 5) rfl rfl (ltn hnc rfl) (Nat.le_of_ble_eq_true rfl) rfl w_245 dX6_opens_54 (by decide) ?_
        refine r_getr X 8 26 in_X3 (ci := 2) rfl rfl (ltn hnc rfl) (Nat.le_of_ble_eq_true rfl) rfl w_162 dX6_opens_57 (by decide) ?_
        refine r_iload X 3 dX6_opens_60 rfl ?_
        obtain ⟨r7, M6, h8, h⟩ := bd2_ex h
        refine r_callS X (st := []) (av := [.ref 26, .int v5]) (k_X6_at l N _ _ _ _ _ (Or.inl (ltn hnc rfl)) _ _ h8 d (by omega)) (fitR_s (Nat.le_of_ble_eq_true rfl)) ⟨Nat.le_refl 0, Nat.le_refl 0⟩ w_71 w_39 w_70 w_69 hy_X6_at rfl (Nat.le_of_ble_eq_true rfl) dX6_opens_62 ?_
        refine r_istore X [(6, .int r7), (0, .ref 0), (3, .int v3), (4, .int v4), (5, .int v5)] dX6_opens_65 (Nat.le_of_ble_eq_true rfl) rfl ?_
        refine r_iload X 0 dX6_opens_67 rfl ?_
        refine r_iload X 3 dX6_opens_69 rfl ?_
        refine r_icle X 81 dX6_opens_71 (by decide) (fun c9 => ?_) (fun c9 => ?_)
        · replace h := it_t c9 h
          refine r_iinc X [(5, .int (v5 + 1)), (6, .int r7), (0, .ref 0), (3, .int v3), (4, .int v4)] 4 (v5 + 1) dX6_opens_81 rfl rfl (Nat.le_of_ble_eq_true rfl) rfl ?_
          refine r_goto X 46 dX6_opens_84 (by decide) ?_
          refine r_sub (ls' := [(0, .ref 0), (3, .int v3), (4, .int v4), (5, .int (v5 + 1))]) [2, 3, 4, 0] rfl ?_
          exact ih M6 v3 v4 (v5 + 1) h
        · replace h := it_f c9 h
          refine r_iload X 0 dX6_opens_74 rfl ?_
          refine r_istore X [(4, .int r7), (6, .int r7), (0, .ref 0), (3, .int v3), (5, .int v5)] dX6_opens_76 (Nat.le_of_ble_eq_true rfl) rfl ?_
          refine r_iload X 4 dX6_opens_78 rfl ?_
          refine r_istore_n X [(3, .int v5), (4, .int r7), (6, .int r7), (0, .ref 0), (5, .int v5)] dX6_opens_80 rfl (Nat.le_of_ble_eq_true rfl) rfl ?_
          refine r_iinc X [(5, .int (v5 + 1)), (3, .int v5), (4, .int r7), (6, .int r7), (0, .ref 0)] 4 (v5 + 1) dX6_opens_81 rfl rfl (Nat.le_of_ble_eq_true rfl) rfl ?_
          refine r_goto X 46 dX6_opens_84 (by decide) ?_
          refine r_sub (ls' := [(0, .ref 0), (3, .int v5), (4, .int r7), (5, .int (v5 + 1))]) [4, 1, 2, 0] rfl ?_
          exact ih M6 v5 r7 (v5 + 1) h
  refine r_sub (ls' := [(0, .ref 0), (1, .int p0), (2, .int p1)]) [0, 1, 2] rfl ?_
  refine r_iload_n X 1 dX6_opens_0 rfl rfl ?_
  refine r_iconst X 1 dX6_opens_1 rfl ?_
  refine r_icge X 12 dX6_opens_2 (by decide) (fun c1 => ?_) (fun c1 => ?_)
  · replace h := it_t c1 h
    refine r_iload_n X 1 dX6_opens_12 rfl rfl ?_
    refine r_bipush X 6 dX6_opens_13 rfl ?_
    refine r_icle X 25 dX6_opens_15 (by decide) (fun c2 => ?_) (fun c2 => ?_)
    · replace h := it_t c2 h
      refine r_aload_n X 0 dX6_opens_25 rfl rfl ?_
      refine r_getr X 5 21 in_X6 (ci := 5) rfl rfl (ltn hnc rfl) (Nat.le_of_ble_eq_true rfl) rfl w_245 dX6_opens_26 (by decide) ?_
      refine r_iload_n X 1 dX6_opens_29 rfl rfl ?_
      refine r_iload_n X 2 dX6_opens_30 rfl rfl ?_
      refine r_iconst X 1 dX6_opens_31 rfl ?_
      refine r_ldc X w_331 dX6_opens_32 ?_
      obtain ⟨M3, h4, h⟩ := bd_ex h
      refine r_callV X (st := []) (av := [.int p0, .int p1, .int (1 : Int32), .int (1000000000 : Int32)]) (k := 21) (ci := 2) (k_X3_through l N _ hnc _ _ _ _ _ _ h4 d (by omega)) (fitR_s (Nat.le_of_ble_eq_true rfl)) ⟨Nat.le_refl 0, Nat.le_refl 0⟩ rfl (ltn hnc rfl) rfl w_462 w_43 w_460 w_461 w_459 hy_X3_through rfl (Nat.le_of_ble_eq_true rfl) dX6_opens_34 ?_
      refine r_bipush X (-9) dX6_opens_37 rfl ?_
      refine r_istore_n X [(3, .int (-9 : Int32)), (0, .ref 0), (1, .int p0), (2, .int p1)] dX6_opens_39 rfl (Nat.le_of_ble_eq_true rfl) rfl ?_
      refine r_iconst X 0 dX6_opens_40 rfl ?_
      refine r_istore X [(4, .int (0 : Int32)), (3, .int (-9 : Int32)), (0, .ref 0), (1, .int p0), (2, .int p1)] dX6_opens_41 (Nat.le_of_ble_eq_true rfl) rfl ?_
      refine r_iconst X 0 dX6_opens_43 rfl ?_
      refine r_istore X [(5, .int (0 : Int32)), (4, .int (0 : Int32)), (3, .int (-9 : Int32)), (0, .ref 0), (1, .int p0), (2, .int p1)] dX6_opens_44 (Nat.le_of_ble_eq_true rfl) rfl ?_
      refine r_sub (ls' := [(0, .ref 0), (3, .int (-9 : Int32)), (4, .int (0 : Int32)), (5, .int (0 : Int32))]) [3, 2, 1, 0] rfl ?_
      exact hl46  N M3 (-9 : Int32) (0 : Int32) (0 : Int32) h
    · replace h := it_f c2 h
      refine r_aload_n X 0 dX6_opens_18 rfl rfl ?_
      refine r_bipush X (-6) dX6_opens_19 rfl ?_
      obtain ⟨r11, M10, h12, h⟩ := bd2_ex h
      refine r_callV X (st := []) (av := [.int (-6 : Int32)]) (k := 0) (ci := 5) (k_X6_refuse l N _ hnc _ _ _ _ h12 d (by omega)) (fitR_s (Nat.le_of_ble_eq_true rfl)) ⟨Nat.le_refl 0, Nat.le_refl 0⟩ rfl (ltn hnc rfl) rfl w_284 w_39 w_283 w_1 w_281 hy_X6_refuse rfl (Nat.le_of_ble_eq_true rfl) dX6_opens_21 ?_
      exact r_iretE X hr dX6_opens_24 h
  · replace h := it_f c1 h
    refine r_aload_n X 0 dX6_opens_5 rfl rfl ?_
    refine r_bipush X (-4) dX6_opens_6 rfl ?_
    obtain ⟨r14, M13, h15, h⟩ := bd2_ex h
    refine r_callV X (st := []) (av := [.int (-4 : Int32)]) (k := 0) (ci := 5) (k_X6_refuse l N _ hnc _ _ _ _ h15 d (by omega)) (fitR_s (Nat.le_of_ble_eq_true rfl)) ⟨Nat.le_refl 0, Nat.le_refl 0⟩ rfl (ltn hnc rfl) rfl w_284 w_39 w_283 w_1 w_281 hy_X6_refuse rfl (Nat.le_of_ble_eq_true rfl) dX6_opens_8 ?_
    exact r_iretE X hr dX6_opens_11 h
def l_X7_opens_34 (N : Nat)    : Nat → Mem → Int32 → Int32 → Int32 → Int32 → Int32 → Option (Int32 × Mem)
  | 0, _, _, _, _, _, _ => none
  | n + 1, M, v1, v2, v4, v5, v6 =>
    if (7 : Int32) ≤ v6 then
      (some (v4, M))
    else
      (ck (inb v6 56) <|
      if (M.1 36 (ix v6)) = (9 : Int32) then
        (l_X7_opens_34 N n M v1 v2 v4 v5 (v6 + 1))
      else
        (ck (inb v6 56) <|
        ck (inb v6 56) <|
        nm (seI M 36 (ix v6) ((M.1 36 (ix v6)) + (1 : Int32))) fun M13 =>
        bd2 (f_X7_ringsOf N M13 v1 v2 (-1 : Int32)) fun r15 M14 =>
        ck (inb v6 56) <|
        ck (inb v6 56) <|
        nm (seI M14 36 (ix v6) ((M14.1 36 (ix v6)) - (1 : Int32))) fun M19 =>
        if v5 < r15 then
          (l_X7_opens_34 N n M19 v1 v2 v6 r15 (v6 + 1))
        else
          (l_X7_opens_34 N n M19 v1 v2 v4 v5 (v6 + 1))))
def f_X7_opens (N : Nat) (M : Mem) (p0 : Int32) (p1 : Int32) : Option (Int32 × Mem) :=
  bd2 (f_X7_within N M p0 (1 : Int32) (6 : Int32)) fun r2 M1 =>
  if r2 = 0 then
    (bd2 (f_X7_ringsOf N M1 p0 p1 (-1 : Int32)) fun r6 M5 =>
    l_X7_opens_34 N N M5 p0 p1 (-9 : Int32) r6 (0 : Int32))
  else
    (bd2 (f_X7_refuse N M1 r2) fun r22 M21 =>
    some (r22, M21))
set_option maxRecDepth 100000 in
set_option maxHeartbeats 4000000 in
theorem k_X7_opens (l : Launch) (N : Nat) (nc : Nat) (hnc : 45 ≤ nc) (M : Mem) (p0 : Int32) (p1 : Int32) (r : Int32) (M' : Mem) (h : f_X7_opens N M p0 p1 = some (r, M')) (d : Nat) (hd : 19 ≤ d) : Ct l d yX7_opens cX7_opens 8 (some .int) shp nc [.ref 34, .int p0, .int p1] M (some (.int r)) M' := by
  obtain ⟨d, rfl⟩ : ∃ q, d = q + 1 := ⟨d - 1, by omega⟩
  unfold f_X7_opens at h
  refine Ct.of (by decide +kernel) (Nat.le_of_ble_eq_true rfl) ?_
  intro p e s m args below meth c A ad D cI cJ X hr
  have hl34 : ∀ (n : Nat) (M : Mem) (v1 : Int32) (v2 : Int32) (v4 : Int32) (v5 : Int32) (v6 : Int32), l_X7_opens_34 N n M v1 v2 v4 v5 v6 = some (r, M') → AW p l e (rmd (d + 1)) s m args below meth c 8 A ad D cI cJ shp nc 0 0 (MQ below (Qq A ad D cI cJ shp nc (some (.int r)) M') args s 0 0 A) M 34 [(0, .ref 34), (1, .int v1), (2, .int v2), (4, .int v4), (5, .int v5), (6, .int v6)] [] := by
    intro n
    induction n with
    | zero => intro M v1 v2 v4 v5 v6 h; cases h
    | succ n ih =>
      intro M v1 v2 v4 v5 v6 h
      rw [l_X7_opens_34] at h
      refine r_iload X 5 dX7_opens_34 rfl ?_
      refine r_bipush X 7 dX7_opens_36 rfl ?_
      refine r_icge X 111 dX7_opens_38 (by decide) (fun c8 => ?_) (fun c8 => ?_)
      · replace h := it_t c8 h
        refine r_iload X 3 dX7_opens_111 rfl ?_
        exact r_iretE X hr dX7_opens_113 h
      · replace h := it_f c8 h
        refine r_aload_n X 0 dX7_opens_41 rfl rfl ?_
        refine r_getr X 1 36 in_X7 (ci := 6) rfl rfl (ltn hnc rfl) (Nat.le_of_ble_eq_true rfl) rfl w_610 dX7_opens_42 (by decide) ?_
        refine r_iload X 5 dX7_opens_45 rfl ?_
        obtain ⟨c9, h⟩ := ck_ex h
        refine r_iald X (n := 56) rfl (Or.inl (ltn hnc rfl)) c9 dX7_opens_47 ?_
        refine r_bipush X 9 dX7_opens_48 rfl ?_
        refine r_icne X 56 dX7_opens_50 (by decide) (fun c10 => ?_) (fun c10 => ?_)
        · replace h := it_f c10 h
          refine r_aload_n X 0 dX7_opens_56 rfl rfl ?_
          refine r_getr X 1 36 in_X7 (ci := 6) rfl rfl (ltn hnc rfl) (Nat.le_of_ble_eq_true rfl) rfl w_610 dX7_opens_57 (by decide) ?_
          refine r_iload X 5 dX7_opens_60 rfl ?_
          refine r_dup2 X dX7_opens_62 rfl rfl ?_
          obtain ⟨c11, h⟩ := ck_ex h
          refine r_iald X (n := 56) rfl (Or.inl (ltn hnc rfl)) c11 dX7_opens_63 ?_
          refine r_iconst X 1 dX7_opens_64 rfl ?_
          refine r_iadd X dX7_opens_65 ?_
          obtain ⟨c12, h⟩ := ck_ex h
          obtain ⟨M13, eM13, h⟩ := nm_ex h
          refine r_iast X (n := 56) rfl (ltn hnc rfl) c12 dX7_opens_66 ?_
          refine r_mem eM13 ?_
          refine r_aload_n X 0 dX7_opens_67 rfl rfl ?_
          refine r_iload_n X 1 dX7_opens_68 rfl rfl ?_
          refine r_iload_n X 2 dX7_opens_69 rfl rfl ?_
          refine r_iconst X (-1) dX7_opens_70 rfl ?_
          obtain ⟨r15, M14, h16, h⟩ := bd2_ex h
          refine r_callV X (st := []) (av := [.int v1, .int v2, .int (-1 : Int32)]) (k := 34) (ci := 6) (k_X7_ringsOf l N _ hnc _ _ _ _ _ _ h16 d (by omega)) (fitR_s (Nat.le_of_ble_eq_true rfl)) ⟨Nat.le_refl 0, Nat.le_refl 0⟩ rfl (ltn hnc rfl) rfl w_831 w_47 w_830 w_31 w_828 hy_X7_ringsOf rfl (Nat.le_of_ble_eq_true rfl) dX7_opens_71 ?_
          refine r_istore X [(7, .int r15), (0, .ref 34), (1, .int v1), (2, .int v2), (4, .int v4), (5, .int v5), (6, .int v6)] dX7_opens_74 (Nat.le_of_ble_eq_true rfl) rfl ?_
          refine r_aload_n X 1 dX7_opens_76 rfl rfl ?_
          refine r_getr X 1 36 in_X7 (ci := 6) rfl rfl (ltn hnc rfl) (Nat.le_of_ble_eq_true rfl) rfl w_610 dX7_opens_77 (by decide) ?_
          refine r_iload X 6 dX7_opens_80 rfl ?_
          refine r_dup2 X dX7_opens_82 rfl rfl ?_
          obtain ⟨c17, h⟩ := ck_ex h
          refine r_iald X (n := 56) rfl (Or.inl (ltn hnc rfl)) c17 dX7_opens_83 ?_
          refine r_iconst X 1 dX7_opens_84 rfl ?_
          refine r_isub X dX7_opens_85 ?_
          obtain ⟨c18, h⟩ := ck_ex h
          obtain ⟨M19, eM19, h⟩ := nm_ex h
          refine r_iast X (n := 56) rfl (ltn hnc rfl) c18 dX7_opens_86 ?_
          refine r_mem eM19 ?_
          refine r_iload X 0 dX7_opens_87 rfl ?_
          refine r_iload X 5 dX7_opens_89 rfl ?_
          refine r_icgt X 97 dX7_opens_91 (by decide) (fun c20 => ?_) (fun c20 => ?_)
          · replace h := it_t c20 h
            refine r_iload X 6 dX7_opens_97 rfl ?_
            refine r_istore X [(4, .int v6), (7, .int r15), (0, .ref 34), (1, .int v1), (2, .int v2), (5, .int v5), (6, .int v6)] dX7_opens_99 (Nat.le_of_ble_eq_true rfl) rfl ?_
            refine r_iload X 1 dX7_opens_101 rfl ?_
            refine r_istore X [(5, .int r15), (4, .int v6), (7, .int r15), (0, .ref 34), (1, .int v1), (2, .int v2), (6, .int v6)] dX7_opens_103 (Nat.le_of_ble_eq_true rfl) rfl ?_
            refine r_iinc X [(6, .int (v6 + 1)), (5, .int r15), (4, .int v6), (7, .int r15), (0, .ref 34), (1, .int v1), (2, .int v2)] 6 (v6 + 1) dX7_opens_105 rfl rfl (Nat.le_of_ble_eq_true rfl) rfl ?_
            refine r_goto X 34 dX7_opens_108 (by decide) ?_
            refine r_sub (ls' := [(0, .ref 34), (1, .int v1), (2, .int v2), (4, .int v6), (5, .int r15), (6, .int (v6 + 1))]) [4, 5, 6, 2, 1, 0] rfl ?_
            exact ih M19 v1 v2 v6 r15 (v6 + 1) h
          · replace h := it_f c20 h
            refine r_goto X 105 dX7_opens_94 (by decide) ?_
            refine r_iinc X [(6, .int (v6 + 1)), (7, .int r15), (0, .ref 34), (1, .int v1), (2, .int v2), (4, .int v4), (5, .int v5)] 6 (v6 + 1) dX7_opens_105 rfl rfl (Nat.le_of_ble_eq_true rfl) rfl ?_
            refine r_goto X 34 dX7_opens_108 (by decide) ?_
            refine r_sub (ls' := [(0, .ref 34), (1, .int v1), (2, .int v2), (4, .int v4), (5, .int v5), (6, .int (v6 + 1))]) [2, 3, 4, 5, 6, 0] rfl ?_
            exact ih M19 v1 v2 v4 v5 (v6 + 1) h
        · replace h := it_t c10 h
          refine r_goto X 105 dX7_opens_53 (by decide) ?_
          refine r_iinc X [(6, .int (v6 + 1)), (0, .ref 34), (1, .int v1), (2, .int v2), (4, .int v4), (5, .int v5)] 5 (v6 + 1) dX7_opens_105 rfl rfl (Nat.le_of_ble_eq_true rfl) rfl ?_
          refine r_goto X 34 dX7_opens_108 (by decide) ?_
          refine r_sub (ls' := [(0, .ref 34), (1, .int v1), (2, .int v2), (4, .int v4), (5, .int v5), (6, .int (v6 + 1))]) [1, 2, 3, 4, 5, 0] rfl ?_
          exact ih M v1 v2 v4 v5 (v6 + 1) h
  refine r_sub (ls' := [(0, .ref 34), (1, .int p0), (2, .int p1)]) [0, 1, 2] rfl ?_
  refine r_iload_n X 1 dX7_opens_0 rfl rfl ?_
  refine r_iconst X 1 dX7_opens_1 rfl ?_
  refine r_bipush X 6 dX7_opens_2 rfl ?_
  obtain ⟨r2, M1, h3, h⟩ := bd2_ex h
  refine r_callS X (st := []) (av := [.int p0, .int (1 : Int32), .int (6 : Int32)]) (k_X7_within l N _ hnc _ _ _ _ _ _ h3 d (by omega)) (fitR_s (Nat.le_of_ble_eq_true rfl)) ⟨Nat.le_refl 0, Nat.le_refl 0⟩ w_707 w_47 w_706 w_705 hy_X7_within rfl (Nat.le_of_ble_eq_true rfl) dX7_opens_4 ?_
  refine r_istore_n X [(3, .int r2), (0, .ref 34), (1, .int p0), (2, .int p1)] dX7_opens_7 rfl (Nat.le_of_ble_eq_true rfl) rfl ?_
  refine r_iload_n X 0 dX7_opens_8 rfl rfl ?_
  refine r_ifeq X 18 dX7_opens_9 (by decide) (fun c4 => ?_) (fun c4 => ?_)
  · replace h := it_t c4 h
    refine r_bipush X (-9) dX7_opens_18 rfl ?_
    refine r_istore X [(4, .int (-9 : Int32)), (3, .int r2), (0, .ref 34), (1, .int p0), (2, .int p1)] dX7_opens_20 (Nat.le_of_ble_eq_true rfl) rfl ?_
    refine r_aload_n X 2 dX7_opens_22 rfl rfl ?_
    refine r_iload_n X 3 dX7_opens_23 rfl rfl ?_
    refine r_iload_n X 4 dX7_opens_24 rfl rfl ?_
    refine r_iconst X (-1) dX7_opens_25 rfl ?_
    obtain ⟨r6, M5, h7, h⟩ := bd2_ex h
    refine r_callV X (st := []) (av := [.int p0, .int p1, .int (-1 : Int32)]) (k := 34) (ci := 6) (k_X7_ringsOf l N _ hnc _ _ _ _ _ _ h7 d (by omega)) (fitR_s (Nat.le_of_ble_eq_true rfl)) ⟨Nat.le_refl 0, Nat.le_refl 0⟩ rfl (ltn hnc rfl) rfl w_831 w_47 w_830 w_31 w_828 hy_X7_ringsOf rfl (Nat.le_of_ble_eq_true rfl) dX7_opens_26 ?_
    refine r_istore X [(5, .int r6), (4, .int (-9 : Int32)), (3, .int r2), (0, .ref 34), (1, .int p0), (2, .int p1)] dX7_opens_29 (Nat.le_of_ble_eq_true rfl) rfl ?_
    refine r_iconst X 0 dX7_opens_31 rfl ?_
    refine r_istore X [(6, .int (0 : Int32)), (5, .int r6), (4, .int (-9 : Int32)), (3, .int r2), (0, .ref 34), (1, .int p0), (2, .int p1)] dX7_opens_32 (Nat.le_of_ble_eq_true rfl) rfl ?_
    refine r_sub (ls' := [(0, .ref 34), (1, .int p0), (2, .int p1), (4, .int (-9 : Int32)), (5, .int r6), (6, .int (0 : Int32))]) [4, 5, 6, 2, 1, 0] rfl ?_
    exact hl34  N M5 p0 p1 (-9 : Int32) r6 (0 : Int32) h
  · replace h := it_f c4 h
    refine r_aload_n X 1 dX7_opens_12 rfl rfl ?_
    refine r_iload_n X 0 dX7_opens_13 rfl rfl ?_
    obtain ⟨r22, M21, h23, h⟩ := bd2_ex h
    refine r_callV X (st := []) (av := [.int r2]) (k := 34) (ci := 6) (k_X7_refuse l N _ hnc _ _ _ _ h23 d (by omega)) (fitR_s (Nat.le_of_ble_eq_true rfl)) ⟨Nat.le_refl 0, Nat.le_refl 0⟩ rfl (ltn hnc rfl) rfl w_689 w_47 w_688 w_18 w_686 hy_X7_refuse rfl (Nat.le_of_ble_eq_true rfl) dX7_opens_14 ?_
    exact r_iretE X hr dX7_opens_17 h
def l_X6_copyAll_2 (sh : Nat → Shp) (N : Nat)   (a0 : Nat) (a1 : Nat) : Nat → Mem → Int32 → Option Mem
  | 0, _, _ => none
  | n + 1, M, v2 =>
    bd (iaL sh a1) fun n1 =>
    if (Int32.ofNat n1) ≤ v2 then
      (some M)
    else
      (bd2 (f_X6_at sh N M a0 v2) fun r4 M3 =>
      ck (inb v2 n1) <|
      ck (a1 < 45) <|
      nm (seI M3 a1 (ix v2) r4) fun M7 =>
      l_X6_copyAll_2 sh N a0 a1 n M7 (v2 + 1))
def f_X6_copyAll (sh : Nat → Shp) (N : Nat) (M : Mem) (a0 : Nat) (a1 : Nat) : Option Mem :=
  l_X6_copyAll_2 sh N a0 a1 N M (0 : Int32)
set_option maxRecDepth 100000 in
set_option maxHeartbeats 4000000 in
theorem k_X6_copyAll (l : Launch) (N : Nat) (sh : Nat → Shp) (nc : Nat) (M : Mem) (a0 : Nat) (a1 : Nat) (ha0 : a0 < nc ∨ 45 ≤ a0) (ha1 : a1 < nc ∨ 45 ≤ a1) (M' : Mem) (h : f_X6_copyAll sh N M a0 a1 = some M') (d : Nat) (hd : 1 ≤ d) : Ct l d yX6_copyAll cX6_copyAll 3 none sh nc [.ref a0, .ref a1] M none M' := by
  obtain ⟨d, rfl⟩ : ∃ q, d = q + 1 := ⟨d - 1, by omega⟩
  unfold f_X6_copyAll at h
  refine Ct.of (by decide +kernel) (Nat.le_of_ble_eq_true rfl) ?_
  intro p e s m args below meth c A ad D cI cJ X hr
  have hl2 : ∀ (n : Nat) (M : Mem) (v2 : Int32), l_X6_copyAll_2 sh N a0 a1 n M v2 = some M' → AW p l e (rmd (d + 1)) s m args below meth c 3 A ad D cI cJ sh nc 0 0 (MQ below (Qq A ad D cI cJ sh nc none M') args s 0 0 A) M 2 [(0, .ref a0), (1, .ref a1), (2, .int v2)] [] := by
    intro n
    induction n with
    | zero => intro M v2 h; cases h
    | succ n ih =>
      intro M v2 h
      rw [l_X6_copyAll_2] at h
      refine r_iload_n X 2 dX6_copyAll_2 rfl rfl ?_
      refine r_aload_n X 1 dX6_copyAll_3 rfl rfl ?_
      obtain ⟨n1, en1, h⟩ := bd_ex h
      refine r_alen X en1 ha1 rfl dX6_copyAll_4 ?_
      refine r_icge X 22 dX6_copyAll_5 (by decide) (fun c2 => ?_) (fun c2 => ?_)
      · replace h := it_t c2 h
        exact r_vretE X hr dX6_copyAll_22 h
      · replace h := it_f c2 h
        refine r_aload_n X 1 dX6_copyAll_8 rfl rfl ?_
        refine r_iload_n X 2 dX6_copyAll_9 rfl rfl ?_
        refine r_aload_n X 0 dX6_copyAll_10 rfl rfl ?_
        refine r_iload_n X 2 dX6_copyAll_11 rfl rfl ?_
        obtain ⟨r4, M3, h5, h⟩ := bd2_ex h
        refine r_callS X (st := [.int v2, .ref a1]) (av := [.ref a0, .int v2]) (k_X6_at l N _ _ _ _ _ ha0 _ _ h5 d (by omega)) (fitR_s (Nat.le_of_ble_eq_true rfl)) ⟨Nat.le_refl 0, Nat.le_refl 0⟩ w_71 w_39 w_70 w_69 hy_X6_at rfl (Nat.le_of_ble_eq_true rfl) dX6_copyAll_12 ?_
        obtain ⟨c6, h⟩ := ck_ex h
        obtain ⟨c8, h⟩ := ck_ex h
        obtain ⟨M7, eM7, h⟩ := nm_ex h
        refine r_iast X en1 (ha1.resolve_right (Nat.not_le.mpr c8)) c6 dX6_copyAll_15 ?_
        refine r_mem eM7 ?_
        refine r_iinc X [(2, .int (v2 + 1)), (0, .ref a0), (1, .ref a1)] 2 (v2 + 1) dX6_copyAll_16 rfl rfl (Nat.le_of_ble_eq_true rfl) rfl ?_
        refine r_goto X 2 dX6_copyAll_19 (by decide) ?_
        refine r_sub (ls' := [(0, .ref a0), (1, .ref a1), (2, .int (v2 + 1))]) [1, 2, 0] rfl ?_
        exact ih M7 (v2 + 1) h
  refine r_sub (ls' := [(0, .ref a0), (1, .ref a1)]) [0, 1] rfl ?_
  refine r_iconst X 0 dX6_copyAll_0 rfl ?_
  refine r_istore_n X [(2, .int (0 : Int32)), (0, .ref a0), (1, .ref a1)] dX6_copyAll_1 rfl (Nat.le_of_ble_eq_true rfl) rfl ?_
  refine r_sub (ls' := [(0, .ref a0), (1, .ref a1), (2, .int (0 : Int32))]) [1, 2, 0] rfl ?_
  exact hl2  N M (0 : Int32) h
def f_X4_keepIfNearer (N : Nat) (M : Mem) (p0 : Int64) : Option Mem :=
  bd2 (f_X2_squareWhole N M p0) fun r2 M1 =>
  bd2 (f_X2_squareRoot N M1 p0) fun r5 M4 =>
  if (M4.1 27 5) = 0 then
    (nm (seI M4 27 5 (1 : Int32)) fun M8 =>
    nm (seL M8 27 6 r2) fun M9 =>
    nm (seL M9 27 7 r5) fun M10 =>
    bd (f_X6_copyAll shp N M10 29 30) fun M11 =>
    some M11)
  else
    (bd2 (f_X2_signOf N M4 (r2 - (M4.2 27 6)) (r5 - (M4.2 27 7))) fun r14 M13 =>
    if 0 ≤ r14 then
      (some M13)
    else
      (nm (seI M13 27 5 (1 : Int32)) fun M17 =>
      nm (seL M17 27 6 r2) fun M18 =>
      nm (seL M18 27 7 r5) fun M19 =>
      bd (f_X6_copyAll shp N M19 29 30) fun M20 =>
      some M20))
set_option maxRecDepth 100000 in
set_option maxHeartbeats 4000000 in
theorem k_X4_keepIfNearer (l : Launch) (N : Nat) (nc : Nat) (hnc : 34 ≤ nc) (M : Mem) (p0 : Int64) (M' : Mem) (h : f_X4_keepIfNearer N M p0 = some M') (d : Nat) (hd : 2 ≤ d) : Ct l d yX4_keepIfNearer cX4_keepIfNearer 7 none shp nc [.ref 27, .long p0] M none M' := by
  obtain ⟨d, rfl⟩ : ∃ q, d = q + 1 := ⟨d - 1, by omega⟩
  unfold f_X4_keepIfNearer at h
  refine Ct.of (by decide +kernel) (Nat.le_of_ble_eq_true rfl) ?_
  intro p e s m args below meth c A ad D cI cJ X hr
  refine r_sub (ls' := [(0, .ref 27), (1, .long p0)]) [0, 1] rfl ?_
  refine r_lload_n X 1 dX4_keepIfNearer_0 rfl rfl ?_
  obtain ⟨r2, M1, h3, h⟩ := bd2_ex h
  refine r_callS X (st := []) (av := [.long p0]) (k_X2_squareWhole l N _ hnc _ _ _ _ h3 d (by omega)) (fitR_s (Nat.le_of_ble_eq_true rfl)) ⟨Nat.le_refl 0, Nat.le_refl 0⟩ w_401 w_46 w_400 w_560 hy_X2_squareWhole rfl (Nat.le_of_ble_eq_true rfl) dX4_keepIfNearer_1 ?_
  refine r_lstore_n X [(3, .long r2), (0, .ref 27), (1, .long p0)] dX4_keepIfNearer_4 rfl (Nat.le_of_ble_eq_true rfl) rfl ?_
  refine r_lload_n X 2 dX4_keepIfNearer_5 rfl rfl ?_
  obtain ⟨r5, M4, h6, h⟩ := bd2_ex h
  refine r_callS X (st := []) (av := [.long p0]) (k_X2_squareRoot l N _ hnc _ _ _ _ h6 d (by omega)) (fitR_s (Nat.le_of_ble_eq_true rfl)) ⟨Nat.le_refl 0, Nat.le_refl 0⟩ w_405 w_46 w_404 w_561 hy_X2_squareRoot rfl (Nat.le_of_ble_eq_true rfl) dX4_keepIfNearer_6 ?_
  refine r_lstore X [(5, .long r5), (3, .long r2), (0, .ref 27), (1, .long p0)] dX4_keepIfNearer_9 (Nat.le_of_ble_eq_true rfl) rfl ?_
  refine r_aload_n X 2 dX4_keepIfNearer_11 rfl rfl ?_
  refine r_geti X 5 in_X4 (ci := 3) rfl rfl (ltn hnc rfl) (Nat.le_of_ble_eq_true rfl) rfl w_198 dX4_keepIfNearer_12 ?_
  refine r_ifeq X 37 dX4_keepIfNearer_15 (by decide) (fun c7 => ?_) (fun c7 => ?_)
  · replace h := it_t c7 h
    refine r_aload_n X 2 dX4_keepIfNearer_37 rfl rfl ?_
    refine r_iconst X 1 dX4_keepIfNearer_38 rfl ?_
    obtain ⟨M8, eM8, h⟩ := nm_ex h
    refine r_puti X 5 in_X4 (ci := 3) rfl tyX4_ok nmX4 rfl (ltn hnc rfl) (Nat.le_of_ble_eq_true rfl) rfl w_198 rfl (ty := .boolean) rfl rfl rfl dX4_keepIfNearer_39 ?_
    refine r_mem eM8 ?_
    refine r_aload_n X 2 dX4_keepIfNearer_42 rfl rfl ?_
    refine r_lload_n X 1 dX4_keepIfNearer_43 rfl rfl ?_
    obtain ⟨M9, eM9, h⟩ := nm_ex h
    refine r_putl X 6 in_X4 (ci := 3) rfl tyX4_ok nmX4 rfl (ltn hnc rfl) (Nat.le_of_ble_eq_true rfl) rfl w_199 rfl rfl dX4_keepIfNearer_44 ?_
    refine r_mem eM9 ?_
    refine r_aload_n X 2 dX4_keepIfNearer_47 rfl rfl ?_
    refine r_lload X 0 dX4_keepIfNearer_48 rfl ?_
    obtain ⟨M10, eM10, h⟩ := nm_ex h
    refine r_putl X 7 in_X4 (ci := 3) rfl tyX4_ok nmX4 rfl (ltn hnc rfl) (Nat.le_of_ble_eq_true rfl) rfl w_200 rfl rfl dX4_keepIfNearer_50 ?_
    refine r_mem eM10 ?_
    refine r_aload_n X 2 dX4_keepIfNearer_53 rfl rfl ?_
    refine r_getr X 3 29 in_X4 (ci := 3) rfl rfl (ltn hnc rfl) (Nat.le_of_ble_eq_true rfl) rfl w_195 dX4_keepIfNearer_54 (by decide) ?_
    refine r_aload_n X 2 dX4_keepIfNearer_57 rfl rfl ?_
    refine r_getr X 4 30 in_X4 (ci := 3) rfl rfl (ltn hnc rfl) (Nat.le_of_ble_eq_true rfl) rfl w_196 dX4_keepIfNearer_58 (by decide) ?_
    obtain ⟨M11, h12, h⟩ := bd_ex h
    refine r_callSN X (st := []) (av := [.ref 29, .ref 30]) (k_X6_copyAll l N _ _ _ _ _ (Or.inl (ltn hnc rfl)) (Or.inl (ltn hnc rfl)) _ h12 d (by omega)) (fitR_s (Nat.le_of_ble_eq_true rfl)) ⟨Nat.le_refl 0, Nat.le_refl 0⟩ w_68 w_39 w_67 w_543 hy_X6_copyAll rfl (Nat.le_of_ble_eq_true rfl) dX4_keepIfNearer_61 ?_
    exact r_vretE X hr dX4_keepIfNearer_64 h
  · replace h := it_f c7 h
    refine r_lload_n X 1 dX4_keepIfNearer_18 rfl rfl ?_
    refine r_aload_n X 2 dX4_keepIfNearer_19 rfl rfl ?_
    refine r_getl X 6 in_X4 (ci := 3) rfl rfl (ltn hnc rfl) (Nat.le_of_ble_eq_true rfl) rfl w_199 dX4_keepIfNearer_20 ?_
    refine r_lsub X dX4_keepIfNearer_23 ?_
    refine r_lload X 0 dX4_keepIfNearer_24 rfl ?_
    refine r_aload_n X 2 dX4_keepIfNearer_26 rfl rfl ?_
    refine r_getl X 7 in_X4 (ci := 3) rfl rfl (ltn hnc rfl) (Nat.le_of_ble_eq_true rfl) rfl w_200 dX4_keepIfNearer_27 ?_
    refine r_lsub X dX4_keepIfNearer_30 ?_
    obtain ⟨r14, M13, h15, h⟩ := bd2_ex h
    refine r_callS X (st := []) (av := [.long (r2 - (M4.2 27 6)), .long (r5 - (M4.2 27 7))]) (k_X2_signOf l N _ hnc _ _ _ _ _ h15 d (by omega)) (fitR_s (Nat.le_of_ble_eq_true rfl)) ⟨Nat.le_refl 0, Nat.le_refl 0⟩ w_392 w_46 w_391 w_562 hy_X2_signOf rfl (Nat.le_of_ble_eq_true rfl) dX4_keepIfNearer_31 ?_
    refine r_ifge X 64 dX4_keepIfNearer_34 (by decide) (fun c16 => ?_) (fun c16 => ?_)
    · replace h := it_t c16 h
      exact r_vretE X hr dX4_keepIfNearer_64 h
    · replace h := it_f c16 h
      refine r_aload_n X 2 dX4_keepIfNearer_37 rfl rfl ?_
      refine r_iconst X 1 dX4_keepIfNearer_38 rfl ?_
      obtain ⟨M17, eM17, h⟩ := nm_ex h
      refine r_puti X 5 in_X4 (ci := 3) rfl tyX4_ok nmX4 rfl (ltn hnc rfl) (Nat.le_of_ble_eq_true rfl) rfl w_198 rfl (ty := .boolean) rfl rfl rfl dX4_keepIfNearer_39 ?_
      refine r_mem eM17 ?_
      refine r_aload_n X 2 dX4_keepIfNearer_42 rfl rfl ?_
      refine r_lload_n X 1 dX4_keepIfNearer_43 rfl rfl ?_
      obtain ⟨M18, eM18, h⟩ := nm_ex h
      refine r_putl X 6 in_X4 (ci := 3) rfl tyX4_ok nmX4 rfl (ltn hnc rfl) (Nat.le_of_ble_eq_true rfl) rfl w_199 rfl rfl dX4_keepIfNearer_44 ?_
      refine r_mem eM18 ?_
      refine r_aload_n X 2 dX4_keepIfNearer_47 rfl rfl ?_
      refine r_lload X 0 dX4_keepIfNearer_48 rfl ?_
      obtain ⟨M19, eM19, h⟩ := nm_ex h
      refine r_putl X 7 in_X4 (ci := 3) rfl tyX4_ok nmX4 rfl (ltn hnc rfl) (Nat.le_of_ble_eq_true rfl) rfl w_200 rfl rfl dX4_keepIfNearer_50 ?_
      refine r_mem eM19 ?_
      refine r_aload_n X 2 dX4_keepIfNearer_53 rfl rfl ?_
      refine r_getr X 3 29 in_X4 (ci := 3) rfl rfl (ltn hnc rfl) (Nat.le_of_ble_eq_true rfl) rfl w_195 dX4_keepIfNearer_54 (by decide) ?_
      refine r_aload_n X 2 dX4_keepIfNearer_57 rfl rfl ?_
      refine r_getr X 4 30 in_X4 (ci := 3) rfl rfl (ltn hnc rfl) (Nat.le_of_ble_eq_true rfl) rfl w_196 dX4_keepIfNearer_58 (by decide) ?_
      obtain ⟨M20, h21, h⟩ := bd_ex h
      refine r_callSN X (st := []) (av := [.ref 29, .ref 30]) (k_X6_copyAll l N _ _ _ _ _ (Or.inl (ltn hnc rfl)) (Or.inl (ltn hnc rfl)) _ h21 d (by omega)) (fitR_s (Nat.le_of_ble_eq_true rfl)) ⟨Nat.le_refl 0, Nat.le_refl 0⟩ w_68 w_39 w_67 w_543 hy_X6_copyAll rfl (Nat.le_of_ble_eq_true rfl) dX4_keepIfNearer_61 ?_
      exact r_vretE X hr dX4_keepIfNearer_64 h
def l_X4_layNear_31 (N : Nat) (REC : Mem → Int32 → Int32 → Int64 → Int32 → Int32 → Option Mem)   : Nat → Mem → Int32 → Int32 → Int64 → Int32 → Int32 → Int32 → Option Mem
  | 0, _, _, _, _, _, _, _ => none
  | n + 1, M, v1, v2, v3, v5, v6, v8 =>
    if (10 : Int32) ≤ v8 then
      (some M)
    else
      (bd2 (f_X6_at shp N M 46 v8) fun r6 M5 =>
      bd2 (f_X6_at shp N M5 47 v8) fun r9 M8 =>
      bd2 (f_X6_at shp N M8 28 r6) fun r12 M11 =>
      if r12 ≤ 0 then
        (l_X4_layNear_31 N REC n M11 v1 v2 v3 v5 v6 (v8 + 1))
      else
        (if v6 = 0 then
          (if r9 < 0 then
            (l_X4_layNear_31 N REC n M11 v1 v2 v3 v5 v6 (v8 + 1))
          else
            (bd2 (f_X1_step N M11 v5 v8) fun r59 M58 =>
            bd2 (f_X1_turned N M58 v5 v8) fun r62 M61 =>
            bd (f_X6_put shp N M61 29 v1 v8) fun M64 =>
            if v2 ≤ (v1 + (1 : Int32)) then
              (if r62 = 0 then
                (if (lg_cmp (v3 + r59) (0 : Int64)) = 0 then
                  (l_X4_layNear_31 N REC n M64 v1 v2 v3 v5 v6 (v8 + 1))
                else
                  (bd (f_X4_keepIfNearer N M64 (v3 + r59)) fun M69 =>
                  l_X4_layNear_31 N REC n M69 v1 v2 v3 v5 v6 (v8 + 1)))
              else
                (l_X4_layNear_31 N REC n M64 v1 v2 v3 v5 v6 (v8 + 1)))
            else
              (bd2 (f_X6_at shp N M64 28 r6) fun r72 M71 =>
              bd (f_X6_put shp N M71 28 r6 (r72 - (1 : Int32))) fun M74 =>
              if v6 = 0 then
                (if r9 = 0 then
                  (bd (REC M74 (v1 + (1 : Int32)) v2 (v3 + r59) r62 (0 : Int32)) fun M85 =>
                  bd2 (f_X6_at shp N M85 28 r6) fun r88 M87 =>
                  bd (f_X6_put shp N M87 28 r6 (r88 + (1 : Int32))) fun M90 =>
                  l_X4_layNear_31 N REC n M90 v1 v2 v3 v5 v6 (v8 + 1))
                else
                  (bd (REC M74 (v1 + (1 : Int32)) v2 (v3 + r59) r62 (1 : Int32)) fun M92 =>
                  bd2 (f_X6_at shp N M92 28 r6) fun r95 M94 =>
                  bd (f_X6_put shp N M94 28 r6 (r95 + (1 : Int32))) fun M97 =>
                  l_X4_layNear_31 N REC n M97 v1 v2 v3 v5 v6 (v8 + 1)))
              else
                (bd (REC M74 (v1 + (1 : Int32)) v2 (v3 + r59) r62 (1 : Int32)) fun M77 =>
                bd2 (f_X6_at shp N M77 28 r6) fun r80 M79 =>
                bd (f_X6_put shp N M79 28 r6 (r80 + (1 : Int32))) fun M82 =>
                l_X4_layNear_31 N REC n M82 v1 v2 v3 v5 v6 (v8 + 1)))))
        else
          (bd2 (f_X1_step N M11 v5 v8) fun r17 M16 =>
          bd2 (f_X1_turned N M16 v5 v8) fun r20 M19 =>
          bd (f_X6_put shp N M19 29 v1 v8) fun M22 =>
          if v2 ≤ (v1 + (1 : Int32)) then
            (if r20 = 0 then
              (if (lg_cmp (v3 + r17) (0 : Int64)) = 0 then
                (l_X4_layNear_31 N REC n M22 v1 v2 v3 v5 v6 (v8 + 1))
              else
                (bd (f_X4_keepIfNearer N M22 (v3 + r17)) fun M27 =>
                l_X4_layNear_31 N REC n M27 v1 v2 v3 v5 v6 (v8 + 1)))
            else
              (l_X4_layNear_31 N REC n M22 v1 v2 v3 v5 v6 (v8 + 1)))
          else
            (bd2 (f_X6_at shp N M22 28 r6) fun r30 M29 =>
            bd (f_X6_put shp N M29 28 r6 (r30 - (1 : Int32))) fun M32 =>
            if v6 = 0 then
              (if r9 = 0 then
                (bd (REC M32 (v1 + (1 : Int32)) v2 (v3 + r17) r20 (0 : Int32)) fun M43 =>
                bd2 (f_X6_at shp N M43 28 r6) fun r46 M45 =>
                bd (f_X6_put shp N M45 28 r6 (r46 + (1 : Int32))) fun M48 =>
                l_X4_layNear_31 N REC n M48 v1 v2 v3 v5 v6 (v8 + 1))
              else
                (bd (REC M32 (v1 + (1 : Int32)) v2 (v3 + r17) r20 (1 : Int32)) fun M50 =>
                bd2 (f_X6_at shp N M50 28 r6) fun r53 M52 =>
                bd (f_X6_put shp N M52 28 r6 (r53 + (1 : Int32))) fun M55 =>
                l_X4_layNear_31 N REC n M55 v1 v2 v3 v5 v6 (v8 + 1)))
            else
              (bd (REC M32 (v1 + (1 : Int32)) v2 (v3 + r17) r20 (1 : Int32)) fun M35 =>
              bd2 (f_X6_at shp N M35 28 r6) fun r38 M37 =>
              bd (f_X6_put shp N M37 28 r6 (r38 + (1 : Int32))) fun M40 =>
              l_X4_layNear_31 N REC n M40 v1 v2 v3 v5 v6 (v8 + 1))))))
def f_X4_layNear (N : Nat) : Nat → Mem → Int32 → Int32 → Int64 → Int32 → Int32 → Option Mem
  | 0 => fun _ _ _ _ _ _ => none
  | dd + 1 => fun M p0 p1 p2 p3 p4 =>
    nm (imin p3 ((8 : Int32) - p3)) fun x1 =>
    if p1 ≤ p0 then
      (some M)
    else
      (if x1 ≤ ((2 : Int32) * (p1 - p0)) then
        (l_X4_layNear_31 N (f_X4_layNear N dd) N M p0 p1 p2 p3 p4 (0 : Int32))
      else
        (some M))
set_option maxRecDepth 100000 in
set_option maxHeartbeats 4000000 in
theorem k_X4_layNear (l : Launch) (N : Nat) (nc : Nat) (hnc : 34 ≤ nc) : ∀ (dd : Nat) (M : Mem) (p0 : Int32) (p1 : Int32) (p2 : Int64) (p3 : Int32) (p4 : Int32) (M' : Mem), f_X4_layNear N dd M p0 p1 p2 p3 p4 = some M' → ∀ (d : Nat), 3 + dd ≤ d → Ct l d yX4_layNear cX4_layNear 14 none shp nc [.ref 27, .int p0, .int p1, .long p2, .int p3, .int p4] M none M' := by
  intro dd
  induction dd with
  | zero => intro M p0 p1 p2 p3 p4  M' h; cases h
  | succ dd ihd =>
    intro M p0 p1 p2 p3 p4  M' h d hd
    obtain ⟨d, rfl⟩ : ∃ q, d = q + 1 := ⟨d - 1, by omega⟩
    rw [f_X4_layNear] at h
    refine Ct.of (by decide +kernel) (Nat.le_of_ble_eq_true rfl) ?_
    intro p e s m args below meth c A ad D cI cJ X hr
    have hl31 : ∀ (n : Nat) (M : Mem) (v1 : Int32) (v2 : Int32) (v3 : Int64) (v5 : Int32) (v6 : Int32) (v8 : Int32), l_X4_layNear_31 N (f_X4_layNear N dd) n M v1 v2 v3 v5 v6 v8 = some M' → AW p l e (rmd (d + 1)) s m args below meth c 14 A ad D cI cJ shp nc 0 0 (MQ below (Qq A ad D cI cJ shp nc none M') args s 0 0 A) M 31 [(0, .ref 27), (1, .int v1), (2, .int v2), (3, .long v3), (5, .int v5), (6, .int v6), (8, .int v8)] [] := by
      intro n
      induction n with
      | zero => intro M v1 v2 v3 v5 v6 v8 h; cases h
      | succ n ih =>
        intro M v1 v2 v3 v5 v6 v8 h
        rw [l_X4_layNear_31] at h
        refine r_iload X 6 dX4_layNear_31 rfl ?_
        refine r_bipush X 10 dX4_layNear_33 rfl ?_
        refine r_icge X 215 dX4_layNear_35 (by decide) (fun c4 => ?_) (fun c4 => ?_)
        · replace h := it_t c4 h
          exact r_vretE X hr dX4_layNear_215 h
        · replace h := it_f c4 h
          refine r_getsN X 1 (Nat.le_of_ble_eq_true rfl) w_550 dX4_layNear_38 ?_
          refine r_iload X 6 dX4_layNear_41 rfl ?_
          obtain ⟨r6, M5, h7, h⟩ := bd2_ex h
          refine r_callSN X (st := []) (av := [.ref 46, .int v8]) (k_X6_at l N _ _ _ _ _ (Or.inr (Nat.le_of_ble_eq_true rfl)) _ _ h7 d (by omega)) (fitR_s (Nat.le_of_ble_eq_true rfl)) ⟨Nat.le_refl 0, Nat.le_refl 0⟩ w_71 w_39 w_70 w_551 hy_X6_at rfl (Nat.le_of_ble_eq_true rfl) dX4_layNear_43 ?_
          refine r_istore X [(9, .int r6), (0, .ref 27), (1, .int v1), (2, .int v2), (3, .long v3), (5, .int v5), (6, .int v6), (8, .int v8)] dX4_layNear_46 (Nat.le_of_ble_eq_true rfl) rfl ?_
          refine r_getsN X 2 (Nat.le_of_ble_eq_true rfl) w_552 dX4_layNear_48 ?_
          refine r_iload X 7 dX4_layNear_51 rfl ?_
          obtain ⟨r9, M8, h10, h⟩ := bd2_ex h
          refine r_callSN X (st := []) (av := [.ref 47, .int v8]) (k_X6_at l N _ _ _ _ _ (Or.inr (Nat.le_of_ble_eq_true rfl)) _ _ h10 d (by omega)) (fitR_s (Nat.le_of_ble_eq_true rfl)) ⟨Nat.le_refl 0, Nat.le_refl 0⟩ w_71 w_39 w_70 w_551 hy_X6_at rfl (Nat.le_of_ble_eq_true rfl) dX4_layNear_53 ?_
          refine r_istore X [(10, .int r9), (9, .int r6), (0, .ref 27), (1, .int v1), (2, .int v2), (3, .long v3), (5, .int v5), (6, .int v6), (8, .int v8)] dX4_layNear_56 (Nat.le_of_ble_eq_true rfl) rfl ?_
          refine r_aload_n X 2 dX4_layNear_58 rfl rfl ?_
          refine r_getr X 2 28 in_X4 (ci := 3) rfl rfl (ltn hnc rfl) (Nat.le_of_ble_eq_true rfl) rfl w_194 dX4_layNear_59 (by decide) ?_
          refine r_iload X 1 dX4_layNear_62 rfl ?_
          obtain ⟨r12, M11, h13, h⟩ := bd2_ex h
          refine r_callSN X (st := []) (av := [.ref 28, .int r6]) (k_X6_at l N _ _ _ _ _ (Or.inl (ltn hnc rfl)) _ _ h13 d (by omega)) (fitR_s (Nat.le_of_ble_eq_true rfl)) ⟨Nat.le_refl 0, Nat.le_refl 0⟩ w_71 w_39 w_70 w_551 hy_X6_at rfl (Nat.le_of_ble_eq_true rfl) dX4_layNear_64 ?_
          refine r_ifle X 209 dX4_layNear_67 (by decide) (fun c14 => ?_) (fun c14 => ?_)
          · replace h := it_t c14 h
            refine r_iinc X [(8, .int (v8 + 1)), (10, .int r9), (9, .int r6), (0, .ref 27), (1, .int v1), (2, .int v2), (3, .long v3), (5, .int v5), (6, .int v6)] 8 (v8 + 1) dX4_layNear_209 rfl rfl (Nat.le_of_ble_eq_true rfl) rfl ?_
            refine r_goto X 31 dX4_layNear_212 (by decide) ?_
            refine r_sub (ls' := [(0, .ref 27), (1, .int v1), (2, .int v2), (3, .long v3), (5, .int v5), (6, .int v6), (8, .int (v8 + 1))]) [3, 4, 5, 6, 7, 8, 0] rfl ?_
            exact ih M11 v1 v2 v3 v5 v6 (v8 + 1) h
          · replace h := it_f c14 h
            refine r_iload X 7 dX4_layNear_70 rfl ?_
            refine r_ifne X 80 dX4_layNear_72 (by decide) (fun c15 => ?_) (fun c15 => ?_)
            · replace h := it_f c15 h
              refine r_lload_n X 5 dX4_layNear_80 rfl rfl ?_
              refine r_aload_n X 2 dX4_layNear_81 rfl rfl ?_
              refine r_getr X 1 15 in_X4 (ci := 3) rfl rfl (ltn hnc rfl) (Nat.le_of_ble_eq_true rfl) rfl w_193 dX4_layNear_82 (by decide) ?_
              refine r_iload X 6 dX4_layNear_85 rfl ?_
              refine r_iload X 8 dX4_layNear_87 rfl ?_
              obtain ⟨r17, M16, h18, h⟩ := bd2_ex h
              refine r_callV X (st := [.long v3]) (av := [.int v5, .int v8]) (k := 15) (ci := 1) (k_X1_step l N _ hnc _ _ _ _ _ h18 d (by omega)) (fitR_s (Nat.le_of_ble_eq_true rfl)) ⟨Nat.le_refl 0, Nat.le_refl 0⟩ rfl (ltn hnc rfl) rfl w_340 w_41 w_338 w_339 w_553 hy_X1_step rfl (Nat.le_of_ble_eq_true rfl) dX4_layNear_89 ?_
              refine r_ladd X dX4_layNear_92 ?_
              refine r_lstore X [(11, .long (v3 + r17)), (10, .int r9), (9, .int r6), (0, .ref 27), (1, .int v1), (2, .int v2), (3, .long v3), (5, .int v5), (6, .int v6), (8, .int v8)] dX4_layNear_93 (Nat.le_of_ble_eq_true rfl) rfl ?_
              refine r_iload X 7 dX4_layNear_95 rfl ?_
              refine r_iload X 9 dX4_layNear_97 rfl ?_
              obtain ⟨r20, M19, h21, h⟩ := bd2_ex h
              refine r_callS X (st := []) (av := [.int v5, .int v8]) (k_X1_turned l N _ hnc _ _ _ _ _ h21 d (by omega)) (fitR_s (Nat.le_of_ble_eq_true rfl)) ⟨Nat.le_refl 0, Nat.le_refl 0⟩ w_346 w_41 w_345 w_554 hy_X1_turned rfl (Nat.le_of_ble_eq_true rfl) dX4_layNear_99 ?_
              refine r_istore X [(13, .int r20), (11, .long (v3 + r17)), (10, .int r9), (9, .int r6), (0, .ref 27), (1, .int v1), (2, .int v2), (3, .long v3), (5, .int v5), (6, .int v6), (8, .int v8)] dX4_layNear_102 (Nat.le_of_ble_eq_true rfl) rfl ?_
              refine r_aload_n X 4 dX4_layNear_104 rfl rfl ?_
              refine r_getr X 3 29 in_X4 (ci := 3) rfl rfl (ltn hnc rfl) (Nat.le_of_ble_eq_true rfl) rfl w_195 dX4_layNear_105 (by decide) ?_
              refine r_iload_n X 5 dX4_layNear_108 rfl rfl ?_
              refine r_iload X 10 dX4_layNear_109 rfl ?_
              obtain ⟨M22, h23, h⟩ := bd_ex h
              refine r_callSN X (st := []) (av := [.ref 29, .int v1, .int v8]) (k_X6_put l N _ _ _ _ _ _ (Or.inl (ltn hnc rfl)) _ h23 d (by omega)) (fitR_s (Nat.le_of_ble_eq_true rfl)) ⟨Nat.le_refl 0, Nat.le_refl 0⟩ w_287 w_39 w_286 w_555 hy_X6_put rfl (Nat.le_of_ble_eq_true rfl) dX4_layNear_111 ?_
              refine r_iload_n X 5 dX4_layNear_114 rfl rfl ?_
              refine r_iconst X 1 dX4_layNear_115 rfl ?_
              refine r_iadd X dX4_layNear_116 ?_
              refine r_iload_n X 6 dX4_layNear_117 rfl rfl ?_
              refine r_icge X 191 dX4_layNear_118 (by decide) (fun c24 => ?_) (fun c24 => ?_)
              · replace h := it_t c24 h
                refine r_iload X 0 dX4_layNear_191 rfl ?_
                refine r_ifne X 209 dX4_layNear_193 (by decide) (fun c25 => ?_) (fun c25 => ?_)
                · replace h := it_f c25 h
                  refine r_iinc X [(8, .int (v8 + 1)), (13, .int r20), (11, .long (v3 + r17)), (10, .int r9), (9, .int r6), (0, .ref 27), (1, .int v1), (2, .int v2), (3, .long v3), (5, .int v5), (6, .int v6)] 10 (v8 + 1) dX4_layNear_209 rfl rfl (Nat.le_of_ble_eq_true rfl) rfl ?_
                  refine r_goto X 31 dX4_layNear_212 (by decide) ?_
                  refine r_sub (ls' := [(0, .ref 27), (1, .int v1), (2, .int v2), (3, .long v3), (5, .int v5), (6, .int v6), (8, .int (v8 + 1))]) [5, 6, 7, 8, 9, 10, 0] rfl ?_
                  exact ih M22 v1 v2 v3 v5 v6 (v8 + 1) h
                · replace h := it_t c25 h
                  refine r_lload X 1 dX4_layNear_196 rfl ?_
                  refine r_lconst X 0 dX4_layNear_198 rfl ?_
                  refine r_lcmp X dX4_layNear_199 ?_
                  refine r_ifeq X 209 dX4_layNear_200 (by decide) (fun c26 => ?_) (fun c26 => ?_)
                  · replace h := it_t c26 h
                    refine r_iinc X [(8, .int (v8 + 1)), (13, .int r20), (11, .long (v3 + r17)), (10, .int r9), (9, .int r6), (0, .ref 27), (1, .int v1), (2, .int v2), (3, .long v3), (5, .int v5), (6, .int v6)] 10 (v8 + 1) dX4_layNear_209 rfl rfl (Nat.le_of_ble_eq_true rfl) rfl ?_
                    refine r_goto X 31 dX4_layNear_212 (by decide) ?_
                    refine r_sub (ls' := [(0, .ref 27), (1, .int v1), (2, .int v2), (3, .long v3), (5, .int v5), (6, .int v6), (8, .int (v8 + 1))]) [5, 6, 7, 8, 9, 10, 0] rfl ?_
                    exact ih M22 v1 v2 v3 v5 v6 (v8 + 1) h
                  · replace h := it_f c26 h
                    refine r_aload_n X 4 dX4_layNear_203 rfl rfl ?_
                    refine r_lload X 1 dX4_layNear_204 rfl ?_
                    obtain ⟨M27, h28, h⟩ := bd_ex h
                    refine r_callV X (st := []) (av := [.long (v3 + r17)]) (k := 27) (ci := 3) (k_X4_keepIfNearer l N _ hnc _ _ _ h28 d (by omega)) (fitR_s (Nat.le_of_ble_eq_true rfl)) ⟨Nat.le_refl 0, Nat.le_refl 0⟩ rfl (ltn hnc rfl) rfl w_559 w_44 w_558 w_16 w_556 hy_X4_keepIfNearer rfl (Nat.le_of_ble_eq_true rfl) dX4_layNear_206 ?_
                    refine r_iinc X [(8, .int (v8 + 1)), (13, .int r20), (11, .long (v3 + r17)), (10, .int r9), (9, .int r6), (0, .ref 27), (1, .int v1), (2, .int v2), (3, .long v3), (5, .int v5), (6, .int v6)] 10 (v8 + 1) dX4_layNear_209 rfl rfl (Nat.le_of_ble_eq_true rfl) rfl ?_
                    refine r_goto X 31 dX4_layNear_212 (by decide) ?_
                    refine r_sub (ls' := [(0, .ref 27), (1, .int v1), (2, .int v2), (3, .long v3), (5, .int v5), (6, .int v6), (8, .int (v8 + 1))]) [5, 6, 7, 8, 9, 10, 0] rfl ?_
                    exact ih M27 v1 v2 v3 v5 v6 (v8 + 1) h
              · replace h := it_f c24 h
                refine r_aload_n X 4 dX4_layNear_121 rfl rfl ?_
                refine r_getr X 2 28 in_X4 (ci := 3) rfl rfl (ltn hnc rfl) (Nat.le_of_ble_eq_true rfl) rfl w_194 dX4_layNear_122 (by decide) ?_
                refine r_iload X 3 dX4_layNear_125 rfl ?_
                refine r_aload_n X 4 dX4_layNear_127 rfl rfl ?_
                refine r_getr X 2 28 in_X4 (ci := 3) rfl rfl (ltn hnc rfl) (Nat.le_of_ble_eq_true rfl) rfl w_194 dX4_layNear_128 (by decide) ?_
                refine r_iload X 3 dX4_layNear_131 rfl ?_
                obtain ⟨r30, M29, h31, h⟩ := bd2_ex h
                refine r_callSN X (st := [.int r6, .ref 28]) (av := [.ref 28, .int r6]) (k_X6_at l N _ _ _ _ _ (Or.inl (ltn hnc rfl)) _ _ h31 d (by omega)) (fitR_s (Nat.le_of_ble_eq_true rfl)) ⟨Nat.le_refl 0, Nat.le_refl 0⟩ w_71 w_39 w_70 w_551 hy_X6_at rfl (Nat.le_of_ble_eq_true rfl) dX4_layNear_133 ?_
                refine r_iconst X 1 dX4_layNear_136 rfl ?_
                refine r_isub X dX4_layNear_137 ?_
                obtain ⟨M32, h33, h⟩ := bd_ex h
                refine r_callSN X (st := []) (av := [.ref 28, .int r6, .int (r30 - (1 : Int32))]) (k_X6_put l N _ _ _ _ _ _ (Or.inl (ltn hnc rfl)) _ h33 d (by omega)) (fitR_s (Nat.le_of_ble_eq_true rfl)) ⟨Nat.le_refl 0, Nat.le_refl 0⟩ w_287 w_39 w_286 w_555 hy_X6_put rfl (Nat.le_of_ble_eq_true rfl) dX4_layNear_138 ?_
                refine r_aload_n X 4 dX4_layNear_141 rfl rfl ?_
                refine r_iload_n X 5 dX4_layNear_142 rfl rfl ?_
                refine r_iconst X 1 dX4_layNear_143 rfl ?_
                refine r_iadd X dX4_layNear_144 ?_
                refine r_iload_n X 6 dX4_layNear_145 rfl rfl ?_
                refine r_lload X 1 dX4_layNear_146 rfl ?_
                refine r_iload X 0 dX4_layNear_148 rfl ?_
                refine r_iload X 9 dX4_layNear_150 rfl ?_
                refine r_ifne X 160 dX4_layNear_152 (by decide) (fun c34 => ?_) (fun c34 => ?_)
                · replace h := it_f c34 h
                  refine r_iconst X 1 dX4_layNear_160 rfl ?_
                  refine r_goto X 165 dX4_layNear_161 (by decide) ?_
                  obtain ⟨M35, h36, h⟩ := bd_ex h
                  refine r_callS X (st := []) (av := [.ref 27, .int (v1 + (1 : Int32)), .int v2, .long (v3 + r17), .int r20, .int (1 : Int32)]) (ihd _ _ _ _ _ _ _ h36 d (by omega)) (fitR_s (Nat.le_of_ble_eq_true rfl)) ⟨Nat.le_refl 0, Nat.le_refl 0⟩ w_549 w_44 w_548 w_547 hy_X4_layNear rfl (Nat.le_of_ble_eq_true rfl) dX4_layNear_165 ?_
                  refine r_aload_n X 4 dX4_layNear_168 rfl rfl ?_
                  refine r_getr X 2 28 in_X4 (ci := 3) rfl rfl (ltn hnc rfl) (Nat.le_of_ble_eq_true rfl) rfl w_194 dX4_layNear_169 (by decide) ?_
                  refine r_iload X 3 dX4_layNear_172 rfl ?_
                  refine r_aload_n X 4 dX4_layNear_174 rfl rfl ?_
                  refine r_getr X 2 28 in_X4 (ci := 3) rfl rfl (ltn hnc rfl) (Nat.le_of_ble_eq_true rfl) rfl w_194 dX4_layNear_175 (by decide) ?_
                  refine r_iload X 3 dX4_layNear_178 rfl ?_
                  obtain ⟨r38, M37, h39, h⟩ := bd2_ex h
                  refine r_callSN X (st := [.int r6, .ref 28]) (av := [.ref 28, .int r6]) (k_X6_at l N _ _ _ _ _ (Or.inl (ltn hnc rfl)) _ _ h39 d (by omega)) (fitR_s (Nat.le_of_ble_eq_true rfl)) ⟨Nat.le_refl 0, Nat.le_refl 0⟩ w_71 w_39 w_70 w_551 hy_X6_at rfl (Nat.le_of_ble_eq_true rfl) dX4_layNear_180 ?_
                  refine r_iconst X 1 dX4_layNear_183 rfl ?_
                  refine r_iadd X dX4_layNear_184 ?_
                  obtain ⟨M40, h41, h⟩ := bd_ex h
                  refine r_callSN X (st := []) (av := [.ref 28, .int r6, .int (r38 + (1 : Int32))]) (k_X6_put l N _ _ _ _ _ _ (Or.inl (ltn hnc rfl)) _ h41 d (by omega)) (fitR_s (Nat.le_of_ble_eq_true rfl)) ⟨Nat.le_refl 0, Nat.le_refl 0⟩ w_287 w_39 w_286 w_555 hy_X6_put rfl (Nat.le_of_ble_eq_true rfl) dX4_layNear_185 ?_
                  refine r_goto X 209 dX4_layNear_188 (by decide) ?_
                  refine r_iinc X [(8, .int (v8 + 1)), (13, .int r20), (11, .long (v3 + r17)), (10, .int r9), (9, .int r6), (0, .ref 27), (1, .int v1), (2, .int v2), (3, .long v3), (5, .int v5), (6, .int v6)] 10 (v8 + 1) dX4_layNear_209 rfl rfl (Nat.le_of_ble_eq_true rfl) rfl ?_
                  refine r_goto X 31 dX4_layNear_212 (by decide) ?_
                  refine r_sub (ls' := [(0, .ref 27), (1, .int v1), (2, .int v2), (3, .long v3), (5, .int v5), (6, .int v6), (8, .int (v8 + 1))]) [5, 6, 7, 8, 9, 10, 0] rfl ?_
                  exact ih M40 v1 v2 v3 v5 v6 (v8 + 1) h
                · replace h := it_t c34 h
                  refine r_iload X 2 dX4_layNear_155 rfl ?_
                  refine r_ifeq X 164 dX4_layNear_157 (by decide) (fun c42 => ?_) (fun c42 => ?_)
                  · replace h := it_t c42 h
                    refine r_iconst X 0 dX4_layNear_164 rfl ?_
                    obtain ⟨M43, h44, h⟩ := bd_ex h
                    refine r_callS X (st := []) (av := [.ref 27, .int (v1 + (1 : Int32)), .int v2, .long (v3 + r17), .int r20, .int (0 : Int32)]) (ihd _ _ _ _ _ _ _ h44 d (by omega)) (fitR_s (Nat.le_of_ble_eq_true rfl)) ⟨Nat.le_refl 0, Nat.le_refl 0⟩ w_549 w_44 w_548 w_547 hy_X4_layNear rfl (Nat.le_of_ble_eq_true rfl) dX4_layNear_165 ?_
                    refine r_aload_n X 4 dX4_layNear_168 rfl rfl ?_
                    refine r_getr X 2 28 in_X4 (ci := 3) rfl rfl (ltn hnc rfl) (Nat.le_of_ble_eq_true rfl) rfl w_194 dX4_layNear_169 (by decide) ?_
                    refine r_iload X 3 dX4_layNear_172 rfl ?_
                    refine r_aload_n X 4 dX4_layNear_174 rfl rfl ?_
                    refine r_getr X 2 28 in_X4 (ci := 3) rfl rfl (ltn hnc rfl) (Nat.le_of_ble_eq_true rfl) rfl w_194 dX4_layNear_175 (by decide) ?_
                    refine r_iload X 3 dX4_layNear_178 rfl ?_
                    obtain ⟨r46, M45, h47, h⟩ := bd2_ex h
                    refine r_callSN X (st := [.int r6, .ref 28]) (av := [.ref 28, .int r6]) (k_X6_at l N _ _ _ _ _ (Or.inl (ltn hnc rfl)) _ _ h47 d (by omega)) (fitR_s (Nat.le_of_ble_eq_true rfl)) ⟨Nat.le_refl 0, Nat.le_refl 0⟩ w_71 w_39 w_70 w_551 hy_X6_at rfl (Nat.le_of_ble_eq_true rfl) dX4_layNear_180 ?_
                    refine r_iconst X 1 dX4_layNear_183 rfl ?_
                    refine r_iadd X dX4_layNear_184 ?_
                    obtain ⟨M48, h49, h⟩ := bd_ex h
                    refine r_callSN X (st := []) (av := [.ref 28, .int r6, .int (r46 + (1 : Int32))]) (k_X6_put l N _ _ _ _ _ _ (Or.inl (ltn hnc rfl)) _ h49 d (by omega)) (fitR_s (Nat.le_of_ble_eq_true rfl)) ⟨Nat.le_refl 0, Nat.le_refl 0⟩ w_287 w_39 w_286 w_555 hy_X6_put rfl (Nat.le_of_ble_eq_true rfl) dX4_layNear_185 ?_
                    refine r_goto X 209 dX4_layNear_188 (by decide) ?_
                    refine r_iinc X [(8, .int (v8 + 1)), (13, .int r20), (11, .long (v3 + r17)), (10, .int r9), (9, .int r6), (0, .ref 27), (1, .int v1), (2, .int v2), (3, .long v3), (5, .int v5), (6, .int v6)] 10 (v8 + 1) dX4_layNear_209 rfl rfl (Nat.le_of_ble_eq_true rfl) rfl ?_
                    refine r_goto X 31 dX4_layNear_212 (by decide) ?_
                    refine r_sub (ls' := [(0, .ref 27), (1, .int v1), (2, .int v2), (3, .long v3), (5, .int v5), (6, .int v6), (8, .int (v8 + 1))]) [5, 6, 7, 8, 9, 10, 0] rfl ?_
                    exact ih M48 v1 v2 v3 v5 v6 (v8 + 1) h
                  · replace h := it_f c42 h
                    refine r_iconst X 1 dX4_layNear_160 rfl ?_
                    refine r_goto X 165 dX4_layNear_161 (by decide) ?_
                    obtain ⟨M50, h51, h⟩ := bd_ex h
                    refine r_callS X (st := []) (av := [.ref 27, .int (v1 + (1 : Int32)), .int v2, .long (v3 + r17), .int r20, .int (1 : Int32)]) (ihd _ _ _ _ _ _ _ h51 d (by omega)) (fitR_s (Nat.le_of_ble_eq_true rfl)) ⟨Nat.le_refl 0, Nat.le_refl 0⟩ w_549 w_44 w_548 w_547 hy_X4_layNear rfl (Nat.le_of_ble_eq_true rfl) dX4_layNear_165 ?_
                    refine r_aload_n X 4 dX4_layNear_168 rfl rfl ?_
                    refine r_getr X 2 28 in_X4 (ci := 3) rfl rfl (ltn hnc rfl) (Nat.le_of_ble_eq_true rfl) rfl w_194 dX4_layNear_169 (by decide) ?_
                    refine r_iload X 3 dX4_layNear_172 rfl ?_
                    refine r_aload_n X 4 dX4_layNear_174 rfl rfl ?_
                    refine r_getr X 2 28 in_X4 (ci := 3) rfl rfl (ltn hnc rfl) (Nat.le_of_ble_eq_true rfl) rfl w_194 dX4_layNear_175 (by decide) ?_
                    refine r_iload X 3 dX4_layNear_178 rfl ?_
                    obtain ⟨r53, M52, h54, h⟩ := bd2_ex h
                    refine r_callSN X (st := [.int r6, .ref 28]) (av := [.ref 28, .int r6]) (k_X6_at l N _ _ _ _ _ (Or.inl (ltn hnc rfl)) _ _ h54 d (by omega)) (fitR_s (Nat.le_of_ble_eq_true rfl)) ⟨Nat.le_refl 0, Nat.le_refl 0⟩ w_71 w_39 w_70 w_551 hy_X6_at rfl (Nat.le_of_ble_eq_true rfl) dX4_layNear_180 ?_
                    refine r_iconst X 1 dX4_layNear_183 rfl ?_
                    refine r_iadd X dX4_layNear_184 ?_
                    obtain ⟨M55, h56, h⟩ := bd_ex h
                    refine r_callSN X (st := []) (av := [.ref 28, .int r6, .int (r53 + (1 : Int32))]) (k_X6_put l N _ _ _ _ _ _ (Or.inl (ltn hnc rfl)) _ h56 d (by omega)) (fitR_s (Nat.le_of_ble_eq_true rfl)) ⟨Nat.le_refl 0, Nat.le_refl 0⟩ w_287 w_39 w_286 w_555 hy_X6_put rfl (Nat.le_of_ble_eq_true rfl) dX4_layNear_185 ?_
                    refine r_goto X 209 dX4_layNear_188 (by decide) ?_
                    refine r_iinc X [(8, .int (v8 + 1)), (13, .int r20), (11, .long (v3 + r17)), (10, .int r9), (9, .int r6), (0, .ref 27), (1, .int v1), (2, .int v2), (3, .long v3), (5, .int v5), (6, .int v6)] 10 (v8 + 1) dX4_layNear_209 rfl rfl (Nat.le_of_ble_eq_true rfl) rfl ?_
                    refine r_goto X 31 dX4_layNear_212 (by decide) ?_
                    refine r_sub (ls' := [(0, .ref 27), (1, .int v1), (2, .int v2), (3, .long v3), (5, .int v5), (6, .int v6), (8, .int (v8 + 1))]) [5, 6, 7, 8, 9, 10, 0] rfl ?_
                    exact ih M55 v1 v2 v3 v5 v6 (v8 + 1) h
            · replace h := it_t c15 h
              refine r_iload X 0 dX4_layNear_75 rfl ?_
              refine r_iflt X 209 dX4_layNear_77 (by decide) (fun c57 => ?_) (fun c57 => ?_)
              · replace h := it_t c57 h
                refine r_iinc X [(8, .int (v8 + 1)), (10, .int r9), (9, .int r6), (0, .ref 27), (1, .int v1), (2, .int v2), (3, .long v3), (5, .int v5), (6, .int v6)] 8 (v8 + 1) dX4_layNear_209 rfl rfl (Nat.le_of_ble_eq_true rfl) rfl ?_
                refine r_goto X 31 dX4_layNear_212 (by decide) ?_
                refine r_sub (ls' := [(0, .ref 27), (1, .int v1), (2, .int v2), (3, .long v3), (5, .int v5), (6, .int v6), (8, .int (v8 + 1))]) [3, 4, 5, 6, 7, 8, 0] rfl ?_
                exact ih M11 v1 v2 v3 v5 v6 (v8 + 1) h
              · replace h := it_f c57 h
                refine r_lload_n X 5 dX4_layNear_80 rfl rfl ?_
                refine r_aload_n X 2 dX4_layNear_81 rfl rfl ?_
                refine r_getr X 1 15 in_X4 (ci := 3) rfl rfl (ltn hnc rfl) (Nat.le_of_ble_eq_true rfl) rfl w_193 dX4_layNear_82 (by decide) ?_
                refine r_iload X 6 dX4_layNear_85 rfl ?_
                refine r_iload X 8 dX4_layNear_87 rfl ?_
                obtain ⟨r59, M58, h60, h⟩ := bd2_ex h
                refine r_callV X (st := [.long v3]) (av := [.int v5, .int v8]) (k := 15) (ci := 1) (k_X1_step l N _ hnc _ _ _ _ _ h60 d (by omega)) (fitR_s (Nat.le_of_ble_eq_true rfl)) ⟨Nat.le_refl 0, Nat.le_refl 0⟩ rfl (ltn hnc rfl) rfl w_340 w_41 w_338 w_339 w_553 hy_X1_step rfl (Nat.le_of_ble_eq_true rfl) dX4_layNear_89 ?_
                refine r_ladd X dX4_layNear_92 ?_
                refine r_lstore X [(11, .long (v3 + r59)), (10, .int r9), (9, .int r6), (0, .ref 27), (1, .int v1), (2, .int v2), (3, .long v3), (5, .int v5), (6, .int v6), (8, .int v8)] dX4_layNear_93 (Nat.le_of_ble_eq_true rfl) rfl ?_
                refine r_iload X 7 dX4_layNear_95 rfl ?_
                refine r_iload X 9 dX4_layNear_97 rfl ?_
                obtain ⟨r62, M61, h63, h⟩ := bd2_ex h
                refine r_callS X (st := []) (av := [.int v5, .int v8]) (k_X1_turned l N _ hnc _ _ _ _ _ h63 d (by omega)) (fitR_s (Nat.le_of_ble_eq_true rfl)) ⟨Nat.le_refl 0, Nat.le_refl 0⟩ w_346 w_41 w_345 w_554 hy_X1_turned rfl (Nat.le_of_ble_eq_true rfl) dX4_layNear_99 ?_
                refine r_istore X [(13, .int r62), (11, .long (v3 + r59)), (10, .int r9), (9, .int r6), (0, .ref 27), (1, .int v1), (2, .int v2), (3, .long v3), (5, .int v5), (6, .int v6), (8, .int v8)] dX4_layNear_102 (Nat.le_of_ble_eq_true rfl) rfl ?_
                refine r_aload_n X 4 dX4_layNear_104 rfl rfl ?_
                refine r_getr X 3 29 in_X4 (ci := 3) rfl rfl (ltn hnc rfl) (Nat.le_of_ble_eq_true rfl) rfl w_195 dX4_layNear_105 (by decide) ?_
                refine r_iload_n X 5 dX4_layNear_108 rfl rfl ?_
                refine r_iload X 10 dX4_layNear_109 rfl ?_
                obtain ⟨M64, h65, h⟩ := bd_ex h
                refine r_callSN X (st := []) (av := [.ref 29, .int v1, .int v8]) (k_X6_put l N _ _ _ _ _ _ (Or.inl (ltn hnc rfl)) _ h65 d (by omega)) (fitR_s (Nat.le_of_ble_eq_true rfl)) ⟨Nat.le_refl 0, Nat.le_refl 0⟩ w_287 w_39 w_286 w_555 hy_X6_put rfl (Nat.le_of_ble_eq_true rfl) dX4_layNear_111 ?_
                refine r_iload_n X 5 dX4_layNear_114 rfl rfl ?_
                refine r_iconst X 1 dX4_layNear_115 rfl ?_
                refine r_iadd X dX4_layNear_116 ?_
                refine r_iload_n X 6 dX4_layNear_117 rfl rfl ?_
                refine r_icge X 191 dX4_layNear_118 (by decide) (fun c66 => ?_) (fun c66 => ?_)
                · replace h := it_t c66 h
                  refine r_iload X 0 dX4_layNear_191 rfl ?_
                  refine r_ifne X 209 dX4_layNear_193 (by decide) (fun c67 => ?_) (fun c67 => ?_)
                  · replace h := it_f c67 h
                    refine r_iinc X [(8, .int (v8 + 1)), (13, .int r62), (11, .long (v3 + r59)), (10, .int r9), (9, .int r6), (0, .ref 27), (1, .int v1), (2, .int v2), (3, .long v3), (5, .int v5), (6, .int v6)] 10 (v8 + 1) dX4_layNear_209 rfl rfl (Nat.le_of_ble_eq_true rfl) rfl ?_
                    refine r_goto X 31 dX4_layNear_212 (by decide) ?_
                    refine r_sub (ls' := [(0, .ref 27), (1, .int v1), (2, .int v2), (3, .long v3), (5, .int v5), (6, .int v6), (8, .int (v8 + 1))]) [5, 6, 7, 8, 9, 10, 0] rfl ?_
                    exact ih M64 v1 v2 v3 v5 v6 (v8 + 1) h
                  · replace h := it_t c67 h
                    refine r_lload X 1 dX4_layNear_196 rfl ?_
                    refine r_lconst X 0 dX4_layNear_198 rfl ?_
                    refine r_lcmp X dX4_layNear_199 ?_
                    refine r_ifeq X 209 dX4_layNear_200 (by decide) (fun c68 => ?_) (fun c68 => ?_)
                    · replace h := it_t c68 h
                      refine r_iinc X [(8, .int (v8 + 1)), (13, .int r62), (11, .long (v3 + r59)), (10, .int r9), (9, .int r6), (0, .ref 27), (1, .int v1), (2, .int v2), (3, .long v3), (5, .int v5), (6, .int v6)] 10 (v8 + 1) dX4_layNear_209 rfl rfl (Nat.le_of_ble_eq_true rfl) rfl ?_
                      refine r_goto X 31 dX4_layNear_212 (by decide) ?_
                      refine r_sub (ls' := [(0, .ref 27), (1, .int v1), (2, .int v2), (3, .long v3), (5, .int v5), (6, .int v6), (8, .int (v8 + 1))]) [5, 6, 7, 8, 9, 10, 0] rfl ?_
                      exact ih M64 v1 v2 v3 v5 v6 (v8 + 1) h
                    · replace h := it_f c68 h
                      refine r_aload_n X 4 dX4_layNear_203 rfl rfl ?_
                      refine r_lload X 1 dX4_layNear_204 rfl ?_
                      obtain ⟨M69, h70, h⟩ := bd_ex h
                      refine r_callV X (st := []) (av := [.long (v3 + r59)]) (k := 27) (ci := 3) (k_X4_keepIfNearer l N _ hnc _ _ _ h70 d (by omega)) (fitR_s (Nat.le_of_ble_eq_true rfl)) ⟨Nat.le_refl 0, Nat.le_refl 0⟩ rfl (ltn hnc rfl) rfl w_559 w_44 w_558 w_16 w_556 hy_X4_keepIfNearer rfl (Nat.le_of_ble_eq_true rfl) dX4_layNear_206 ?_
                      refine r_iinc X [(8, .int (v8 + 1)), (13, .int r62), (11, .long (v3 + r59)), (10, .int r9), (9, .int r6), (0, .ref 27), (1, .int v1), (2, .int v2), (3, .long v3), (5, .int v5), (6, .int v6)] 10 (v8 + 1) dX4_layNear_209 rfl rfl (Nat.le_of_ble_eq_true rfl) rfl ?_
                      refine r_goto X 31 dX4_layNear_212 (by decide) ?_
                      refine r_sub (ls' := [(0, .ref 27), (1, .int v1), (2, .int v2), (3, .long v3), (5, .int v5), (6, .int v6), (8, .int (v8 + 1))]) [5, 6, 7, 8, 9, 10, 0] rfl ?_
                      exact ih M69 v1 v2 v3 v5 v6 (v8 + 1) h
                · replace h := it_f c66 h
                  refine r_aload_n X 4 dX4_layNear_121 rfl rfl ?_
                  refine r_getr X 2 28 in_X4 (ci := 3) rfl rfl (ltn hnc rfl) (Nat.le_of_ble_eq_true rfl) rfl w_194 dX4_layNear_122 (by decide) ?_
                  refine r_iload X 3 dX4_layNear_125 rfl ?_
                  refine r_aload_n X 4 dX4_layNear_127 rfl rfl ?_
                  refine r_getr X 2 28 in_X4 (ci := 3) rfl rfl (ltn hnc rfl) (Nat.le_of_ble_eq_true rfl) rfl w_194 dX4_layNear_128 (by decide) ?_
                  refine r_iload X 3 dX4_layNear_131 rfl ?_
                  obtain ⟨r72, M71, h73, h⟩ := bd2_ex h
                  refine r_callSN X (st := [.int r6, .ref 28]) (av := [.ref 28, .int r6]) (k_X6_at l N _ _ _ _ _ (Or.inl (ltn hnc rfl)) _ _ h73 d (by omega)) (fitR_s (Nat.le_of_ble_eq_true rfl)) ⟨Nat.le_refl 0, Nat.le_refl 0⟩ w_71 w_39 w_70 w_551 hy_X6_at rfl (Nat.le_of_ble_eq_true rfl) dX4_layNear_133 ?_
                  refine r_iconst X 1 dX4_layNear_136 rfl ?_
                  refine r_isub X dX4_layNear_137 ?_
                  obtain ⟨M74, h75, h⟩ := bd_ex h
                  refine r_callSN X (st := []) (av := [.ref 28, .int r6, .int (r72 - (1 : Int32))]) (k_X6_put l N _ _ _ _ _ _ (Or.inl (ltn hnc rfl)) _ h75 d (by omega)) (fitR_s (Nat.le_of_ble_eq_true rfl)) ⟨Nat.le_refl 0, Nat.le_refl 0⟩ w_287 w_39 w_286 w_555 hy_X6_put rfl (Nat.le_of_ble_eq_true rfl) dX4_layNear_138 ?_
                  refine r_aload_n X 4 dX4_layNear_141 rfl rfl ?_
                  refine r_iload_n X 5 dX4_layNear_142 rfl rfl ?_
                  refine r_iconst X 1 dX4_layNear_143 rfl ?_
                  refine r_iadd X dX4_layNear_144 ?_
                  refine r_iload_n X 6 dX4_layNear_145 rfl rfl ?_
                  refine r_lload X 1 dX4_layNear_146 rfl ?_
                  refine r_iload X 0 dX4_layNear_148 rfl ?_
                  refine r_iload X 9 dX4_layNear_150 rfl ?_
                  refine r_ifne X 160 dX4_layNear_152 (by decide) (fun c76 => ?_) (fun c76 => ?_)
                  · replace h := it_f c76 h
                    refine r_iconst X 1 dX4_layNear_160 rfl ?_
                    refine r_goto X 165 dX4_layNear_161 (by decide) ?_
                    obtain ⟨M77, h78, h⟩ := bd_ex h
                    refine r_callS X (st := []) (av := [.ref 27, .int (v1 + (1 : Int32)), .int v2, .long (v3 + r59), .int r62, .int (1 : Int32)]) (ihd _ _ _ _ _ _ _ h78 d (by omega)) (fitR_s (Nat.le_of_ble_eq_true rfl)) ⟨Nat.le_refl 0, Nat.le_refl 0⟩ w_549 w_44 w_548 w_547 hy_X4_layNear rfl (Nat.le_of_ble_eq_true rfl) dX4_layNear_165 ?_
                    refine r_aload_n X 4 dX4_layNear_168 rfl rfl ?_
                    refine r_getr X 2 28 in_X4 (ci := 3) rfl rfl (ltn hnc rfl) (Nat.le_of_ble_eq_true rfl) rfl w_194 dX4_layNear_169 (by decide) ?_
                    refine r_iload X 3 dX4_layNear_172 rfl ?_
                    refine r_aload_n X 4 dX4_layNear_174 rfl rfl ?_
                    refine r_getr X 2 28 in_X4 (ci := 3) rfl rfl (ltn hnc rfl) (Nat.le_of_ble_eq_true rfl) rfl w_194 dX4_layNear_175 (by decide) ?_
                    refine r_iload X 3 dX4_layNear_178 rfl ?_
                    obtain ⟨r80, M79, h81, h⟩ := bd2_ex h
                    refine r_callSN X (st := [.int r6, .ref 28]) (av := [.ref 28, .int r6]) (k_X6_at l N _ _ _ _ _ (Or.inl (ltn hnc rfl)) _ _ h81 d (by omega)) (fitR_s (Nat.le_of_ble_eq_true rfl)) ⟨Nat.le_refl 0, Nat.le_refl 0⟩ w_71 w_39 w_70 w_551 hy_X6_at rfl (Nat.le_of_ble_eq_true rfl) dX4_layNear_180 ?_
                    refine r_iconst X 1 dX4_layNear_183 rfl ?_
                    refine r_iadd X dX4_layNear_184 ?_
                    obtain ⟨M82, h83, h⟩ := bd_ex h
                    refine r_callSN X (st := []) (av := [.ref 28, .int r6, .int (r80 + (1 : Int32))]) (k_X6_put l N _ _ _ _ _ _ (Or.inl (ltn hnc rfl)) _ h83 d (by omega)) (fitR_s (Nat.le_of_ble_eq_true rfl)) ⟨Nat.le_refl 0, Nat.le_refl 0⟩ w_287 w_39 w_286 w_555 hy_X6_put rfl (Nat.le_of_ble_eq_true rfl) dX4_layNear_185 ?_
                    refine r_goto X 209 dX4_layNear_188 (by decide) ?_
                    refine r_iinc X [(8, .int (v8 + 1)), (13, .int r62), (11, .long (v3 + r59)), (10, .int r9), (9, .int r6), (0, .ref 27), (1, .int v1), (2, .int v2), (3, .long v3), (5, .int v5), (6, .int v6)] 10 (v8 + 1) dX4_layNear_209 rfl rfl (Nat.le_of_ble_eq_true rfl) rfl ?_
                    refine r_goto X 31 dX4_layNear_212 (by decide) ?_
                    refine r_sub (ls' := [(0, .ref 27), (1, .int v1), (2, .int v2), (3, .long v3), (5, .int v5), (6, .int v6), (8, .int (v8 + 1))]) [5, 6, 7, 8, 9, 10, 0] rfl ?_
                    exact ih M82 v1 v2 v3 v5 v6 (v8 + 1) h
                  · replace h := it_t c76 h
                    refine r_iload X 2 dX4_layNear_155 rfl ?_
                    refine r_ifeq X 164 dX4_layNear_157 (by decide) (fun c84 => ?_) (fun c84 => ?_)
                    · replace h := it_t c84 h
                      refine r_iconst X 0 dX4_layNear_164 rfl ?_
                      obtain ⟨M85, h86, h⟩ := bd_ex h
                      refine r_callS X (st := []) (av := [.ref 27, .int (v1 + (1 : Int32)), .int v2, .long (v3 + r59), .int r62, .int (0 : Int32)]) (ihd _ _ _ _ _ _ _ h86 d (by omega)) (fitR_s (Nat.le_of_ble_eq_true rfl)) ⟨Nat.le_refl 0, Nat.le_refl 0⟩ w_549 w_44 w_548 w_547 hy_X4_layNear rfl (Nat.le_of_ble_eq_true rfl) dX4_layNear_165 ?_
                      refine r_aload_n X 4 dX4_layNear_168 rfl rfl ?_
                      refine r_getr X 2 28 in_X4 (ci := 3) rfl rfl (ltn hnc rfl) (Nat.le_of_ble_eq_true rfl) rfl w_194 dX4_layNear_169 (by decide) ?_
                      refine r_iload X 3 dX4_layNear_172 rfl ?_
                      refine r_aload_n X 4 dX4_layNear_174 rfl rfl ?_
                      refine r_getr X 2 28 in_X4 (ci := 3) rfl rfl (ltn hnc rfl) (Nat.le_of_ble_eq_true rfl) rfl w_194 dX4_layNear_175 (by decide) ?_
                      refine r_iload X 3 dX4_layNear_178 rfl ?_
                      obtain ⟨r88, M87, h89, h⟩ := bd2_ex h
                      refine r_callSN X (st := [.int r6, .ref 28]) (av := [.ref 28, .int r6]) (k_X6_at l N _ _ _ _ _ (Or.inl (ltn hnc rfl)) _ _ h89 d (by omega)) (fitR_s (Nat.le_of_ble_eq_true rfl)) ⟨Nat.le_refl 0, Nat.le_refl 0⟩ w_71 w_39 w_70 w_551 hy_X6_at rfl (Nat.le_of_ble_eq_true rfl) dX4_layNear_180 ?_
                      refine r_iconst X 1 dX4_layNear_183 rfl ?_
                      refine r_iadd X dX4_layNear_184 ?_
                      obtain ⟨M90, h91, h⟩ := bd_ex h
                      refine r_callSN X (st := []) (av := [.ref 28, .int r6, .int (r88 + (1 : Int32))]) (k_X6_put l N _ _ _ _ _ _ (Or.inl (ltn hnc rfl)) _ h91 d (by omega)) (fitR_s (Nat.le_of_ble_eq_true rfl)) ⟨Nat.le_refl 0, Nat.le_refl 0⟩ w_287 w_39 w_286 w_555 hy_X6_put rfl (Nat.le_of_ble_eq_true rfl) dX4_layNear_185 ?_
                      refine r_goto X 209 dX4_layNear_188 (by decide) ?_
                      refine r_iinc X [(8, .int (v8 + 1)), (13, .int r62), (11, .long (v3 + r59)), (10, .int r9), (9, .int r6), (0, .ref 27), (1, .int v1), (2, .int v2), (3, .long v3), (5, .int v5), (6, .int v6)] 10 (v8 + 1) dX4_layNear_209 rfl rfl (Nat.le_of_ble_eq_true rfl) rfl ?_
                      refine r_goto X 31 dX4_layNear_212 (by decide) ?_
                      refine r_sub (ls' := [(0, .ref 27), (1, .int v1), (2, .int v2), (3, .long v3), (5, .int v5), (6, .int v6), (8, .int (v8 + 1))]) [5, 6, 7, 8, 9, 10, 0] rfl ?_
                      exact ih M90 v1 v2 v3 v5 v6 (v8 + 1) h
                    · replace h := it_f c84 h
                      refine r_iconst X 1 dX4_layNear_160 rfl ?_
                      refine r_goto X 165 dX4_layNear_161 (by decide) ?_
                      obtain ⟨M92, h93, h⟩ := bd_ex h
                      refine r_callS X (st := []) (av := [.ref 27, .int (v1 + (1 : Int32)), .int v2, .long (v3 + r59), .int r62, .int (1 : Int32)]) (ihd _ _ _ _ _ _ _ h93 d (by omega)) (fitR_s (Nat.le_of_ble_eq_true rfl)) ⟨Nat.le_refl 0, Nat.le_refl 0⟩ w_549 w_44 w_548 w_547 hy_X4_layNear rfl (Nat.le_of_ble_eq_true rfl) dX4_layNear_165 ?_
                      refine r_aload_n X 4 dX4_layNear_168 rfl rfl ?_
                      refine r_getr X 2 28 in_X4 (ci := 3) rfl rfl (ltn hnc rfl) (Nat.le_of_ble_eq_true rfl) rfl w_194 dX4_layNear_169 (by decide) ?_
                      refine r_iload X 3 dX4_layNear_172 rfl ?_
                      refine r_aload_n X 4 dX4_layNear_174 rfl rfl ?_
                      refine r_getr X 2 28 in_X4 (ci := 3) rfl rfl (ltn hnc rfl) (Nat.le_of_ble_eq_true rfl) rfl w_194 dX4_layNear_175 (by decide) ?_
                      refine r_iload X 3 dX4_layNear_178 rfl ?_
                      obtain ⟨r95, M94, h96, h⟩ := bd2_ex h
                      refine r_callSN X (st := [.int r6, .ref 28]) (av := [.ref 28, .int r6]) (k_X6_at l N _ _ _ _ _ (Or.inl (ltn hnc rfl)) _ _ h96 d (by omega)) (fitR_s (Nat.le_of_ble_eq_true rfl)) ⟨Nat.le_refl 0, Nat.le_refl 0⟩ w_71 w_39 w_70 w_551 hy_X6_at rfl (Nat.le_of_ble_eq_true rfl) dX4_layNear_180 ?_
                      refine r_iconst X 1 dX4_layNear_183 rfl ?_
                      refine r_iadd X dX4_layNear_184 ?_
                      obtain ⟨M97, h98, h⟩ := bd_ex h
                      refine r_callSN X (st := []) (av := [.ref 28, .int r6, .int (r95 + (1 : Int32))]) (k_X6_put l N _ _ _ _ _ _ (Or.inl (ltn hnc rfl)) _ h98 d (by omega)) (fitR_s (Nat.le_of_ble_eq_true rfl)) ⟨Nat.le_refl 0, Nat.le_refl 0⟩ w_287 w_39 w_286 w_555 hy_X6_put rfl (Nat.le_of_ble_eq_true rfl) dX4_layNear_185 ?_
                      refine r_goto X 209 dX4_layNear_188 (by decide) ?_
                      refine r_iinc X [(8, .int (v8 + 1)), (13, .int r62), (11, .long (v3 + r59)), (10, .int r9), (9, .int r6), (0, .ref 27), (1, .int v1), (2, .int v2), (3, .long v3), (5, .int v5), (6, .int v6)] 10 (v8 + 1) dX4_layNear_209 rfl rfl (Nat.le_of_ble_eq_true rfl) rfl ?_
                      refine r_goto X 31 dX4_layNear_212 (by decide) ?_
                      refine r_sub (ls' := [(0, .ref 27), (1, .int v1), (2, .int v2), (3, .long v3), (5, .int v5), (6, .int v6), (8, .int (v8 + 1))]) [5, 6, 7, 8, 9, 10, 0] rfl ?_
                      exact ih M97 v1 v2 v3 v5 v6 (v8 + 1) h
    refine r_sub (ls' := [(0, .ref 27), (1, .int p0), (2, .int p1), (3, .long p2), (5, .int p3), (6, .int p4)]) [0, 1, 2, 3, 4, 5] rfl ?_
    refine r_iload X 4 dX4_layNear_0 rfl ?_
    refine r_bipush X 8 dX4_layNear_2 rfl ?_
    refine r_iload X 4 dX4_layNear_4 rfl ?_
    refine r_isub X dX4_layNear_6 ?_
    refine r_min X (Nat.succ_le_succ (Nat.zero_le _)) (room21 _) ⟨Nat.le_refl 0, Nat.le_refl 0⟩ w_544 w_545 w_48 w_546 (Nat.le_of_ble_eq_true rfl) dX4_layNear_7 ?_
    obtain ⟨x1, ex1, h⟩ := nm_ex h
    refine r_top ex1 ?_
    refine r_istore X [(7, .int x1), (0, .ref 27), (1, .int p0), (2, .int p1), (3, .long p2), (5, .int p3), (6, .int p4)] dX4_layNear_10 (Nat.le_of_ble_eq_true rfl) rfl ?_
    refine r_iload_n X 2 dX4_layNear_12 rfl rfl ?_
    refine r_iload_n X 3 dX4_layNear_13 rfl rfl ?_
    refine r_icge X 27 dX4_layNear_14 (by decide) (fun c2 => ?_) (fun c2 => ?_)
    · replace h := it_t c2 h
      exact r_vretE X hr dX4_layNear_27 h
    · replace h := it_f c2 h
      refine r_iload X 0 dX4_layNear_17 rfl ?_
      refine r_iconst X 2 dX4_layNear_19 rfl ?_
      refine r_iload_n X 3 dX4_layNear_20 rfl rfl ?_
      refine r_iload_n X 2 dX4_layNear_21 rfl rfl ?_
      refine r_isub X dX4_layNear_22 ?_
      refine r_imul X dX4_layNear_23 ?_
      refine r_icle X 28 dX4_layNear_24 (by decide) (fun c3 => ?_) (fun c3 => ?_)
      · replace h := it_t c3 h
        refine r_iconst X 0 dX4_layNear_28 rfl ?_
        refine r_istore X [(8, .int (0 : Int32)), (7, .int x1), (0, .ref 27), (1, .int p0), (2, .int p1), (3, .long p2), (5, .int p3), (6, .int p4)] dX4_layNear_29 (Nat.le_of_ble_eq_true rfl) rfl ?_
        refine r_sub (ls' := [(0, .ref 27), (1, .int p0), (2, .int p1), (3, .long p2), (5, .int p3), (6, .int p4), (8, .int (0 : Int32))]) [2, 3, 4, 5, 6, 7, 0] rfl ?_
        exact hl31  N M p0 p1 p2 p3 p4 (0 : Int32) h
      · replace h := it_f c3 h
        exact r_vretE X hr dX4_layNear_27 h
def f_X4_findsNearest (N : Nat) (M : Mem) (p0 : Int32) : Option (Int32 × Mem) :=
  bd (f_X6_copyAll shp N M 2 28) fun M1 =>
  nm (seI M1 27 5 (0 : Int32)) fun M3 =>
  bd (f_X4_layNear N 12 M3 (0 : Int32) (imin p0 (5 : Int32)) (0 : Int64) (0 : Int32) (0 : Int32)) fun M4 =>
  ck (zb (M4.1 27 5)) <|
  some (M4.1 27 5, M4)
set_option maxRecDepth 100000 in
set_option maxHeartbeats 4000000 in
theorem k_X4_findsNearest (l : Launch) (N : Nat) (nc : Nat) (hnc : 34 ≤ nc) (M : Mem) (p0 : Int32) (r : Int32) (M' : Mem) (h : f_X4_findsNearest N M p0 = some (r, M')) (d : Nat) (hd : 16 ≤ d) : Ct l d yX4_findsNearest cX4_findsNearest 2 (some .boolean) shp nc [.ref 27, .int p0] M (some (.int r)) M' := by
  obtain ⟨d, rfl⟩ : ∃ q, d = q + 1 := ⟨d - 1, by omega⟩
  unfold f_X4_findsNearest at h
  refine Ct.of (by decide +kernel) (Nat.le_of_ble_eq_true rfl) ?_
  intro p e s m args below meth c A ad D cI cJ X hr
  refine r_sub (ls' := [(0, .ref 27), (1, .int p0)]) [0, 1] rfl ?_
  refine r_aload_n X 0 dX4_findsNearest_0 rfl rfl ?_
  refine r_getr X 0 1 in_X4 (ci := 3) rfl rfl (ltn hnc rfl) (Nat.le_of_ble_eq_true rfl) rfl w_192 dX4_findsNearest_1 (by decide) ?_
  refine r_getr X 0 2 in_X0 (ci := 0) rfl rfl (ltn hnc rfl) (Nat.le_of_ble_eq_true rfl) rfl w_75 dX4_findsNearest_4 (by decide) ?_
  refine r_aload_n X 0 dX4_findsNearest_7 rfl rfl ?_
  refine r_getr X 2 28 in_X4 (ci := 3) rfl rfl (ltn hnc rfl) (Nat.le_of_ble_eq_true rfl) rfl w_194 dX4_findsNearest_8 (by decide) ?_
  obtain ⟨M1, h2, h⟩ := bd_ex h
  refine r_callSN X (st := []) (av := [.ref 2, .ref 28]) (k_X6_copyAll l N _ _ _ _ _ (Or.inl (ltn hnc rfl)) (Or.inl (ltn hnc rfl)) _ h2 d (by omega)) (fitR_s (Nat.le_of_ble_eq_true rfl)) ⟨Nat.le_refl 0, Nat.le_refl 0⟩ w_68 w_39 w_67 w_543 hy_X6_copyAll rfl (Nat.le_of_ble_eq_true rfl) dX4_findsNearest_11 ?_
  refine r_aload_n X 0 dX4_findsNearest_14 rfl rfl ?_
  refine r_iconst X 0 dX4_findsNearest_15 rfl ?_
  obtain ⟨M3, eM3, h⟩ := nm_ex h
  refine r_puti X 5 in_X4 (ci := 3) rfl tyX4_ok nmX4 rfl (ltn hnc rfl) (Nat.le_of_ble_eq_true rfl) rfl w_198 rfl (ty := .boolean) rfl rfl rfl dX4_findsNearest_16 ?_
  refine r_mem eM3 ?_
  refine r_aload_n X 0 dX4_findsNearest_19 rfl rfl ?_
  refine r_iconst X 0 dX4_findsNearest_20 rfl ?_
  refine r_iload_n X 1 dX4_findsNearest_21 rfl rfl ?_
  refine r_iconst X 5 dX4_findsNearest_22 rfl ?_
  refine r_min X (Nat.succ_le_succ (Nat.zero_le _)) (room21 _) ⟨Nat.le_refl 0, Nat.le_refl 0⟩ w_544 w_545 w_48 w_546 (Nat.le_of_ble_eq_true rfl) dX4_findsNearest_23 ?_
  refine r_lconst X 0 dX4_findsNearest_26 rfl ?_
  refine r_iconst X 0 dX4_findsNearest_27 rfl ?_
  refine r_iconst X 0 dX4_findsNearest_28 rfl ?_
  obtain ⟨M4, h5, h⟩ := bd_ex h
  refine r_callS X (st := []) (av := [.ref 27, .int (0 : Int32), .int (imin p0 (5 : Int32)), .long (0 : Int64), .int (0 : Int32), .int (0 : Int32)]) (k_X4_layNear l N _ hnc 12 _ _ _ _ _ _ _ h5 d (by omega)) (fitR_s (Nat.le_of_ble_eq_true rfl)) ⟨Nat.le_refl 0, Nat.le_refl 0⟩ w_549 w_44 w_548 w_547 hy_X4_layNear rfl (Nat.le_of_ble_eq_true rfl) dX4_findsNearest_29 ?_
  refine r_aload_n X 0 dX4_findsNearest_32 rfl rfl ?_
  refine r_geti X 5 in_X4 (ci := 3) rfl rfl (ltn hnc rfl) (Nat.le_of_ble_eq_true rfl) rfl w_198 dX4_findsNearest_33 ?_
  obtain ⟨c6, h⟩ := ck_ex h
  exact r_zretE X hr (zb_n c6) dX4_findsNearest_36 h
def f_X6_nearest (N : Nat) (M : Mem) (p0 : Int32) : Option (Int32 × Mem) :=
  if (1 : Int32) ≤ p0 then
    (if p0 ≤ (5 : Int32) then
      (bd2 (f_X4_findsNearest N M p0) fun r4 M3 =>
      if r4 = 0 then
        (some ((-9 : Int32), M3))
      else
        (bd (f_X0_becomes N M3 30 p0) fun M7 =>
        some ((1 : Int32), M7)))
    else
      (bd2 (f_X6_refuse N M (-6 : Int32)) fun r10 M9 =>
      some (r10, M9)))
  else
    (bd2 (f_X6_refuse N M (-4 : Int32)) fun r13 M12 =>
    some (r13, M12))
set_option maxRecDepth 100000 in
set_option maxHeartbeats 4000000 in
theorem k_X6_nearest (l : Launch) (N : Nat) (nc : Nat) (hnc : 34 ≤ nc) (M : Mem) (p0 : Int32) (r : Int32) (M' : Mem) (h : f_X6_nearest N M p0 = some (r, M')) (d : Nat) (hd : 17 ≤ d) : Ct l d yX6_nearest cX6_nearest 2 (some .int) shp nc [.ref 0, .int p0] M (some (.int r)) M' := by
  obtain ⟨d, rfl⟩ : ∃ q, d = q + 1 := ⟨d - 1, by omega⟩
  unfold f_X6_nearest at h
  refine Ct.of (by decide +kernel) (Nat.le_of_ble_eq_true rfl) ?_
  intro p e s m args below meth c A ad D cI cJ X hr
  refine r_sub (ls' := [(0, .ref 0), (1, .int p0)]) [0, 1] rfl ?_
  refine r_iload_n X 1 dX6_nearest_0 rfl rfl ?_
  refine r_iconst X 1 dX6_nearest_1 rfl ?_
  refine r_icge X 12 dX6_nearest_2 (by decide) (fun c1 => ?_) (fun c1 => ?_)
  · replace h := it_t c1 h
    refine r_iload_n X 1 dX6_nearest_12 rfl rfl ?_
    refine r_iconst X 5 dX6_nearest_13 rfl ?_
    refine r_icle X 24 dX6_nearest_14 (by decide) (fun c2 => ?_) (fun c2 => ?_)
    · replace h := it_t c2 h
      refine r_aload_n X 0 dX6_nearest_24 rfl rfl ?_
      refine r_getr X 6 27 in_X6 (ci := 5) rfl rfl (ltn hnc rfl) (Nat.le_of_ble_eq_true rfl) rfl w_246 dX6_nearest_25 (by decide) ?_
      refine r_iload_n X 1 dX6_nearest_28 rfl rfl ?_
      obtain ⟨r4, M3, h5, h⟩ := bd2_ex h
      refine r_callV X (st := []) (av := [.int p0]) (k := 27) (ci := 3) (k_X4_findsNearest l N _ hnc _ _ _ _ h5 d (by omega)) (fitR_s (Nat.le_of_ble_eq_true rfl)) ⟨Nat.le_refl 0, Nat.le_refl 0⟩ rfl (ltn hnc rfl) rfl w_542 w_44 w_540 w_541 w_539 hy_X4_findsNearest rfl (Nat.le_of_ble_eq_true rfl) dX6_nearest_29 ?_
      refine r_ifne X 38 dX6_nearest_32 (by decide) (fun c6 => ?_) (fun c6 => ?_)
      · replace h := it_f c6 h
        refine r_aload_n X 0 dX6_nearest_38 rfl rfl ?_
        refine r_getr X 0 1 in_X6 (ci := 5) rfl rfl (ltn hnc rfl) (Nat.le_of_ble_eq_true rfl) rfl w_240 dX6_nearest_39 (by decide) ?_
        refine r_aload_n X 0 dX6_nearest_42 rfl rfl ?_
        refine r_getr X 6 27 in_X6 (ci := 5) rfl rfl (ltn hnc rfl) (Nat.le_of_ble_eq_true rfl) rfl w_246 dX6_nearest_43 (by decide) ?_
        refine r_getr X 4 30 in_X4 (ci := 3) rfl rfl (ltn hnc rfl) (Nat.le_of_ble_eq_true rfl) rfl w_197 dX6_nearest_46 (by decide) ?_
        refine r_iload_n X 1 dX6_nearest_49 rfl rfl ?_
        obtain ⟨M7, h8, h⟩ := bd_ex h
        refine r_callV X (st := []) (av := [.ref 30, .int p0]) (k := 1) (ci := 0) (k_X0_becomes l N _ hnc _ _ _ (Or.inl (ltn hnc rfl)) _ h8 d (by omega)) (fitR_s (Nat.le_of_ble_eq_true rfl)) ⟨Nat.le_refl 0, Nat.le_refl 0⟩ rfl (ltn hnc rfl) rfl w_300 w_40 w_298 w_299 w_297 hy_X0_becomes rfl (Nat.le_of_ble_eq_true rfl) dX6_nearest_50 ?_
        refine r_iconst X 1 dX6_nearest_53 rfl ?_
        exact r_iretE X hr dX6_nearest_54 h
      · replace h := it_t c6 h
        refine r_bipush X (-9) dX6_nearest_35 rfl ?_
        exact r_iretE X hr dX6_nearest_37 h
    · replace h := it_f c2 h
      refine r_aload_n X 0 dX6_nearest_17 rfl rfl ?_
      refine r_bipush X (-6) dX6_nearest_18 rfl ?_
      obtain ⟨r10, M9, h11, h⟩ := bd2_ex h
      refine r_callV X (st := []) (av := [.int (-6 : Int32)]) (k := 0) (ci := 5) (k_X6_refuse l N _ hnc _ _ _ _ h11 d (by omega)) (fitR_s (Nat.le_of_ble_eq_true rfl)) ⟨Nat.le_refl 0, Nat.le_refl 0⟩ rfl (ltn hnc rfl) rfl w_284 w_39 w_283 w_1 w_281 hy_X6_refuse rfl (Nat.le_of_ble_eq_true rfl) dX6_nearest_20 ?_
      exact r_iretE X hr dX6_nearest_23 h
  · replace h := it_f c1 h
    refine r_aload_n X 0 dX6_nearest_5 rfl rfl ?_
    refine r_bipush X (-4) dX6_nearest_6 rfl ?_
    obtain ⟨r13, M12, h14, h⟩ := bd2_ex h
    refine r_callV X (st := []) (av := [.int (-4 : Int32)]) (k := 0) (ci := 5) (k_X6_refuse l N _ hnc _ _ _ _ h14 d (by omega)) (fitR_s (Nat.le_of_ble_eq_true rfl)) ⟨Nat.le_refl 0, Nat.le_refl 0⟩ rfl (ltn hnc rfl) rfl w_284 w_39 w_283 w_1 w_281 hy_X6_refuse rfl (Nat.le_of_ble_eq_true rfl) dX6_nearest_8 ?_
    exact r_iretE X hr dX6_nearest_11 h
def f_X7_nearest (N : Nat) (M : Mem) (p0 : Int32) : Option (Int32 × Mem) :=
  bd2 (f_X7_within N M p0 (1 : Int32) (5 : Int32)) fun r2 M1 =>
  if r2 = 0 then
    (bd (f_X7_begins N M1 p0) fun M5 =>
    nm (seI M5 34 17 (0 : Int32)) fun M7 =>
    bd (f_X7_goesOn N 12 M7 (0 : Int32) (1 : Int32)) fun M8 =>
    if (M8.1 34 17) = 0 then
      (some ((-9 : Int32), M8))
    else
      (bd (f_X7_becomes N M8 44 p0) fun M11 =>
      some ((1 : Int32), M11)))
  else
    (bd2 (f_X7_refuse N M1 r2) fun r14 M13 =>
    some (r14, M13))
set_option maxRecDepth 100000 in
set_option maxHeartbeats 4000000 in
theorem k_X7_nearest (l : Launch) (N : Nat) (nc : Nat) (hnc : 45 ≤ nc) (M : Mem) (p0 : Int32) (r : Int32) (M' : Mem) (h : f_X7_nearest N M p0 = some (r, M')) (d : Nat) (hd : 18 ≤ d) : Ct l d yX7_nearest cX7_nearest 3 (some .int) shp nc [.ref 34, .int p0] M (some (.int r)) M' := by
  obtain ⟨d, rfl⟩ : ∃ q, d = q + 1 := ⟨d - 1, by omega⟩
  unfold f_X7_nearest at h
  refine Ct.of (by decide +kernel) (Nat.le_of_ble_eq_true rfl) ?_
  intro p e s m args below meth c A ad D cI cJ X hr
  refine r_sub (ls' := [(0, .ref 34), (1, .int p0)]) [0, 1] rfl ?_
  refine r_iload_n X 1 dX7_nearest_0 rfl rfl ?_
  refine r_iconst X 1 dX7_nearest_1 rfl ?_
  refine r_iconst X 5 dX7_nearest_2 rfl ?_
  obtain ⟨r2, M1, h3, h⟩ := bd2_ex h
  refine r_callS X (st := []) (av := [.int p0, .int (1 : Int32), .int (5 : Int32)]) (k_X7_within l N _ hnc _ _ _ _ _ _ h3 d (by omega)) (fitR_s (Nat.le_of_ble_eq_true rfl)) ⟨Nat.le_refl 0, Nat.le_refl 0⟩ w_707 w_47 w_706 w_705 hy_X7_within rfl (Nat.le_of_ble_eq_true rfl) dX7_nearest_3 ?_
  refine r_istore_n X [(2, .int r2), (0, .ref 34), (1, .int p0)] dX7_nearest_6 rfl (Nat.le_of_ble_eq_true rfl) rfl ?_
  refine r_iload_n X 0 dX7_nearest_7 rfl rfl ?_
  refine r_ifeq X 17 dX7_nearest_8 (by decide) (fun c4 => ?_) (fun c4 => ?_)
  · replace h := it_t c4 h
    refine r_aload_n X 1 dX7_nearest_17 rfl rfl ?_
    refine r_iload_n X 2 dX7_nearest_18 rfl rfl ?_
    obtain ⟨M5, h6, h⟩ := bd_ex h
    refine r_callV X (st := []) (av := [.int p0]) (k := 34) (ci := 6) (k_X7_begins l N _ hnc _ _ _ h6 d (by omega)) (fitR_s (Nat.le_of_ble_eq_true rfl)) ⟨Nat.le_refl 0, Nat.le_refl 0⟩ rfl (ltn hnc rfl) rfl w_835 w_47 w_834 w_32 w_832 hy_X7_begins rfl (Nat.le_of_ble_eq_true rfl) dX7_nearest_19 ?_
    refine r_aload_n X 1 dX7_nearest_22 rfl rfl ?_
    refine r_iconst X 0 dX7_nearest_23 rfl ?_
    obtain ⟨M7, eM7, h⟩ := nm_ex h
    refine r_puti X 17 in_X7 (ci := 6) rfl tyX7_ok nmX7 rfl (ltn hnc rfl) (Nat.le_of_ble_eq_true rfl) rfl w_626 rfl (ty := .int) rfl rfl rfl dX7_nearest_24 ?_
    refine r_mem eM7 ?_
    refine r_aload_n X 1 dX7_nearest_27 rfl rfl ?_
    refine r_iconst X 0 dX7_nearest_28 rfl ?_
    refine r_iconst X 1 dX7_nearest_29 rfl ?_
    obtain ⟨M8, h9, h⟩ := bd_ex h
    refine r_callV X (st := []) (av := [.int (0 : Int32), .int (1 : Int32)]) (k := 34) (ci := 6) (k_X7_goesOn l N _ hnc 12 _ _ _ _ h9 d (by omega)) (fitR_s (Nat.le_of_ble_eq_true rfl)) ⟨Nat.le_refl 0, Nat.le_refl 0⟩ rfl (ltn hnc rfl) rfl w_839 w_47 w_838 w_33 w_836 hy_X7_goesOn rfl (Nat.le_of_ble_eq_true rfl) dX7_nearest_30 ?_
    refine r_aload_n X 1 dX7_nearest_33 rfl rfl ?_
    refine r_geti X 17 in_X7 (ci := 6) rfl rfl (ltn hnc rfl) (Nat.le_of_ble_eq_true rfl) rfl w_626 dX7_nearest_34 ?_
    refine r_ifne X 43 dX7_nearest_37 (by decide) (fun c10 => ?_) (fun c10 => ?_)
    · replace h := it_f c10 h
      refine r_aload_n X 1 dX7_nearest_43 rfl rfl ?_
      refine r_aload_n X 1 dX7_nearest_44 rfl rfl ?_
      refine r_getr X 14 44 in_X7 (ci := 6) rfl rfl (ltn hnc rfl) (Nat.le_of_ble_eq_true rfl) rfl w_623 dX7_nearest_45 (by decide) ?_
      refine r_iload_n X 2 dX7_nearest_48 rfl rfl ?_
      obtain ⟨M11, h12, h⟩ := bd_ex h
      refine r_callV X (st := []) (av := [.ref 44, .int p0]) (k := 34) (ci := 6) (k_X7_becomes l N _ hnc _ _ _ (Or.inl (ltn hnc rfl)) _ h12 d (by omega)) (fitR_s (Nat.le_of_ble_eq_true rfl)) ⟨Nat.le_refl 0, Nat.le_refl 0⟩ rfl (ltn hnc rfl) rfl w_862 w_47 w_861 w_37 w_859 hy_X7_becomes rfl (Nat.le_of_ble_eq_true rfl) dX7_nearest_49 ?_
      refine r_iconst X 1 dX7_nearest_52 rfl ?_
      exact r_iretE X hr dX7_nearest_53 h
    · replace h := it_t c10 h
      refine r_bipush X (-9) dX7_nearest_40 rfl ?_
      exact r_iretE X hr dX7_nearest_42 h
  · replace h := it_f c4 h
    refine r_aload_n X 1 dX7_nearest_11 rfl rfl ?_
    refine r_iload_n X 0 dX7_nearest_12 rfl rfl ?_
    obtain ⟨r14, M13, h15, h⟩ := bd2_ex h
    refine r_callV X (st := []) (av := [.int r2]) (k := 34) (ci := 6) (k_X7_refuse l N _ hnc _ _ _ _ h15 d (by omega)) (fitR_s (Nat.le_of_ble_eq_true rfl)) ⟨Nat.le_refl 0, Nat.le_refl 0⟩ rfl (ltn hnc rfl) rfl w_689 w_47 w_688 w_18 w_686 hy_X7_refuse rfl (Nat.le_of_ble_eq_true rfl) dX7_nearest_13 ?_
    exact r_iretE X hr dX7_nearest_16 h
def f_X6_turn (N : Nat) (M : Mem) (p0 : Int32) : Option (Int32 × Mem) :=
  if (-2 : Int32) ≤ p0 then
    (if (2 : Int32) < p0 then
      (bd2 (f_X6_refuse N M (-6 : Int32)) fun r4 M3 =>
      some (r4, M3))
    else
      (if (M.1 0 10) < (6 : Int32) then
        (bd (f_X6_put shp N M 32 (M.1 0 10) p0) fun M7 =>
        nm (seI M7 0 10 ((M7.1 0 10) + (1 : Int32))) fun M9 =>
        some (M9.1 0 10, M9))
      else
        (bd2 (f_X6_refuse N M (-6 : Int32)) fun r11 M10 =>
        some (r11, M10))))
  else
    (bd2 (f_X6_refuse N M (-4 : Int32)) fun r14 M13 =>
    some (r14, M13))
set_option maxRecDepth 100000 in
set_option maxHeartbeats 4000000 in
theorem k_X6_turn (l : Launch) (N : Nat) (nc : Nat) (hnc : 34 ≤ nc) (M : Mem) (p0 : Int32) (r : Int32) (M' : Mem) (h : f_X6_turn N M p0 = some (r, M')) (d : Nat) (hd : 2 ≤ d) : Ct l d yX6_turn cX6_turn 2 (some .int) shp nc [.ref 0, .int p0] M (some (.int r)) M' := by
  obtain ⟨d, rfl⟩ : ∃ q, d = q + 1 := ⟨d - 1, by omega⟩
  unfold f_X6_turn at h
  refine Ct.of (by decide +kernel) (Nat.le_of_ble_eq_true rfl) ?_
  intro p e s m args below meth c A ad D cI cJ X hr
  refine r_sub (ls' := [(0, .ref 0), (1, .int p0)]) [0, 1] rfl ?_
  refine r_iload_n X 1 dX6_turn_0 rfl rfl ?_
  refine r_bipush X (-2) dX6_turn_1 rfl ?_
  refine r_icge X 13 dX6_turn_3 (by decide) (fun c1 => ?_) (fun c1 => ?_)
  · replace h := it_t c1 h
    refine r_iload_n X 1 dX6_turn_13 rfl rfl ?_
    refine r_iconst X 2 dX6_turn_14 rfl ?_
    refine r_icgt X 27 dX6_turn_15 (by decide) (fun c2 => ?_) (fun c2 => ?_)
    · replace h := it_t c2 h
      refine r_aload_n X 0 dX6_turn_27 rfl rfl ?_
      refine r_bipush X (-6) dX6_turn_28 rfl ?_
      obtain ⟨r4, M3, h5, h⟩ := bd2_ex h
      refine r_callV X (st := []) (av := [.int (-6 : Int32)]) (k := 0) (ci := 5) (k_X6_refuse l N _ hnc _ _ _ _ h5 d (by omega)) (fitR_s (Nat.le_of_ble_eq_true rfl)) ⟨Nat.le_refl 0, Nat.le_refl 0⟩ rfl (ltn hnc rfl) rfl w_284 w_39 w_283 w_1 w_281 hy_X6_refuse rfl (Nat.le_of_ble_eq_true rfl) dX6_turn_30 ?_
      exact r_iretE X hr dX6_turn_33 h
    · replace h := it_f c2 h
      refine r_aload_n X 0 dX6_turn_18 rfl rfl ?_
      refine r_geti X 10 in_X6 (ci := 5) rfl rfl (ltn hnc rfl) (Nat.le_of_ble_eq_true rfl) rfl w_250 dX6_turn_19 ?_
      refine r_bipush X 6 dX6_turn_22 rfl ?_
      refine r_iclt X 34 dX6_turn_24 (by decide) (fun c6 => ?_) (fun c6 => ?_)
      · replace h := it_t c6 h
        refine r_aload_n X 0 dX6_turn_34 rfl rfl ?_
        refine r_getr X 9 32 in_X6 (ci := 5) rfl rfl (ltn hnc rfl) (Nat.le_of_ble_eq_true rfl) rfl w_249 dX6_turn_35 (by decide) ?_
        refine r_aload_n X 0 dX6_turn_38 rfl rfl ?_
        refine r_geti X 10 in_X6 (ci := 5) rfl rfl (ltn hnc rfl) (Nat.le_of_ble_eq_true rfl) rfl w_250 dX6_turn_39 ?_
        refine r_iload_n X 1 dX6_turn_42 rfl rfl ?_
        obtain ⟨M7, h8, h⟩ := bd_ex h
        refine r_callS X (st := []) (av := [.ref 32, .int (M.1 0 10), .int p0]) (k_X6_put l N _ _ _ _ _ _ (Or.inl (ltn hnc rfl)) _ h8 d (by omega)) (fitR_s (Nat.le_of_ble_eq_true rfl)) ⟨Nat.le_refl 0, Nat.le_refl 0⟩ w_287 w_39 w_286 w_285 hy_X6_put rfl (Nat.le_of_ble_eq_true rfl) dX6_turn_43 ?_
        refine r_aload_n X 0 dX6_turn_46 rfl rfl ?_
        refine r_dup X dX6_turn_47 rfl ?_
        refine r_geti X 10 in_X6 (ci := 5) rfl rfl (ltn hnc rfl) (Nat.le_of_ble_eq_true rfl) rfl w_250 dX6_turn_48 ?_
        refine r_iconst X 1 dX6_turn_51 rfl ?_
        refine r_iadd X dX6_turn_52 ?_
        obtain ⟨M9, eM9, h⟩ := nm_ex h
        refine r_puti X 10 in_X6 (ci := 5) rfl tyX6_ok nmX6 rfl (ltn hnc rfl) (Nat.le_of_ble_eq_true rfl) rfl w_250 rfl (ty := .int) rfl rfl rfl dX6_turn_53 ?_
        refine r_mem eM9 ?_
        refine r_aload_n X 0 dX6_turn_56 rfl rfl ?_
        refine r_geti X 10 in_X6 (ci := 5) rfl rfl (ltn hnc rfl) (Nat.le_of_ble_eq_true rfl) rfl w_250 dX6_turn_57 ?_
        exact r_iretE X hr dX6_turn_60 h
      · replace h := it_f c6 h
        refine r_aload_n X 0 dX6_turn_27 rfl rfl ?_
        refine r_bipush X (-6) dX6_turn_28 rfl ?_
        obtain ⟨r11, M10, h12, h⟩ := bd2_ex h
        refine r_callV X (st := []) (av := [.int (-6 : Int32)]) (k := 0) (ci := 5) (k_X6_refuse l N _ hnc _ _ _ _ h12 d (by omega)) (fitR_s (Nat.le_of_ble_eq_true rfl)) ⟨Nat.le_refl 0, Nat.le_refl 0⟩ rfl (ltn hnc rfl) rfl w_284 w_39 w_283 w_1 w_281 hy_X6_refuse rfl (Nat.le_of_ble_eq_true rfl) dX6_turn_30 ?_
        exact r_iretE X hr dX6_turn_33 h
  · replace h := it_f c1 h
    refine r_aload_n X 0 dX6_turn_6 rfl rfl ?_
    refine r_bipush X (-4) dX6_turn_7 rfl ?_
    obtain ⟨r14, M13, h15, h⟩ := bd2_ex h
    refine r_callV X (st := []) (av := [.int (-4 : Int32)]) (k := 0) (ci := 5) (k_X6_refuse l N _ hnc _ _ _ _ h15 d (by omega)) (fitR_s (Nat.le_of_ble_eq_true rfl)) ⟨Nat.le_refl 0, Nat.le_refl 0⟩ rfl (ltn hnc rfl) rfl w_284 w_39 w_283 w_1 w_281 hy_X6_refuse rfl (Nat.le_of_ble_eq_true rfl) dX6_turn_9 ?_
    exact r_iretE X hr dX6_turn_12 h
def f_X7_turn (N : Nat) (M : Mem) (p0 : Int32) : Option (Int32 × Mem) :=
  bd2 (f_X7_within N M p0 (-2 : Int32) (2 : Int32)) fun r2 M1 =>
  if r2 = 0 then
    (if (M1.1 34 21) = (6 : Int32) then
      (bd2 (f_X7_refuse N M1 (-6 : Int32)) fun r22 M21 =>
      some (r22, M21))
    else
      (if r2 = 0 then
        (ck (inb (M1.1 34 21) 6) <|
        nm (seI M1 42 (ix (M1.1 34 21)) p0) fun M15 =>
        nm (seI M15 34 21 ((M15.1 34 21) + (1 : Int32))) fun M16 =>
        some (M16.1 34 21, M16))
      else
        (bd2 (f_X7_refuse N M1 r2) fun r18 M17 =>
        some (r18, M17))))
  else
    (if r2 = 0 then
      (ck (inb (M1.1 34 21) 6) <|
      nm (seI M1 42 (ix (M1.1 34 21)) p0) fun M7 =>
      nm (seI M7 34 21 ((M7.1 34 21) + (1 : Int32))) fun M8 =>
      some (M8.1 34 21, M8))
    else
      (bd2 (f_X7_refuse N M1 r2) fun r10 M9 =>
      some (r10, M9)))
set_option maxRecDepth 100000 in
set_option maxHeartbeats 4000000 in
theorem k_X7_turn (l : Launch) (N : Nat) (nc : Nat) (hnc : 45 ≤ nc) (M : Mem) (p0 : Int32) (r : Int32) (M' : Mem) (h : f_X7_turn N M p0 = some (r, M')) (d : Nat) (hd : 1 ≤ d) : Ct l d yX7_turn cX7_turn 3 (some .int) shp nc [.ref 34, .int p0] M (some (.int r)) M' := by
  obtain ⟨d, rfl⟩ : ∃ q, d = q + 1 := ⟨d - 1, by omega⟩
  unfold f_X7_turn at h
  refine Ct.of (by decide +kernel) (Nat.le_of_ble_eq_true rfl) ?_
  intro p e s m args below meth c A ad D cI cJ X hr
  refine r_sub (ls' := [(0, .ref 34), (1, .int p0)]) [0, 1] rfl ?_
  refine r_iload_n X 1 dX7_turn_0 rfl rfl ?_
  refine r_bipush X (-2) dX7_turn_1 rfl ?_
  refine r_iconst X 2 dX7_turn_3 rfl ?_
  obtain ⟨r2, M1, h3, h⟩ := bd2_ex h
  refine r_callS X (st := []) (av := [.int p0, .int (-2 : Int32), .int (2 : Int32)]) (k_X7_within l N _ hnc _ _ _ _ _ _ h3 d (by omega)) (fitR_s (Nat.le_of_ble_eq_true rfl)) ⟨Nat.le_refl 0, Nat.le_refl 0⟩ w_707 w_47 w_706 w_705 hy_X7_within rfl (Nat.le_of_ble_eq_true rfl) dX7_turn_4 ?_
  refine r_istore_n X [(2, .int r2), (0, .ref 34), (1, .int p0)] dX7_turn_7 rfl (Nat.le_of_ble_eq_true rfl) rfl ?_
  refine r_iload_n X 0 dX7_turn_8 rfl rfl ?_
  refine r_ifne X 24 dX7_turn_9 (by decide) (fun c4 => ?_) (fun c4 => ?_)
  · replace h := it_f c4 h
    refine r_iload_n X 0 dX7_turn_24 rfl rfl ?_
    refine r_ifeq X 34 dX7_turn_25 (by decide) (fun c5 => ?_) (fun c5 => ?_)
    · replace h := it_t c5 h
      refine r_aload_n X 1 dX7_turn_34 rfl rfl ?_
      refine r_getr X 12 42 in_X7 (ci := 6) rfl rfl (ltn hnc rfl) (Nat.le_of_ble_eq_true rfl) rfl w_621 dX7_turn_35 (by decide) ?_
      refine r_aload_n X 1 dX7_turn_38 rfl rfl ?_
      refine r_geti X 21 in_X7 (ci := 6) rfl rfl (ltn hnc rfl) (Nat.le_of_ble_eq_true rfl) rfl w_630 dX7_turn_39 ?_
      refine r_iload_n X 2 dX7_turn_42 rfl rfl ?_
      obtain ⟨c6, h⟩ := ck_ex h
      obtain ⟨M7, eM7, h⟩ := nm_ex h
      refine r_iast X (n := 6) rfl (ltn hnc rfl) c6 dX7_turn_43 ?_
      refine r_mem eM7 ?_
      refine r_aload_n X 1 dX7_turn_44 rfl rfl ?_
      refine r_dup X dX7_turn_45 rfl ?_
      refine r_geti X 21 in_X7 (ci := 6) rfl rfl (ltn hnc rfl) (Nat.le_of_ble_eq_true rfl) rfl w_630 dX7_turn_46 ?_
      refine r_iconst X 1 dX7_turn_49 rfl ?_
      refine r_iadd X dX7_turn_50 ?_
      obtain ⟨M8, eM8, h⟩ := nm_ex h
      refine r_puti X 21 in_X7 (ci := 6) rfl tyX7_ok nmX7 rfl (ltn hnc rfl) (Nat.le_of_ble_eq_true rfl) rfl w_630 rfl (ty := .int) rfl rfl rfl dX7_turn_51 ?_
      refine r_mem eM8 ?_
      refine r_aload_n X 1 dX7_turn_54 rfl rfl ?_
      refine r_geti X 21 in_X7 (ci := 6) rfl rfl (ltn hnc rfl) (Nat.le_of_ble_eq_true rfl) rfl w_630 dX7_turn_55 ?_
      exact r_iretE X hr dX7_turn_58 h
    · replace h := it_f c5 h
      refine r_aload_n X 1 dX7_turn_28 rfl rfl ?_
      refine r_iload_n X 0 dX7_turn_29 rfl rfl ?_
      obtain ⟨r10, M9, h11, h⟩ := bd2_ex h
      refine r_callV X (st := []) (av := [.int r2]) (k := 34) (ci := 6) (k_X7_refuse l N _ hnc _ _ _ _ h11 d (by omega)) (fitR_s (Nat.le_of_ble_eq_true rfl)) ⟨Nat.le_refl 0, Nat.le_refl 0⟩ rfl (ltn hnc rfl) rfl w_689 w_47 w_688 w_18 w_686 hy_X7_refuse rfl (Nat.le_of_ble_eq_true rfl) dX7_turn_30 ?_
      exact r_iretE X hr dX7_turn_33 h
  · replace h := it_t c4 h
    refine r_aload_n X 1 dX7_turn_12 rfl rfl ?_
    refine r_geti X 21 in_X7 (ci := 6) rfl rfl (ltn hnc rfl) (Nat.le_of_ble_eq_true rfl) rfl w_630 dX7_turn_13 ?_
    refine r_bipush X 6 dX7_turn_16 rfl ?_
    refine r_icne X 24 dX7_turn_18 (by decide) (fun c12 => ?_) (fun c12 => ?_)
    · replace h := it_f c12 h
      refine r_iload_n X 0 dX7_turn_24 rfl rfl ?_
      refine r_ifeq X 34 dX7_turn_25 (by decide) (fun c13 => ?_) (fun c13 => ?_)
      · replace h := it_t c13 h
        refine r_aload_n X 1 dX7_turn_34 rfl rfl ?_
        refine r_getr X 12 42 in_X7 (ci := 6) rfl rfl (ltn hnc rfl) (Nat.le_of_ble_eq_true rfl) rfl w_621 dX7_turn_35 (by decide) ?_
        refine r_aload_n X 1 dX7_turn_38 rfl rfl ?_
        refine r_geti X 21 in_X7 (ci := 6) rfl rfl (ltn hnc rfl) (Nat.le_of_ble_eq_true rfl) rfl w_630 dX7_turn_39 ?_
        refine r_iload_n X 2 dX7_turn_42 rfl rfl ?_
        obtain ⟨c14, h⟩ := ck_ex h
        obtain ⟨M15, eM15, h⟩ := nm_ex h
        refine r_iast X (n := 6) rfl (ltn hnc rfl) c14 dX7_turn_43 ?_
        refine r_mem eM15 ?_
        refine r_aload_n X 1 dX7_turn_44 rfl rfl ?_
        refine r_dup X dX7_turn_45 rfl ?_
        refine r_geti X 21 in_X7 (ci := 6) rfl rfl (ltn hnc rfl) (Nat.le_of_ble_eq_true rfl) rfl w_630 dX7_turn_46 ?_
        refine r_iconst X 1 dX7_turn_49 rfl ?_
        refine r_iadd X dX7_turn_50 ?_
        obtain ⟨M16, eM16, h⟩ := nm_ex h
        refine r_puti X 21 in_X7 (ci := 6) rfl tyX7_ok nmX7 rfl (ltn hnc rfl) (Nat.le_of_ble_eq_true rfl) rfl w_630 rfl (ty := .int) rfl rfl rfl dX7_turn_51 ?_
        refine r_mem eM16 ?_
        refine r_aload_n X 1 dX7_turn_54 rfl rfl ?_
        refine r_geti X 21 in_X7 (ci := 6) rfl rfl (ltn hnc rfl) (Nat.le_of_ble_eq_true rfl) rfl w_630 dX7_turn_55 ?_
        exact r_iretE X hr dX7_turn_58 h
      · replace h := it_f c13 h
        refine r_aload_n X 1 dX7_turn_28 rfl rfl ?_
        refine r_iload_n X 0 dX7_turn_29 rfl rfl ?_
        obtain ⟨r18, M17, h19, h⟩ := bd2_ex h
        refine r_callV X (st := []) (av := [.int r2]) (k := 34) (ci := 6) (k_X7_refuse l N _ hnc _ _ _ _ h19 d (by omega)) (fitR_s (Nat.le_of_ble_eq_true rfl)) ⟨Nat.le_refl 0, Nat.le_refl 0⟩ rfl (ltn hnc rfl) rfl w_689 w_47 w_688 w_18 w_686 hy_X7_refuse rfl (Nat.le_of_ble_eq_true rfl) dX7_turn_30 ?_
        exact r_iretE X hr dX7_turn_33 h
    · replace h := it_t c12 h
      refine r_bipush X (-6) dX7_turn_21 rfl ?_
      refine r_istore_n X [(2, .int (-6 : Int32)), (0, .ref 34), (1, .int p0)] dX7_turn_23 rfl (Nat.le_of_ble_eq_true rfl) rfl ?_
      refine r_iload_n X 0 dX7_turn_24 rfl rfl ?_
      refine r_ifeq X 34 dX7_turn_25 (by decide) (fun c20 => ?_) (fun c20 => ?_)
      · exact absurd c20 (by decide)
      refine r_aload_n X 1 dX7_turn_28 rfl rfl ?_
      refine r_iload_n X 0 dX7_turn_29 rfl rfl ?_
      obtain ⟨r22, M21, h23, h⟩ := bd2_ex h
      refine r_callV X (st := []) (av := [.int (-6 : Int32)]) (k := 34) (ci := 6) (k_X7_refuse l N _ hnc _ _ _ _ h23 d (by omega)) (fitR_s (Nat.le_of_ble_eq_true rfl)) ⟨Nat.le_refl 0, Nat.le_refl 0⟩ rfl (ltn hnc rfl) rfl w_689 w_47 w_688 w_18 w_686 hy_X7_refuse rfl (Nat.le_of_ble_eq_true rfl) dX7_turn_30 ?_
      exact r_iretE X hr dX7_turn_33 h
def l_X4_layTurns_28 (N : Nat) (REC : Mem → Int32 → Int32 → Int64 → Int32 → Nat → Option (Int32 × Mem))  (a4 : Nat) : Nat → Mem → Int32 → Int32 → Int64 → Int32 → Int32 → Int32 → Option (Int32 × Mem)
  | 0, _, _, _, _, _, _, _ => none
  | n + 1, M, v1, v2, v3, v5, v7, v8 =>
    if (10 : Int32) ≤ v8 then
      (some (v7, M))
    else
      (bd2 (f_X6_at shp N M 46 v8) fun r4 M3 =>
      bd2 (f_X6_at shp N M3 47 v8) fun r7 M6 =>
      bd2 (f_X6_at shp N M6 a4 v1) fun r10 M9 =>
      if r7 = r10 then
        (bd2 (f_X6_at shp N M9 28 r4) fun r14 M13 =>
        if r14 ≤ 0 then
          (l_X4_layTurns_28 N REC a4 n M13 v1 v2 v3 v5 v7 (v8 + 1))
        else
          (bd2 (f_X1_step N M13 v5 v8) fun r18 M17 =>
          bd2 (f_X6_at shp N M17 28 r4) fun r21 M20 =>
          bd (f_X6_put shp N M20 28 r4 (r21 - (1 : Int32))) fun M23 =>
          bd2 (f_X1_turned N M23 v5 v8) fun r26 M25 =>
          bd2 (REC M25 (v1 + (1 : Int32)) v2 (v3 + r18) r26 a4) fun r29 M28 =>
          bd2 (f_X6_at shp N M28 28 r4) fun r32 M31 =>
          bd (f_X6_put shp N M31 28 r4 (r32 + (1 : Int32))) fun M34 =>
          l_X4_layTurns_28 N REC a4 n M34 v1 v2 v3 v5 (v7 + r29) (v8 + 1)))
      else
        (l_X4_layTurns_28 N REC a4 n M9 v1 v2 v3 v5 v7 (v8 + 1)))
def f_X4_layTurns (N : Nat) : Nat → Mem → Int32 → Int32 → Int64 → Int32 → Nat → Option (Int32 × Mem)
  | 0 => fun _ _ _ _ _ _ => none
  | dd + 1 => fun M p0 p1 p2 p3 a4 =>
    if p0 < p1 then
      (l_X4_layTurns_28 N (f_X4_layTurns N dd) a4 N M p0 p1 p2 p3 (0 : Int32) (0 : Int32))
    else
      (if (lg_cmp p2 (0 : Int64)) = 0 then
        (if p3 = 0 then
          (some ((1 : Int32), M))
        else
          (some ((0 : Int32), M)))
      else
        (some ((0 : Int32), M)))
set_option maxRecDepth 100000 in
set_option maxHeartbeats 4000000 in
theorem k_X4_layTurns (l : Launch) (N : Nat) (nc : Nat) (hnc : 34 ≤ nc) : ∀ (dd : Nat) (M : Mem) (p0 : Int32) (p1 : Int32) (p2 : Int64) (p3 : Int32) (a4 : Nat) (ha4 : a4 < nc ∨ 45 ≤ a4) (r : Int32) (M' : Mem), f_X4_layTurns N dd M p0 p1 p2 p3 a4 = some (r, M') → ∀ (d : Nat), 2 + dd ≤ d → Ct l d yX4_layTurns cX4_layTurns 12 (some .int) shp nc [.ref 27, .int p0, .int p1, .long p2, .int p3, .ref a4] M (some (.int r)) M' := by
  intro dd
  induction dd with
  | zero => intro M p0 p1 p2 p3 a4 ha4 r M' h; cases h
  | succ dd ihd =>
    intro M p0 p1 p2 p3 a4 ha4 r M' h d hd
    obtain ⟨d, rfl⟩ : ∃ q, d = q + 1 := ⟨d - 1, by omega⟩
    rw [f_X4_layTurns] at h
    refine Ct.of (by decide +kernel) (Nat.le_of_ble_eq_true rfl) ?_
    intro p e s m args below meth c A ad D cI cJ X hr
    have hl28 : ∀ (n : Nat) (M : Mem) (v1 : Int32) (v2 : Int32) (v3 : Int64) (v5 : Int32) (v7 : Int32) (v8 : Int32), l_X4_layTurns_28 N (f_X4_layTurns N dd) a4 n M v1 v2 v3 v5 v7 v8 = some (r, M') → AW p l e (rmd (d + 1)) s m args below meth c 12 A ad D cI cJ shp nc 0 0 (MQ below (Qq A ad D cI cJ shp nc (some (.int r)) M') args s 0 0 A) M 28 [(0, .ref 27), (1, .int v1), (2, .int v2), (3, .long v3), (5, .int v5), (6, .ref a4), (7, .int v7), (8, .int v8)] [] := by
      intro n
      induction n with
      | zero => intro M v1 v2 v3 v5 v7 v8 h; cases h
      | succ n ih =>
        intro M v1 v2 v3 v5 v7 v8 h
        rw [l_X4_layTurns_28] at h
        refine r_iload X 7 dX4_layTurns_28 rfl ?_
        refine r_bipush X 10 dX4_layTurns_30 rfl ?_
        refine r_icge X 159 dX4_layTurns_32 (by decide) (fun c2 => ?_) (fun c2 => ?_)
        · replace h := it_t c2 h
          refine r_iload X 6 dX4_layTurns_159 rfl ?_
          exact r_iretE X hr dX4_layTurns_161 h
        · replace h := it_f c2 h
          refine r_getsN X 1 (Nat.le_of_ble_eq_true rfl) w_550 dX4_layTurns_35 ?_
          refine r_iload X 7 dX4_layTurns_38 rfl ?_
          obtain ⟨r4, M3, h5, h⟩ := bd2_ex h
          refine r_callSN X (st := []) (av := [.ref 46, .int v8]) (k_X6_at l N _ _ _ _ _ (Or.inr (Nat.le_of_ble_eq_true rfl)) _ _ h5 d (by omega)) (fitR_s (Nat.le_of_ble_eq_true rfl)) ⟨Nat.le_refl 0, Nat.le_refl 0⟩ w_71 w_39 w_70 w_551 hy_X6_at rfl (Nat.le_of_ble_eq_true rfl) dX4_layTurns_40 ?_
          refine r_istore X [(9, .int r4), (0, .ref 27), (1, .int v1), (2, .int v2), (3, .long v3), (5, .int v5), (6, .ref a4), (7, .int v7), (8, .int v8)] dX4_layTurns_43 (Nat.le_of_ble_eq_true rfl) rfl ?_
          refine r_getsN X 2 (Nat.le_of_ble_eq_true rfl) w_552 dX4_layTurns_45 ?_
          refine r_iload X 8 dX4_layTurns_48 rfl ?_
          obtain ⟨r7, M6, h8, h⟩ := bd2_ex h
          refine r_callSN X (st := []) (av := [.ref 47, .int v8]) (k_X6_at l N _ _ _ _ _ (Or.inr (Nat.le_of_ble_eq_true rfl)) _ _ h8 d (by omega)) (fitR_s (Nat.le_of_ble_eq_true rfl)) ⟨Nat.le_refl 0, Nat.le_refl 0⟩ w_71 w_39 w_70 w_551 hy_X6_at rfl (Nat.le_of_ble_eq_true rfl) dX4_layTurns_50 ?_
          refine r_aload X 6 dX4_layTurns_53 rfl ?_
          refine r_iload_n X 2 dX4_layTurns_55 rfl rfl ?_
          obtain ⟨r10, M9, h11, h⟩ := bd2_ex h
          refine r_callSN X (st := [.int r7]) (av := [.ref a4, .int v1]) (k_X6_at l N _ _ _ _ _ ha4 _ _ h11 d (by omega)) (fitR_s (Nat.le_of_ble_eq_true rfl)) ⟨Nat.le_refl 0, Nat.le_refl 0⟩ w_71 w_39 w_70 w_551 hy_X6_at rfl (Nat.le_of_ble_eq_true rfl) dX4_layTurns_56 ?_
          refine r_icne X 153 dX4_layTurns_59 (by decide) (fun c12 => ?_) (fun c12 => ?_)
          · replace h := it_f c12 h
            refine r_iinc X [(8, .int (v8 + 1)), (9, .int r4), (0, .ref 27), (1, .int v1), (2, .int v2), (3, .long v3), (5, .int v5), (6, .ref a4), (7, .int v7)] 8 (v8 + 1) dX4_layTurns_153 rfl rfl (Nat.le_of_ble_eq_true rfl) rfl ?_
            refine r_goto X 28 dX4_layTurns_156 (by decide) ?_
            refine r_sub (ls' := [(0, .ref 27), (1, .int v1), (2, .int v2), (3, .long v3), (5, .int v5), (6, .ref a4), (7, .int v7), (8, .int (v8 + 1))]) [2, 3, 4, 5, 6, 7, 8, 0] rfl ?_
            exact ih M9 v1 v2 v3 v5 v7 (v8 + 1) h
          · replace h := it_t c12 h
            refine r_aload_n X 1 dX4_layTurns_62 rfl rfl ?_
            refine r_getr X 2 28 in_X4 (ci := 3) rfl rfl (ltn hnc rfl) (Nat.le_of_ble_eq_true rfl) rfl w_194 dX4_layTurns_63 (by decide) ?_
            refine r_iload X 0 dX4_layTurns_66 rfl ?_
            obtain ⟨r14, M13, h15, h⟩ := bd2_ex h
            refine r_callSN X (st := []) (av := [.ref 28, .int r4]) (k_X6_at l N _ _ _ _ _ (Or.inl (ltn hnc rfl)) _ _ h15 d (by omega)) (fitR_s (Nat.le_of_ble_eq_true rfl)) ⟨Nat.le_refl 0, Nat.le_refl 0⟩ w_71 w_39 w_70 w_551 hy_X6_at rfl (Nat.le_of_ble_eq_true rfl) dX4_layTurns_68 ?_
            refine r_ifle X 153 dX4_layTurns_71 (by decide) (fun c16 => ?_) (fun c16 => ?_)
            · replace h := it_t c16 h
              refine r_iinc X [(8, .int (v8 + 1)), (9, .int r4), (0, .ref 27), (1, .int v1), (2, .int v2), (3, .long v3), (5, .int v5), (6, .ref a4), (7, .int v7)] 8 (v8 + 1) dX4_layTurns_153 rfl rfl (Nat.le_of_ble_eq_true rfl) rfl ?_
              refine r_goto X 28 dX4_layTurns_156 (by decide) ?_
              refine r_sub (ls' := [(0, .ref 27), (1, .int v1), (2, .int v2), (3, .long v3), (5, .int v5), (6, .ref a4), (7, .int v7), (8, .int (v8 + 1))]) [2, 3, 4, 5, 6, 7, 8, 0] rfl ?_
              exact ih M13 v1 v2 v3 v5 v7 (v8 + 1) h
            · replace h := it_f c16 h
              refine r_lload_n X 4 dX4_layTurns_74 rfl rfl ?_
              refine r_aload_n X 1 dX4_layTurns_75 rfl rfl ?_
              refine r_getr X 1 15 in_X4 (ci := 3) rfl rfl (ltn hnc rfl) (Nat.le_of_ble_eq_true rfl) rfl w_193 dX4_layTurns_76 (by decide) ?_
              refine r_iload X 5 dX4_layTurns_79 rfl ?_
              refine r_iload X 8 dX4_layTurns_81 rfl ?_
              obtain ⟨r18, M17, h19, h⟩ := bd2_ex h
              refine r_callV X (st := [.long v3]) (av := [.int v5, .int v8]) (k := 15) (ci := 1) (k_X1_step l N _ hnc _ _ _ _ _ h19 d (by omega)) (fitR_s (Nat.le_of_ble_eq_true rfl)) ⟨Nat.le_refl 0, Nat.le_refl 0⟩ rfl (ltn hnc rfl) rfl w_340 w_41 w_338 w_339 w_553 hy_X1_step rfl (Nat.le_of_ble_eq_true rfl) dX4_layTurns_83 ?_
              refine r_ladd X dX4_layTurns_86 ?_
              refine r_lstore X [(10, .long (v3 + r18)), (9, .int r4), (0, .ref 27), (1, .int v1), (2, .int v2), (3, .long v3), (5, .int v5), (6, .ref a4), (7, .int v7), (8, .int v8)] dX4_layTurns_87 (Nat.le_of_ble_eq_true rfl) rfl ?_
              refine r_aload_n X 2 dX4_layTurns_89 rfl rfl ?_
              refine r_getr X 2 28 in_X4 (ci := 3) rfl rfl (ltn hnc rfl) (Nat.le_of_ble_eq_true rfl) rfl w_194 dX4_layTurns_90 (by decide) ?_
              refine r_iload X 1 dX4_layTurns_93 rfl ?_
              refine r_aload_n X 2 dX4_layTurns_95 rfl rfl ?_
              refine r_getr X 2 28 in_X4 (ci := 3) rfl rfl (ltn hnc rfl) (Nat.le_of_ble_eq_true rfl) rfl w_194 dX4_layTurns_96 (by decide) ?_
              refine r_iload X 1 dX4_layTurns_99 rfl ?_
              obtain ⟨r21, M20, h22, h⟩ := bd2_ex h
              refine r_callSN X (st := [.int r4, .ref 28]) (av := [.ref 28, .int r4]) (k_X6_at l N _ _ _ _ _ (Or.inl (ltn hnc rfl)) _ _ h22 d (by omega)) (fitR_s (Nat.le_of_ble_eq_true rfl)) ⟨Nat.le_refl 0, Nat.le_refl 0⟩ w_71 w_39 w_70 w_551 hy_X6_at rfl (Nat.le_of_ble_eq_true rfl) dX4_layTurns_101 ?_
              refine r_iconst X 1 dX4_layTurns_104 rfl ?_
              refine r_isub X dX4_layTurns_105 ?_
              obtain ⟨M23, h24, h⟩ := bd_ex h
              refine r_callSN X (st := []) (av := [.ref 28, .int r4, .int (r21 - (1 : Int32))]) (k_X6_put l N _ _ _ _ _ _ (Or.inl (ltn hnc rfl)) _ h24 d (by omega)) (fitR_s (Nat.le_of_ble_eq_true rfl)) ⟨Nat.le_refl 0, Nat.le_refl 0⟩ w_287 w_39 w_286 w_555 hy_X6_put rfl (Nat.le_of_ble_eq_true rfl) dX4_layTurns_106 ?_
              refine r_iload X 8 dX4_layTurns_109 rfl ?_
              refine r_aload_n X 2 dX4_layTurns_111 rfl rfl ?_
              refine r_iload_n X 3 dX4_layTurns_112 rfl rfl ?_
              refine r_iconst X 1 dX4_layTurns_113 rfl ?_
              refine r_iadd X dX4_layTurns_114 ?_
              refine r_iload_n X 4 dX4_layTurns_115 rfl rfl ?_
              refine r_lload X 0 dX4_layTurns_116 rfl ?_
              refine r_iload X 6 dX4_layTurns_118 rfl ?_
              refine r_iload X 9 dX4_layTurns_120 rfl ?_
              obtain ⟨r26, M25, h27, h⟩ := bd2_ex h
              refine r_callS X (st := [.long (v3 + r18), .int v2, .int (v1 + (1 : Int32)), .ref 27, .int v7]) (av := [.int v5, .int v8]) (k_X1_turned l N _ hnc _ _ _ _ _ h27 d (by omega)) (fitR_s (Nat.le_of_ble_eq_true rfl)) ⟨Nat.le_refl 0, Nat.le_refl 0⟩ w_346 w_41 w_345 w_554 hy_X1_turned rfl (Nat.le_of_ble_eq_true rfl) dX4_layTurns_122 ?_
              refine r_aload X 7 dX4_layTurns_125 rfl ?_
              obtain ⟨r29, M28, h30, h⟩ := bd2_ex h
              refine r_callS X (st := [.int v7]) (av := [.ref 27, .int (v1 + (1 : Int32)), .int v2, .long (v3 + r18), .int r26, .ref a4]) (ihd _ _ _ _ _ _ ha4 _ _ h30 d (by omega)) (fitR_s (Nat.le_of_ble_eq_true rfl)) ⟨Nat.le_refl 0, Nat.le_refl 0⟩ w_577 w_44 w_576 w_575 hy_X4_layTurns rfl (Nat.le_of_ble_eq_true rfl) dX4_layTurns_127 ?_
              refine r_iadd X dX4_layTurns_130 ?_
              refine r_istore X [(7, .int (v7 + r29)), (10, .long (v3 + r18)), (9, .int r4), (0, .ref 27), (1, .int v1), (2, .int v2), (3, .long v3), (5, .int v5), (6, .ref a4), (8, .int v8)] dX4_layTurns_131 (Nat.le_of_ble_eq_true rfl) rfl ?_
              refine r_aload_n X 3 dX4_layTurns_133 rfl rfl ?_
              refine r_getr X 2 28 in_X4 (ci := 3) rfl rfl (ltn hnc rfl) (Nat.le_of_ble_eq_true rfl) rfl w_194 dX4_layTurns_134 (by decide) ?_
              refine r_iload X 2 dX4_layTurns_137 rfl ?_
              refine r_aload_n X 3 dX4_layTurns_139 rfl rfl ?_
              refine r_getr X 2 28 in_X4 (ci := 3) rfl rfl (ltn hnc rfl) (Nat.le_of_ble_eq_true rfl) rfl w_194 dX4_layTurns_140 (by decide) ?_
              refine r_iload X 2 dX4_layTurns_143 rfl ?_
              obtain ⟨r32, M31, h33, h⟩ := bd2_ex h
              refine r_callSN X (st := [.int r4, .ref 28]) (av := [.ref 28, .int r4]) (k_X6_at l N _ _ _ _ _ (Or.inl (ltn hnc rfl)) _ _ h33 d (by omega)) (fitR_s (Nat.le_of_ble_eq_true rfl)) ⟨Nat.le_refl 0, Nat.le_refl 0⟩ w_71 w_39 w_70 w_551 hy_X6_at rfl (Nat.le_of_ble_eq_true rfl) dX4_layTurns_145 ?_
              refine r_iconst X 1 dX4_layTurns_148 rfl ?_
              refine r_iadd X dX4_layTurns_149 ?_
              obtain ⟨M34, h35, h⟩ := bd_ex h
              refine r_callSN X (st := []) (av := [.ref 28, .int r4, .int (r32 + (1 : Int32))]) (k_X6_put l N _ _ _ _ _ _ (Or.inl (ltn hnc rfl)) _ h35 d (by omega)) (fitR_s (Nat.le_of_ble_eq_true rfl)) ⟨Nat.le_refl 0, Nat.le_refl 0⟩ w_287 w_39 w_286 w_555 hy_X6_put rfl (Nat.le_of_ble_eq_true rfl) dX4_layTurns_150 ?_
              refine r_iinc X [(8, .int (v8 + 1)), (7, .int (v7 + r29)), (10, .long (v3 + r18)), (9, .int r4), (0, .ref 27), (1, .int v1), (2, .int v2), (3, .long v3), (5, .int v5), (6, .ref a4)] 9 (v8 + 1) dX4_layTurns_153 rfl rfl (Nat.le_of_ble_eq_true rfl) rfl ?_
              refine r_goto X 28 dX4_layTurns_156 (by decide) ?_
              refine r_sub (ls' := [(0, .ref 27), (1, .int v1), (2, .int v2), (3, .long v3), (5, .int v5), (6, .ref a4), (7, .int (v7 + r29)), (8, .int (v8 + 1))]) [4, 5, 6, 7, 8, 9, 1, 0] rfl ?_
              exact ih M34 v1 v2 v3 v5 (v7 + r29) (v8 + 1) h
    refine r_sub (ls' := [(0, .ref 27), (1, .int p0), (2, .int p1), (3, .long p2), (5, .int p3), (6, .ref a4)]) [0, 1, 2, 3, 4, 5] rfl ?_
    refine r_iload_n X 1 dX4_layTurns_0 rfl rfl ?_
    refine r_iload_n X 2 dX4_layTurns_1 rfl rfl ?_
    refine r_iclt X 22 dX4_layTurns_2 (by decide) (fun c1 => ?_) (fun c1 => ?_)
    · replace h := it_t c1 h
      refine r_iconst X 0 dX4_layTurns_22 rfl ?_
      refine r_istore X [(7, .int (0 : Int32)), (0, .ref 27), (1, .int p0), (2, .int p1), (3, .long p2), (5, .int p3), (6, .ref a4)] dX4_layTurns_23 (Nat.le_of_ble_eq_true rfl) rfl ?_
      refine r_iconst X 0 dX4_layTurns_25 rfl ?_
      refine r_istore X [(8, .int (0 : Int32)), (7, .int (0 : Int32)), (0, .ref 27), (1, .int p0), (2, .int p1), (3, .long p2), (5, .int p3), (6, .ref a4)] dX4_layTurns_26 (Nat.le_of_ble_eq_true rfl) rfl ?_
      refine r_sub (ls' := [(0, .ref 27), (1, .int p0), (2, .int p1), (3, .long p2), (5, .int p3), (6, .ref a4), (7, .int (0 : Int32)), (8, .int (0 : Int32))]) [2, 3, 4, 5, 6, 7, 1, 0] rfl ?_
      exact hl28  N M p0 p1 p2 p3 (0 : Int32) (0 : Int32) h
    · replace h := it_f c1 h
      refine r_lload_n X 3 dX4_layTurns_5 rfl rfl ?_
      refine r_lconst X 0 dX4_layTurns_6 rfl ?_
      refine r_lcmp X dX4_layTurns_7 ?_
      refine r_ifne X 20 dX4_layTurns_8 (by decide) (fun c36 => ?_) (fun c36 => ?_)
      · replace h := it_f c36 h
        refine r_iconst X 0 dX4_layTurns_20 rfl ?_
        exact r_iretE X hr dX4_layTurns_21 h
      · replace h := it_t c36 h
        refine r_iload X 4 dX4_layTurns_11 rfl ?_
        refine r_ifne X 20 dX4_layTurns_13 (by decide) (fun c37 => ?_) (fun c37 => ?_)
        · replace h := it_f c37 h
          refine r_iconst X 0 dX4_layTurns_20 rfl ?_
          exact r_iretE X hr dX4_layTurns_21 h
        · replace h := it_t c37 h
          refine r_iconst X 1 dX4_layTurns_16 rfl ?_
          refine r_goto X 21 dX4_layTurns_17 (by decide) ?_
          exact r_iretE X hr dX4_layTurns_21 h
