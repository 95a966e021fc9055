/-! Part 05: methods as pure functions (f_..), and their contracts (k_..) -/
def f_X6_at (sh : Nat → Shp) (N : Nat) (M : Mem) (a0 : Nat) (p1 : Int32) : Option (Int32 × Mem) :=
  if p1 < 0 then
    (some ((0 : Int32), M))
  else
    (bd (iaL sh a0) fun n2 =>
    if (Int32.ofNat n2) ≤ p1 then
      (some ((0 : Int32), M))
    else
      (ck (inb p1 n2) <|
      some (M.1 a0 (ix p1), M)))
set_option maxRecDepth 100000 in
set_option maxHeartbeats 4000000 in
theorem k_X6_at (l : Launch) (N : Nat) (sh : Nat → Shp) (nc : Nat) (M : Mem) (a0 : Nat) (p1 : Int32) (ha0 : a0 < nc ∨ 45 ≤ a0) (r : Int32) (M' : Mem) (h : f_X6_at sh N M a0 p1 = some (r, M')) (d : Nat) (hd : 0 ≤ d) : Ct l d yX6_at cX6_at 2 (some .int) sh nc [.ref a0, .int p1] M (some (.int r)) M' := by
  unfold f_X6_at at h
  refine Ct.of (by decide +kernel) (Nat.le_of_ble_eq_true rfl) ?_
  intro p e s m args below meth c A ad D cI cJ X hr
  refine r_sub (ls' := [(0, .ref a0), (1, .int p1)]) [0, 1] rfl ?_
  refine r_iload_n X 1 dX6_at_0 rfl rfl ?_
  refine r_iflt X 16 dX6_at_1 (by decide) (fun c1 => ?_) (fun c1 => ?_)
  · replace h := it_t c1 h
    refine r_iconst X 0 dX6_at_16 rfl ?_
    exact r_iretE X hr dX6_at_17 h
  · replace h := it_f c1 h
    refine r_iload_n X 1 dX6_at_4 rfl rfl ?_
    refine r_aload_n X 0 dX6_at_5 rfl rfl ?_
    obtain ⟨n2, en2, h⟩ := bd_ex h
    refine r_alen X en2 ha0 rfl dX6_at_6 ?_
    refine r_icge X 16 dX6_at_7 (by decide) (fun c3 => ?_) (fun c3 => ?_)
    · replace h := it_t c3 h
      refine r_iconst X 0 dX6_at_16 rfl ?_
      exact r_iretE X hr dX6_at_17 h
    · replace h := it_f c3 h
      refine r_aload_n X 0 dX6_at_10 rfl rfl ?_
      refine r_iload_n X 1 dX6_at_11 rfl rfl ?_
      obtain ⟨c4, h⟩ := ck_ex h
      refine r_iald X en2 ha0 c4 dX6_at_12 ?_
      refine r_goto X 17 dX6_at_13 (by decide) ?_
      exact r_iretE X hr dX6_at_17 h
def f_X6_put (sh : Nat → Shp) (N : Nat) (M : Mem) (a0 : Nat) (p1 : Int32) (p2 : Int32) : Option Mem :=
  if p1 < 0 then
    (some M)
  else
    (bd (iaL sh a0) fun n2 =>
    if (Int32.ofNat n2) ≤ p1 then
      (some M)
    else
      (ck (inb p1 n2) <|
      ck (a0 < 45) <|
      nm (seI M a0 (ix p1) p2) fun M5 =>
      some M5))
set_option maxRecDepth 100000 in
set_option maxHeartbeats 4000000 in
theorem k_X6_put (l : Launch) (N : Nat) (sh : Nat → Shp) (nc : Nat) (M : Mem) (a0 : Nat) (p1 : Int32) (p2 : Int32) (ha0 : a0 < nc ∨ 45 ≤ a0) (M' : Mem) (h : f_X6_put sh N M a0 p1 p2 = some M') (d : Nat) (hd : 0 ≤ d) : Ct l d yX6_put cX6_put 3 none sh nc [.ref a0, .int p1, .int p2] M none M' := by
  unfold f_X6_put at h
  refine Ct.of (by decide +kernel) (Nat.le_of_ble_eq_true rfl) ?_
  intro p e s m args below meth c A ad D cI cJ X hr
  refine r_sub (ls' := [(0, .ref a0), (1, .int p1), (2, .int p2)]) [0, 1, 2] rfl ?_
  refine r_iload_n X 1 dX6_put_0 rfl rfl ?_
  refine r_iflt X 14 dX6_put_1 (by decide) (fun c1 => ?_) (fun c1 => ?_)
  · replace h := it_t c1 h
    exact r_vretE X hr dX6_put_14 h
  · replace h := it_f c1 h
    refine r_iload_n X 1 dX6_put_4 rfl rfl ?_
    refine r_aload_n X 0 dX6_put_5 rfl rfl ?_
    obtain ⟨n2, en2, h⟩ := bd_ex h
    refine r_alen X en2 ha0 rfl dX6_put_6 ?_
    refine r_icge X 14 dX6_put_7 (by decide) (fun c3 => ?_) (fun c3 => ?_)
    · replace h := it_t c3 h
      exact r_vretE X hr dX6_put_14 h
    · replace h := it_f c3 h
      refine r_aload_n X 0 dX6_put_10 rfl rfl ?_
      refine r_iload_n X 1 dX6_put_11 rfl rfl ?_
      refine r_iload_n X 2 dX6_put_12 rfl rfl ?_
      obtain ⟨c4, h⟩ := ck_ex h
      obtain ⟨c6, h⟩ := ck_ex h
      obtain ⟨M5, eM5, h⟩ := nm_ex h
      refine r_iast X en2 (ha0.resolve_right (Nat.not_le.mpr c6)) c4 dX6_put_13 ?_
      refine r_mem eM5 ?_
      exact r_vretE X hr dX6_put_14 h
def f_X6_refuse (N : Nat) (M : Mem) (p0 : Int32) : Option (Int32 × Mem) :=
  bd2 (f_X6_at shp N M 33 (-p0)) fun r2 M1 =>
  bd (f_X6_put shp N M1 33 (-p0) (r2 + (1 : Int32))) fun M4 =>
  some (p0, M4)
set_option maxRecDepth 100000 in
set_option maxHeartbeats 4000000 in
theorem k_X6_refuse (l : Launch) (N : Nat) (nc : Nat) (hnc : 34 ≤ nc) (M : Mem) (p0 : Int32) (r : Int32) (M' : Mem) (h : f_X6_refuse N M p0 = some (r, M')) (d : Nat) (hd : 1 ≤ d) : Ct l d yX6_refuse cX6_refuse 2 (some .int) shp nc [.ref 0, .int p0] M (some (.int r)) M' := by
  obtain ⟨d, rfl⟩ : ∃ q, d = q + 1 := ⟨d - 1, by omega⟩
  unfold f_X6_refuse at h
  refine Ct.of (by decide +kernel) (Nat.le_of_ble_eq_true rfl) ?_
  intro p e s m args below meth c A ad D cI cJ X hr
  refine r_sub (ls' := [(0, .ref 0), (1, .int p0)]) [0, 1] rfl ?_
  refine r_aload_n X 0 dX6_refuse_0 rfl rfl ?_
  refine r_getr X 11 33 in_X6 (ci := 5) rfl rfl (ltn hnc rfl) (Nat.le_of_ble_eq_true rfl) rfl w_251 dX6_refuse_1 (by decide) ?_
  refine r_iload_n X 1 dX6_refuse_4 rfl rfl ?_
  refine r_ineg X dX6_refuse_5 ?_
  refine r_aload_n X 0 dX6_refuse_6 rfl rfl ?_
  refine r_getr X 11 33 in_X6 (ci := 5) rfl rfl (ltn hnc rfl) (Nat.le_of_ble_eq_true rfl) rfl w_251 dX6_refuse_7 (by decide) ?_
  refine r_iload_n X 1 dX6_refuse_10 rfl rfl ?_
  refine r_ineg X dX6_refuse_11 ?_
  obtain ⟨r2, M1, h3, h⟩ := bd2_ex h
  refine r_callS X (st := [.int (-p0), .ref 33]) (av := [.ref 33, .int (-p0)]) (k_X6_at l N _ _ _ _ _ (Or.inl (ltn hnc rfl)) _ _ h3 d (by omega)) (fitR_s (Nat.le_of_ble_eq_true rfl)) ⟨Nat.le_refl 0, Nat.le_refl 0⟩ w_71 w_39 w_70 w_69 hy_X6_at rfl (Nat.le_of_ble_eq_true rfl) dX6_refuse_12 ?_
  refine r_iconst X 1 dX6_refuse_15 rfl ?_
  refine r_iadd X dX6_refuse_16 ?_
  obtain ⟨M4, h5, h⟩ := bd_ex h
  refine r_callS X (st := []) (av := [.ref 33, .int (-p0), .int (r2 + (1 : Int32))]) (k_X6_put l N _ _ _ _ _ _ (Or.inl (ltn hnc rfl)) _ h5 d (by omega)) (fitR_s (Nat.le_of_ble_eq_true rfl)) ⟨Nat.le_refl 0, Nat.le_refl 0⟩ w_287 w_39 w_286 w_285 hy_X6_put rfl (Nat.le_of_ble_eq_true rfl) dX6_refuse_17 ?_
  refine r_iload_n X 1 dX6_refuse_20 rfl rfl ?_
  exact r_iretE X hr dX6_refuse_21 h
def l_X6_feed_39 (N : Nat)    : Nat → Mem → Int32 → Int64 → Int32 → Option (Int32 × Mem)
  | 0, _, _, _, _ => none
  | n + 1, M, v1, v2, v4 =>
    if v1 ≤ v4 then
      (nm (seI M 0 8 ((M.1 0 8) + v1)) fun M8 =>
      some (M8.1 0 8, M8))
    else
      (bd (f_X6_put shp N M 31 ((M.1 0 8) + v4) ((Int64.toInt32 (ushr64 v2 ((8 : Int32) * v4))) &&& (255 : Int32))) fun M9 =>
      l_X6_feed_39 N n M9 v1 v2 (v4 + 1))
def f_X6_feed (N : Nat) (M : Mem) (p0 : Int32) (p1 : Int64) : Option (Int32 × Mem) :=
  if (1 : Int32) ≤ p0 then
    (if (8 : Int32) < p0 then
      (bd2 (f_X6_refuse N M (-6 : Int32)) fun r4 M3 =>
      some (r4, M3))
    else
      (if ((M.1 0 8) + p0) ≤ (24 : Int32) then
        (l_X6_feed_39 N N M p0 p1 (0 : Int32))
      else
        (bd2 (f_X6_refuse N M (-6 : Int32)) fun r12 M11 =>
        some (r12, M11))))
  else
    (bd2 (f_X6_refuse N M (-4 : Int32)) fun r15 M14 =>
    some (r15, M14))
set_option maxRecDepth 100000 in
set_option maxHeartbeats 4000000 in
theorem k_X6_feed (l : Launch) (N : Nat) (nc : Nat) (hnc : 34 ≤ nc) (M : Mem) (p0 : Int32) (p1 : Int64) (r : Int32) (M' : Mem) (h : f_X6_feed N M p0 p1 = some (r, M')) (d : Nat) (hd : 2 ≤ d) : Ct l d yX6_feed cX6_feed 5 (some .int) shp nc [.ref 0, .int p0, .long p1] M (some (.int r)) M' := by
  obtain ⟨d, rfl⟩ : ∃ q, d = q + 1 := ⟨d - 1, by omega⟩
  unfold f_X6_feed at h
  refine Ct.of (by decide +kernel) (Nat.le_of_ble_eq_true rfl) ?_
  intro p e s m args below meth c A ad D cI cJ X hr
  have hl39 : ∀ (n : Nat) (M : Mem) (v1 : Int32) (v2 : Int64) (v4 : Int32), l_X6_feed_39 N n M v1 v2 v4 = some (r, M') → AW p l e (rmd (d + 1)) s m args below meth c 5 A ad D cI cJ shp nc 0 0 (MQ below (Qq A ad D cI cJ shp nc (some (.int r)) M') args s 0 0 A) M 39 [(0, .ref 0), (1, .int v1), (2, .long v2), (4, .int v4)] [] := by
    intro n
    induction n with
    | zero => intro M v1 v2 v4 h; cases h
    | succ n ih =>
      intro M v1 v2 v4 h
      rw [l_X6_feed_39] at h
      refine r_iload X 3 dX6_feed_39 rfl ?_
      refine r_iload_n X 1 dX6_feed_41 rfl rfl ?_
      refine r_icge X 77 dX6_feed_42 (by decide) (fun c7 => ?_) (fun c7 => ?_)
      · replace h := it_t c7 h
        refine r_aload_n X 0 dX6_feed_77 rfl rfl ?_
        refine r_dup X dX6_feed_78 rfl ?_
        refine r_geti X 8 in_X6 (ci := 5) rfl rfl (ltn hnc rfl) (Nat.le_of_ble_eq_true rfl) rfl w_248 dX6_feed_79 ?_
        refine r_iload_n X 1 dX6_feed_82 rfl rfl ?_
        refine r_iadd X dX6_feed_83 ?_
        obtain ⟨M8, eM8, h⟩ := nm_ex h
        refine r_puti X 8 in_X6 (ci := 5) rfl tyX6_ok nmX6 rfl (ltn hnc rfl) (Nat.le_of_ble_eq_true rfl) rfl w_248 rfl (ty := .int) rfl rfl rfl dX6_feed_84 ?_
        refine r_mem eM8 ?_
        refine r_aload_n X 0 dX6_feed_87 rfl rfl ?_
        refine r_geti X 8 in_X6 (ci := 5) rfl rfl (ltn hnc rfl) (Nat.le_of_ble_eq_true rfl) rfl w_248 dX6_feed_88 ?_
        exact r_iretE X hr dX6_feed_91 h
      · replace h := it_f c7 h
        refine r_aload_n X 0 dX6_feed_45 rfl rfl ?_
        refine r_getr X 7 31 in_X6 (ci := 5) rfl rfl (ltn hnc rfl) (Nat.le_of_ble_eq_true rfl) rfl w_247 dX6_feed_46 (by decide) ?_
        refine r_aload_n X 0 dX6_feed_49 rfl rfl ?_
        refine r_geti X 8 in_X6 (ci := 5) rfl rfl (ltn hnc rfl) (Nat.le_of_ble_eq_true rfl) rfl w_248 dX6_feed_50 ?_
        refine r_iload X 3 dX6_feed_53 rfl ?_
        refine r_iadd X dX6_feed_55 ?_
        refine r_lload_n X 2 dX6_feed_56 rfl rfl ?_
        refine r_bipush X 8 dX6_feed_57 rfl ?_
        refine r_iload X 3 dX6_feed_59 rfl ?_
        refine r_imul X dX6_feed_61 ?_
        refine r_lushr X dX6_feed_62 ?_
        refine r_l2i X dX6_feed_63 ?_
        refine r_sipush X 255 dX6_feed_64 rfl ?_
        refine r_iand X dX6_feed_67 ?_
        obtain ⟨M9, h10, h⟩ := bd_ex h
        refine r_callS X (st := []) (av := [.ref 31, .int ((M.1 0 8) + v4), .int ((Int64.toInt32 (ushr64 v2 ((8 : Int32) * v4))) &&& (255 : Int32))]) (k_X6_put l N _ _ _ _ _ _ (Or.inl (ltn hnc rfl)) _ h10 d (by omega)) (fitR_s (Nat.le_of_ble_eq_true rfl)) ⟨Nat.le_refl 0, Nat.le_refl 0⟩ w_287 w_39 w_286 w_285 hy_X6_put rfl (Nat.le_of_ble_eq_true rfl) dX6_feed_68 ?_
        refine r_iinc X [(4, .int (v4 + 1)), (0, .ref 0), (1, .int v1), (2, .long v2)] 3 (v4 + 1) dX6_feed_71 rfl rfl (Nat.le_of_ble_eq_true rfl) rfl ?_
        refine r_goto X 39 dX6_feed_74 (by decide) ?_
        refine r_sub (ls' := [(0, .ref 0), (1, .int v1), (2, .long v2), (4, .int (v4 + 1))]) [1, 2, 3, 0] rfl ?_
        exact ih M9 v1 v2 (v4 + 1) h
  refine r_sub (ls' := [(0, .ref 0), (1, .int p0), (2, .long p1)]) [0, 1, 2] rfl ?_
  refine r_iload_n X 1 dX6_feed_0 rfl rfl ?_
  refine r_iconst X 1 dX6_feed_1 rfl ?_
  refine r_icge X 12 dX6_feed_2 (by decide) (fun c1 => ?_) (fun c1 => ?_)
  · replace h := it_t c1 h
    refine r_iload_n X 1 dX6_feed_12 rfl rfl ?_
    refine r_bipush X 8 dX6_feed_13 rfl ?_
    refine r_icgt X 29 dX6_feed_15 (by decide) (fun c2 => ?_) (fun c2 => ?_)
    · replace h := it_t c2 h
      refine r_aload_n X 0 dX6_feed_29 rfl rfl ?_
      refine r_bipush X (-6) dX6_feed_30 rfl ?_
      obtain ⟨r4, M3, h5, h⟩ := bd2_ex h
      refine r_callV X (st := []) (av := [.int (-6 : Int32)]) (k := 0) (ci := 5) (k_X6_refuse l N _ hnc _ _ _ _ h5 d (by omega)) (fitR_s (Nat.le_of_ble_eq_true rfl)) ⟨Nat.le_refl 0, Nat.le_refl 0⟩ rfl (ltn hnc rfl) rfl w_284 w_39 w_283 w_1 w_281 hy_X6_refuse rfl (Nat.le_of_ble_eq_true rfl) dX6_feed_32 ?_
      exact r_iretE X hr dX6_feed_35 h
    · replace h := it_f c2 h
      refine r_aload_n X 0 dX6_feed_18 rfl rfl ?_
      refine r_geti X 8 in_X6 (ci := 5) rfl rfl (ltn hnc rfl) (Nat.le_of_ble_eq_true rfl) rfl w_248 dX6_feed_19 ?_
      refine r_iload_n X 1 dX6_feed_22 rfl rfl ?_
      refine r_iadd X dX6_feed_23 ?_
      refine r_bipush X 24 dX6_feed_24 rfl ?_
      refine r_icle X 36 dX6_feed_26 (by decide) (fun c6 => ?_) (fun c6 => ?_)
      · replace h := it_t c6 h
        refine r_iconst X 0 dX6_feed_36 rfl ?_
        refine r_istore X [(4, .int (0 : Int32)), (0, .ref 0), (1, .int p0), (2, .long p1)] dX6_feed_37 (Nat.le_of_ble_eq_true rfl) rfl ?_
        refine r_sub (ls' := [(0, .ref 0), (1, .int p0), (2, .long p1), (4, .int (0 : Int32))]) [1, 2, 3, 0] rfl ?_
        exact hl39  N M p0 p1 (0 : Int32) h
      · replace h := it_f c6 h
        refine r_aload_n X 0 dX6_feed_29 rfl rfl ?_
        refine r_bipush X (-6) dX6_feed_30 rfl ?_
        obtain ⟨r12, M11, h13, h⟩ := bd2_ex h
        refine r_callV X (st := []) (av := [.int (-6 : Int32)]) (k := 0) (ci := 5) (k_X6_refuse l N _ hnc _ _ _ _ h13 d (by omega)) (fitR_s (Nat.le_of_ble_eq_true rfl)) ⟨Nat.le_refl 0, Nat.le_refl 0⟩ rfl (ltn hnc rfl) rfl w_284 w_39 w_283 w_1 w_281 hy_X6_refuse rfl (Nat.le_of_ble_eq_true rfl) dX6_feed_32 ?_
        exact r_iretE X hr dX6_feed_35 h
  · replace h := it_f c1 h
    refine r_aload_n X 0 dX6_feed_5 rfl rfl ?_
    refine r_bipush X (-4) dX6_feed_6 rfl ?_
    obtain ⟨r15, M14, h16, h⟩ := bd2_ex h
    refine r_callV X (st := []) (av := [.int (-4 : Int32)]) (k := 0) (ci := 5) (k_X6_refuse l N _ hnc _ _ _ _ h16 d (by omega)) (fitR_s (Nat.le_of_ble_eq_true rfl)) ⟨Nat.le_refl 0, Nat.le_refl 0⟩ rfl (ltn hnc rfl) rfl w_284 w_39 w_283 w_1 w_281 hy_X6_refuse rfl (Nat.le_of_ble_eq_true rfl) dX6_feed_8 ?_
    exact r_iretE X hr dX6_feed_11 h
def f_X7_refuse (N : Nat) (M : Mem) (p0 : Int32) : Option (Int32 × Mem) :=
  ck (inb (-p0) 7) <|
  ck (inb (-p0) 7) <|
  nm (seI M 35 (ix (-p0)) ((M.1 35 (ix (-p0))) + (1 : Int32))) fun M3 =>
  some (p0, M3)
set_option maxRecDepth 100000 in
set_option maxHeartbeats 4000000 in
theorem k_X7_refuse (l : Launch) (N : Nat) (nc : Nat) (hnc : 45 ≤ nc) (M : Mem) (p0 : Int32) (r : Int32) (M' : Mem) (h : f_X7_refuse N M p0 = some (r, M')) (d : Nat) (hd : 0 ≤ d) : Ct l d yX7_refuse cX7_refuse 2 (some .int) shp nc [.ref 34, .int p0] M (some (.int r)) M' := by
  unfold f_X7_refuse at h
  refine Ct.of (by decide +kernel) (Nat.le_of_ble_eq_true rfl) ?_
  intro p e s m args below meth c A ad D cI cJ X hr
  refine r_sub (ls' := [(0, .ref 34), (1, .int p0)]) [0, 1] rfl ?_
  refine r_aload_n X 0 dX7_refuse_0 rfl rfl ?_
  refine r_getr X 0 35 in_X7 (ci := 6) rfl rfl (ltn hnc rfl) (Nat.le_of_ble_eq_true rfl) rfl w_609 dX7_refuse_1 (by decide) ?_
  refine r_iload_n X 1 dX7_refuse_4 rfl rfl ?_
  refine r_ineg X dX7_refuse_5 ?_
  refine r_dup2 X dX7_refuse_6 rfl rfl ?_
  obtain ⟨c1, h⟩ := ck_ex h
  refine r_iald X (n := 7) rfl (Or.inl (ltn hnc rfl)) c1 dX7_refuse_7 ?_
  refine r_iconst X 1 dX7_refuse_8 rfl ?_
  refine r_iadd X dX7_refuse_9 ?_
  obtain ⟨c2, h⟩ := ck_ex h
  obtain ⟨M3, eM3, h⟩ := nm_ex h
  refine r_iast X (n := 7) rfl (ltn hnc rfl) c2 dX7_refuse_10 ?_
  refine r_mem eM3 ?_
  refine r_iload_n X 1 dX7_refuse_11 rfl rfl ?_
  exact r_iretE X hr dX7_refuse_12 h
def l_X7_feed_39 (N : Nat)    : Nat → Mem → Int32 → Int64 → Int32 → Option (Int32 × Mem)
  | 0, _, _, _, _ => none
  | n + 1, M, v1, v2, v4 =>
    if v1 ≤ v4 then
      (some (M.1 34 5, M))
    else
      (ck (inb (M.1 34 5) 24) <|
      nm (seI M 38 (ix (M.1 34 5)) (Int64.toInt32 ((shr64 v2 ((8 : Int32) * v4)) &&& (255 : Int64)))) fun M9 =>
      nm (seI M9 34 5 ((M9.1 34 5) + (1 : Int32))) fun M10 =>
      l_X7_feed_39 N n M10 v1 v2 (v4 + 1))
def f_X7_feed (N : Nat) (M : Mem) (p0 : Int32) (p1 : Int64) : Option (Int32 × Mem) :=
  if (1 : Int32) ≤ p0 then
    (if (8 : Int32) < p0 then
      (bd2 (f_X7_refuse N M (-6 : Int32)) fun r4 M3 =>
      some (r4, M3))
    else
      (if ((M.1 34 5) + p0) ≤ (24 : Int32) then
        (l_X7_feed_39 N N M p0 p1 (0 : Int32))
      else
        (bd2 (f_X7_refuse N M (-6 : Int32)) fun r12 M11 =>
        some (r12, M11))))
  else
    (bd2 (f_X7_refuse N M (-4 : Int32)) fun r15 M14 =>
    some (r15, M14))
set_option maxRecDepth 100000 in
set_option maxHeartbeats 4000000 in
theorem k_X7_feed (l : Launch) (N : Nat) (nc : Nat) (hnc : 45 ≤ nc) (M : Mem) (p0 : Int32) (p1 : Int64) (r : Int32) (M' : Mem) (h : f_X7_feed N M p0 p1 = some (r, M')) (d : Nat) (hd : 1 ≤ d) : Ct l d yX7_feed cX7_feed 5 (some .int) shp nc [.ref 34, .int p0, .long p1] M (some (.int r)) M' := by
  obtain ⟨d, rfl⟩ : ∃ q, d = q + 1 := ⟨d - 1, by omega⟩
  unfold f_X7_feed at h
  refine Ct.of (by decide +kernel) (Nat.le_of_ble_eq_true rfl) ?_
  intro p e s m args below meth c A ad D cI cJ X hr
  have hl39 : ∀ (n : Nat) (M : Mem) (v1 : Int32) (v2 : Int64) (v4 : Int32), l_X7_feed_39 N n M v1 v2 v4 = some (r, M') → AW p l e (rmd (d + 1)) s m args below meth c 5 A ad D cI cJ shp nc 0 0 (MQ below (Qq A ad D cI cJ shp nc (some (.int r)) M') args s 0 0 A) M 39 [(0, .ref 34), (1, .int v1), (2, .long v2), (4, .int v4)] [] := by
    intro n
    induction n with
    | zero => intro M v1 v2 v4 h; cases h
    | succ n ih =>
      intro M v1 v2 v4 h
      rw [l_X7_feed_39] at h
      refine r_iload X 3 dX7_feed_39 rfl ?_
      refine r_iload_n X 1 dX7_feed_41 rfl rfl ?_
      refine r_icge X 82 dX7_feed_42 (by decide) (fun c7 => ?_) (fun c7 => ?_)
      · replace h := it_t c7 h
        refine r_aload_n X 0 dX7_feed_82 rfl rfl ?_
        refine r_geti X 5 in_X7 (ci := 6) rfl rfl (ltn hnc rfl) (Nat.le_of_ble_eq_true rfl) rfl w_614 dX7_feed_83 ?_
        exact r_iretE X hr dX7_feed_86 h
      · replace h := it_f c7 h
        refine r_aload_n X 0 dX7_feed_45 rfl rfl ?_
        refine r_getr X 4 38 in_X7 (ci := 6) rfl rfl (ltn hnc rfl) (Nat.le_of_ble_eq_true rfl) rfl w_613 dX7_feed_46 (by decide) ?_
        refine r_aload_n X 0 dX7_feed_49 rfl rfl ?_
        refine r_geti X 5 in_X7 (ci := 6) rfl rfl (ltn hnc rfl) (Nat.le_of_ble_eq_true rfl) rfl w_614 dX7_feed_50 ?_
        refine r_lload_n X 2 dX7_feed_53 rfl rfl ?_
        refine r_bipush X 8 dX7_feed_54 rfl ?_
        refine r_iload X 3 dX7_feed_56 rfl ?_
        refine r_imul X dX7_feed_58 ?_
        refine r_lshr X dX7_feed_59 ?_
        refine r_ldc2 X w_690 dX7_feed_60 ?_
        refine r_land X dX7_feed_63 ?_
        refine r_l2i X dX7_feed_64 ?_
        obtain ⟨c8, h⟩ := ck_ex h
        obtain ⟨M9, eM9, h⟩ := nm_ex h
        refine r_iast X (n := 24) rfl (ltn hnc rfl) c8 dX7_feed_65 ?_
        refine r_mem eM9 ?_
        refine r_aload_n X 0 dX7_feed_66 rfl rfl ?_
        refine r_dup X dX7_feed_67 rfl ?_
        refine r_geti X 5 in_X7 (ci := 6) rfl rfl (ltn hnc rfl) (Nat.le_of_ble_eq_true rfl) rfl w_614 dX7_feed_68 ?_
        refine r_iconst X 1 dX7_feed_71 rfl ?_
        refine r_iadd X dX7_feed_72 ?_
        obtain ⟨M10, eM10, h⟩ := nm_ex h
        refine r_puti X 5 in_X7 (ci := 6) rfl tyX7_ok nmX7 rfl (ltn hnc rfl) (Nat.le_of_ble_eq_true rfl) rfl w_614 rfl (ty := .int) rfl rfl rfl dX7_feed_73 ?_
        refine r_mem eM10 ?_
        refine r_iinc X [(4, .int (v4 + 1)), (0, .ref 34), (1, .int v1), (2, .long v2)] 3 (v4 + 1) dX7_feed_76 rfl rfl (Nat.le_of_ble_eq_true rfl) rfl ?_
        refine r_goto X 39 dX7_feed_79 (by decide) ?_
        refine r_sub (ls' := [(0, .ref 34), (1, .int v1), (2, .long v2), (4, .int (v4 + 1))]) [1, 2, 3, 0] rfl ?_
        exact ih M10 v1 v2 (v4 + 1) h
  refine r_sub (ls' := [(0, .ref 34), (1, .int p0), (2, .long p1)]) [0, 1, 2] rfl ?_
  refine r_iload_n X 1 dX7_feed_0 rfl rfl ?_
  refine r_iconst X 1 dX7_feed_1 rfl ?_
  refine r_icge X 12 dX7_feed_2 (by decide) (fun c1 => ?_) (fun c1 => ?_)
  · replace h := it_t c1 h
    refine r_iload_n X 1 dX7_feed_12 rfl rfl ?_
    refine r_bipush X 8 dX7_feed_13 rfl ?_
    refine r_icgt X 29 dX7_feed_15 (by decide) (fun c2 => ?_) (fun c2 => ?_)
    · replace h := it_t c2 h
      refine r_aload_n X 0 dX7_feed_29 rfl rfl ?_
      refine r_bipush X (-6) dX7_feed_30 rfl ?_
      obtain ⟨r4, M3, h5, h⟩ := bd2_ex h
      refine r_callV X (st := []) (av := [.int (-6 : Int32)]) (k := 34) (ci := 6) (k_X7_refuse l N _ hnc _ _ _ _ h5 d (by omega)) (fitR_s (Nat.le_of_ble_eq_true rfl)) ⟨Nat.le_refl 0, Nat.le_refl 0⟩ rfl (ltn hnc rfl) rfl w_689 w_47 w_688 w_18 w_686 hy_X7_refuse rfl (Nat.le_of_ble_eq_true rfl) dX7_feed_32 ?_
      exact r_iretE X hr dX7_feed_35 h
    · replace h := it_f c2 h
      refine r_aload_n X 0 dX7_feed_18 rfl rfl ?_
      refine r_geti X 5 in_X7 (ci := 6) rfl rfl (ltn hnc rfl) (Nat.le_of_ble_eq_true rfl) rfl w_614 dX7_feed_19 ?_
      refine r_iload_n X 1 dX7_feed_22 rfl rfl ?_
      refine r_iadd X dX7_feed_23 ?_
      refine r_bipush X 24 dX7_feed_24 rfl ?_
      refine r_icle X 36 dX7_feed_26 (by decide) (fun c6 => ?_) (fun c6 => ?_)
      · replace h := it_t c6 h
        refine r_iconst X 0 dX7_feed_36 rfl ?_
        refine r_istore X [(4, .int (0 : Int32)), (0, .ref 34), (1, .int p0), (2, .long p1)] dX7_feed_37 (Nat.le_of_ble_eq_true rfl) rfl ?_
        refine r_sub (ls' := [(0, .ref 34), (1, .int p0), (2, .long p1), (4, .int (0 : Int32))]) [1, 2, 3, 0] rfl ?_
        exact hl39  N M p0 p1 (0 : Int32) h
      · replace h := it_f c6 h
        refine r_aload_n X 0 dX7_feed_29 rfl rfl ?_
        refine r_bipush X (-6) dX7_feed_30 rfl ?_
        obtain ⟨r12, M11, h13, h⟩ := bd2_ex h
        refine r_callV X (st := []) (av := [.int (-6 : Int32)]) (k := 34) (ci := 6) (k_X7_refuse l N _ hnc _ _ _ _ h13 d (by omega)) (fitR_s (Nat.le_of_ble_eq_true rfl)) ⟨Nat.le_refl 0, Nat.le_refl 0⟩ rfl (ltn hnc rfl) rfl w_689 w_47 w_688 w_18 w_686 hy_X7_refuse rfl (Nat.le_of_ble_eq_true rfl) dX7_feed_32 ?_
        exact r_iretE X hr dX7_feed_35 h
  · replace h := it_f c1 h
    refine r_aload_n X 0 dX7_feed_5 rfl rfl ?_
    refine r_bipush X (-4) dX7_feed_6 rfl ?_
    obtain ⟨r15, M14, h16, h⟩ := bd2_ex h
    refine r_callV X (st := []) (av := [.int (-4 : Int32)]) (k := 34) (ci := 6) (k_X7_refuse l N _ hnc _ _ _ _ h16 d (by omega)) (fitR_s (Nat.le_of_ble_eq_true rfl)) ⟨Nat.le_refl 0, Nat.le_refl 0⟩ rfl (ltn hnc rfl) rfl w_689 w_47 w_688 w_18 w_686 hy_X7_refuse rfl (Nat.le_of_ble_eq_true rfl) dX7_feed_8 ?_
    exact r_iretE X hr dX7_feed_11 h
def l_X0_becomes_2 (N : Nat)   (a0 : Nat) : Nat → Mem → Int32 → Int32 → Option Mem
  | 0, _, _, _ => none
  | n + 1, M, v2, v3 =>
    if v2 ≤ v3 then
      (nm (seI M 1 3 v2) fun M2 =>
      some M2)
    else
      (bd2 (f_X6_at shp N M a0 v3) fun r4 M3 =>
      bd (f_X6_put shp N M3 4 v3 r4) fun M6 =>
      l_X0_becomes_2 N a0 n M6 v2 (v3 + 1))
def f_X0_becomes (N : Nat) (M : Mem) (a0 : Nat) (p1 : Int32) : Option Mem :=
  l_X0_becomes_2 N a0 N M p1 (0 : Int32)
set_option maxRecDepth 100000 in
set_option maxHeartbeats 4000000 in
theorem k_X0_becomes (l : Launch) (N : Nat) (nc : Nat) (hnc : 34 ≤ nc) (M : Mem) (a0 : Nat) (p1 : Int32) (ha0 : a0 < nc ∨ 45 ≤ a0) (M' : Mem) (h : f_X0_becomes N M a0 p1 = some M') (d : Nat) (hd : 1 ≤ d) : Ct l d yX0_becomes cX0_becomes 4 none shp nc [.ref 1, .ref a0, .int p1] M none M' := by
  obtain ⟨d, rfl⟩ : ∃ q, d = q + 1 := ⟨d - 1, by omega⟩
  unfold f_X0_becomes at h
  refine Ct.of (by decide +kernel) (Nat.le_of_ble_eq_true rfl) ?_
  intro p e s m args below meth c A ad D cI cJ X hr
  have hl2 : ∀ (n : Nat) (M : Mem) (v2 : Int32) (v3 : Int32), l_X0_becomes_2 N a0 n M v2 v3 = some M' → AW p l e (rmd (d + 1)) s m args below meth c 4 A ad D cI cJ shp nc 0 0 (MQ below (Qq A ad D cI cJ shp nc none M') args s 0 0 A) M 2 [(0, .ref 1), (1, .ref a0), (2, .int v2), (3, .int v3)] [] := by
    intro n
    induction n with
    | zero => intro M v2 v3 h; cases h
    | succ n ih =>
      intro M v2 v3 h
      rw [l_X0_becomes_2] at h
      refine r_iload_n X 3 dX0_becomes_2 rfl rfl ?_
      refine r_iload_n X 2 dX0_becomes_3 rfl rfl ?_
      refine r_icge X 26 dX0_becomes_4 (by decide) (fun c1 => ?_) (fun c1 => ?_)
      · replace h := it_t c1 h
        refine r_aload_n X 0 dX0_becomes_26 rfl rfl ?_
        refine r_iload_n X 2 dX0_becomes_27 rfl rfl ?_
        obtain ⟨M2, eM2, h⟩ := nm_ex h
        refine r_puti X 3 in_X0 (ci := 0) rfl tyX0_ok nmX0 rfl (ltn hnc rfl) (Nat.le_of_ble_eq_true rfl) rfl w_81 rfl (ty := .int) rfl rfl rfl dX0_becomes_28 ?_
        refine r_mem eM2 ?_
        exact r_vretE X hr dX0_becomes_31 h
      · replace h := it_f c1 h
        refine r_aload_n X 0 dX0_becomes_7 rfl rfl ?_
        refine r_getr X 2 4 in_X0 (ci := 0) rfl rfl (ltn hnc rfl) (Nat.le_of_ble_eq_true rfl) rfl w_79 dX0_becomes_8 (by decide) ?_
        refine r_iload_n X 3 dX0_becomes_11 rfl rfl ?_
        refine r_aload_n X 1 dX0_becomes_12 rfl rfl ?_
        refine r_iload_n X 3 dX0_becomes_13 rfl rfl ?_
        obtain ⟨r4, M3, h5, h⟩ := bd2_ex h
        refine r_callSN X (st := [.int v3, .ref 4]) (av := [.ref a0, .int v3]) (k_X6_at l N _ _ _ _ _ ha0 _ _ h5 d (by omega)) (fitR_s (Nat.le_of_ble_eq_true rfl)) ⟨Nat.le_refl 0, Nat.le_refl 0⟩ w_71 w_39 w_70 w_301 hy_X6_at rfl (Nat.le_of_ble_eq_true rfl) dX0_becomes_14 ?_
        obtain ⟨M6, h7, h⟩ := bd_ex h
        refine r_callSN X (st := []) (av := [.ref 4, .int v3, .int r4]) (k_X6_put l N _ _ _ _ _ _ (Or.inl (ltn hnc rfl)) _ h7 d (by omega)) (fitR_s (Nat.le_of_ble_eq_true rfl)) ⟨Nat.le_refl 0, Nat.le_refl 0⟩ w_287 w_39 w_286 w_302 hy_X6_put rfl (Nat.le_of_ble_eq_true rfl) dX0_becomes_17 ?_
        refine r_iinc X [(3, .int (v3 + 1)), (0, .ref 1), (1, .ref a0), (2, .int v2)] 3 (v3 + 1) dX0_becomes_20 rfl rfl (Nat.le_of_ble_eq_true rfl) rfl ?_
        refine r_goto X 2 dX0_becomes_23 (by decide) ?_
        refine r_sub (ls' := [(0, .ref 1), (1, .ref a0), (2, .int v2), (3, .int (v3 + 1))]) [1, 2, 3, 0] rfl ?_
        exact ih M6 v2 (v3 + 1) h
  refine r_sub (ls' := [(0, .ref 1), (1, .ref a0), (2, .int p1)]) [0, 1, 2] rfl ?_
  refine r_iconst X 0 dX0_becomes_0 rfl ?_
  refine r_istore_n X [(3, .int (0 : Int32)), (0, .ref 1), (1, .ref a0), (2, .int p1)] dX0_becomes_1 rfl (Nat.le_of_ble_eq_true rfl) rfl ?_
  refine r_sub (ls' := [(0, .ref 1), (1, .ref a0), (2, .int p1), (3, .int (0 : Int32))]) [1, 2, 3, 0] rfl ?_
  exact hl2  N M p1 (0 : Int32) h
def l_X6_letterOf_2 (N : Nat)    : Nat → Mem → Int32 → Int32 → Option (Int32 × Mem)
  | 0, _, _, _ => none
  | n + 1, M, v0, v1 =>
    if (10 : Int32) ≤ v1 then
      (some ((-1 : Int32), M))
    else
      (ck (inb v1 10) <|
      if (M.1 45 (ix v1)) = v0 then
        (some (v1, M))
      else
        (l_X6_letterOf_2 N n M v0 (v1 + 1)))
def f_X6_letterOf (N : Nat) (M : Mem) (p0 : Int32) : Option (Int32 × Mem) :=
  l_X6_letterOf_2 N N M p0 (0 : Int32)
set_option maxRecDepth 100000 in
set_option maxHeartbeats 4000000 in
theorem k_X6_letterOf (l : Launch) (N : Nat) (nc : Nat) (hnc : 34 ≤ nc) (M : Mem) (p0 : Int32) (r : Int32) (M' : Mem) (h : f_X6_letterOf N M p0 = some (r, M')) (d : Nat) (hd : 0 ≤ d) : Ct l d yX6_letterOf cX6_letterOf 2 (some .int) shp nc [.int p0] M (some (.int r)) M' := by
  unfold f_X6_letterOf at h
  refine Ct.of (by decide +kernel) (Nat.le_of_ble_eq_true rfl) ?_
  intro p e s m args below meth c A ad D cI cJ X hr
  have hl2 : ∀ (n : Nat) (M : Mem) (v0 : Int32) (v1 : Int32), l_X6_letterOf_2 N n M v0 v1 = some (r, M') → AW p l e (rmd d) s m args below meth c 2 A ad D cI cJ shp nc 0 0 (MQ below (Qq A ad D cI cJ shp nc (some (.int r)) M') args s 0 0 A) M 2 [(0, .int v0), (1, .int v1)] [] := by
    intro n
    induction n with
    | zero => intro M v0 v1 h; cases h
    | succ n ih =>
      intro M v0 v1 h
      rw [l_X6_letterOf_2] at h
      refine r_iload_n X 1 dX6_letterOf_2 rfl rfl ?_
      refine r_gets X 0 (Nat.le_of_ble_eq_true rfl) w_295 dX6_letterOf_3 ?_
      refine r_alen X (n := 10) rfl (Or.inr (Nat.le_of_ble_eq_true rfl)) rfl dX6_letterOf_6 ?_
      refine r_icge X 27 dX6_letterOf_7 (by decide) (fun c1 => ?_) (fun c1 => ?_)
      · replace h := it_t c1 h
        refine r_iconst X (-1) dX6_letterOf_27 rfl ?_
        exact r_iretE X hr dX6_letterOf_28 h
      · replace h := it_f c1 h
        refine r_gets X 0 (Nat.le_of_ble_eq_true rfl) w_295 dX6_letterOf_10 ?_
        refine r_iload_n X 1 dX6_letterOf_13 rfl rfl ?_
        obtain ⟨c2, h⟩ := ck_ex h
        refine r_iald X (n := 10) rfl (Or.inr (Nat.le_of_ble_eq_true rfl)) c2 dX6_letterOf_14 ?_
        refine r_iload_n X 0 dX6_letterOf_15 rfl rfl ?_
        refine r_icne X 21 dX6_letterOf_16 (by decide) (fun c3 => ?_) (fun c3 => ?_)
        · replace h := it_f c3 h
          refine r_iinc X [(1, .int (v1 + 1)), (0, .int v0)] 1 (v1 + 1) dX6_letterOf_21 rfl rfl (Nat.le_of_ble_eq_true rfl) rfl ?_
          refine r_goto X 2 dX6_letterOf_24 (by decide) ?_
          refine r_sub (ls' := [(0, .int v0), (1, .int (v1 + 1))]) [1, 0] rfl ?_
          exact ih M v0 (v1 + 1) h
        · replace h := it_t c3 h
          refine r_iload_n X 1 dX6_letterOf_19 rfl rfl ?_
          exact r_iretE X hr dX6_letterOf_20 h
  refine r_sub (ls' := [(0, .int p0)]) [0] rfl ?_
  refine r_iconst X 0 dX6_letterOf_0 rfl ?_
  refine r_istore_n X [(1, .int (0 : Int32)), (0, .int p0)] dX6_letterOf_1 rfl (Nat.le_of_ble_eq_true rfl) rfl ?_
  refine r_sub (ls' := [(0, .int p0), (1, .int (0 : Int32))]) [1, 0] rfl ?_
  exact hl2  N M p0 (0 : Int32) h
def l_X6_row_12 (N : Nat)    : Nat → Mem → Int32 → Int32 → Option (Int32 × Mem)
  | 0, _, _, _ => none
  | n + 1, M, v1, v2 =>
    if v1 ≤ v2 then
      (bd (f_X0_becomes N M 31 v1) fun M3 =>
      some (M3.1 1 3, M3))
    else
      (bd2 (f_X6_at shp N M 31 v2) fun r6 M5 =>
      bd2 (f_X6_letterOf N M5 r6) fun r9 M8 =>
      if 0 ≤ r9 then
        (bd (f_X6_put shp N M8 31 v2 r9) fun M12 =>
        l_X6_row_12 N n M12 v1 (v2 + 1))
      else
        (some ((-20 : Int32) - v2, M8)))
def f_X6_row (N : Nat) (M : Mem)  : Option (Int32 × Mem) :=
  nm (seI M 0 8 (0 : Int32)) fun M1 =>
  l_X6_row_12 N N M1 (M.1 0 8) (0 : Int32)
set_option maxRecDepth 100000 in
set_option maxHeartbeats 4000000 in
theorem k_X6_row (l : Launch) (N : Nat) (nc : Nat) (hnc : 34 ≤ nc) (M : Mem)  (r : Int32) (M' : Mem) (h : f_X6_row N M  = some (r, M')) (d : Nat) (hd : 2 ≤ d) : Ct l d yX6_row cX6_row 4 (some .int) shp nc [.ref 0] M (some (.int r)) M' := by
  obtain ⟨d, rfl⟩ : ∃ q, d = q + 1 := ⟨d - 1, by omega⟩
  unfold f_X6_row at h
  refine Ct.of (by decide +kernel) (Nat.le_of_ble_eq_true rfl) ?_
  intro p e s m args below meth c A ad D cI cJ X hr
  have hl12 : ∀ (n : Nat) (M : Mem) (v1 : Int32) (v2 : Int32), l_X6_row_12 N n M v1 v2 = some (r, M') → AW p l e (rmd (d + 1)) s m args below meth c 4 A ad D cI cJ shp nc 0 0 (MQ below (Qq A ad D cI cJ shp nc (some (.int r)) M') args s 0 0 A) M 12 [(0, .ref 0), (1, .int v1), (2, .int v2)] [] := by
    intro n
    induction n with
    | zero => intro M v1 v2 h; cases h
    | succ n ih =>
      intro M v1 v2 h
      rw [l_X6_row_12] at h
      refine r_iload_n X 2 dX6_row_12 rfl rfl ?_
      refine r_iload_n X 1 dX6_row_13 rfl rfl ?_
      refine r_icge X 53 dX6_row_14 (by decide) (fun c2 => ?_) (fun c2 => ?_)
      · replace h := it_t c2 h
        refine r_aload_n X 0 dX6_row_53 rfl rfl ?_
        refine r_getr X 0 1 in_X6 (ci := 5) rfl rfl (ltn hnc rfl) (Nat.le_of_ble_eq_true rfl) rfl w_240 dX6_row_54 (by decide) ?_
        refine r_aload_n X 0 dX6_row_57 rfl rfl ?_
        refine r_getr X 7 31 in_X6 (ci := 5) rfl rfl (ltn hnc rfl) (Nat.le_of_ble_eq_true rfl) rfl w_247 dX6_row_58 (by decide) ?_
        refine r_iload_n X 1 dX6_row_61 rfl rfl ?_
        obtain ⟨M3, h4, h⟩ := bd_ex h
        refine r_callV X (st := []) (av := [.ref 31, .int v1]) (k := 1) (ci := 0) (k_X0_becomes l N _ hnc _ _ _ (Or.inl (ltn hnc rfl)) _ h4 d (by omega)) (fitR_s (Nat.le_of_ble_eq_true rfl)) ⟨Nat.le_refl 0, Nat.le_refl 0⟩ rfl (ltn hnc rfl) rfl w_300 w_40 w_298 w_299 w_297 hy_X0_becomes rfl (Nat.le_of_ble_eq_true rfl) dX6_row_62 ?_
        refine r_aload_n X 0 dX6_row_65 rfl rfl ?_
        refine r_getr X 0 1 in_X6 (ci := 5) rfl rfl (ltn hnc rfl) (Nat.le_of_ble_eq_true rfl) rfl w_240 dX6_row_66 (by decide) ?_
        refine r_geti X 3 in_X0 (ci := 0) rfl rfl (ltn hnc rfl) (Nat.le_of_ble_eq_true rfl) rfl w_82 dX6_row_69 ?_
        exact r_iretE X hr dX6_row_72 h
      · replace h := it_f c2 h
        refine r_aload_n X 0 dX6_row_17 rfl rfl ?_
        refine r_getr X 7 31 in_X6 (ci := 5) rfl rfl (ltn hnc rfl) (Nat.le_of_ble_eq_true rfl) rfl w_247 dX6_row_18 (by decide) ?_
        refine r_iload_n X 2 dX6_row_21 rfl rfl ?_
        obtain ⟨r6, M5, h7, h⟩ := bd2_ex h
        refine r_callS X (st := []) (av := [.ref 31, .int v2]) (k_X6_at l N _ _ _ _ _ (Or.inl (ltn hnc rfl)) _ _ h7 d (by omega)) (fitR_s (Nat.le_of_ble_eq_true rfl)) ⟨Nat.le_refl 0, Nat.le_refl 0⟩ w_71 w_39 w_70 w_69 hy_X6_at rfl (Nat.le_of_ble_eq_true rfl) dX6_row_22 ?_
        obtain ⟨r9, M8, h10, h⟩ := bd2_ex h
        refine r_callS X (st := []) (av := [.int r6]) (k_X6_letterOf l N _ hnc _ _ _ _ h10 d (by omega)) (fitR_s (Nat.le_of_ble_eq_true rfl)) ⟨Nat.le_refl 0, Nat.le_refl 0⟩ w_294 w_39 w_293 w_292 hy_X6_letterOf rfl (Nat.le_of_ble_eq_true rfl) dX6_row_25 ?_
        refine r_istore_n X [(3, .int r9), (0, .ref 0), (1, .int v1), (2, .int v2)] dX6_row_28 rfl (Nat.le_of_ble_eq_true rfl) rfl ?_
        refine r_iload_n X 0 dX6_row_29 rfl rfl ?_
        refine r_ifge X 38 dX6_row_30 (by decide) (fun c11 => ?_) (fun c11 => ?_)
        · replace h := it_t c11 h
          refine r_aload_n X 1 dX6_row_38 rfl rfl ?_
          refine r_getr X 7 31 in_X6 (ci := 5) rfl rfl (ltn hnc rfl) (Nat.le_of_ble_eq_true rfl) rfl w_247 dX6_row_39 (by decide) ?_
          refine r_iload_n X 3 dX6_row_42 rfl rfl ?_
          refine r_iload_n X 0 dX6_row_43 rfl rfl ?_
          obtain ⟨M12, h13, h⟩ := bd_ex h
          refine r_callS X (st := []) (av := [.ref 31, .int v2, .int r9]) (k_X6_put l N _ _ _ _ _ _ (Or.inl (ltn hnc rfl)) _ h13 d (by omega)) (fitR_s (Nat.le_of_ble_eq_true rfl)) ⟨Nat.le_refl 0, Nat.le_refl 0⟩ w_287 w_39 w_286 w_285 hy_X6_put rfl (Nat.le_of_ble_eq_true rfl) dX6_row_44 ?_
          refine r_iinc X [(2, .int (v2 + 1)), (3, .int r9), (0, .ref 0), (1, .int v1)] 3 (v2 + 1) dX6_row_47 rfl rfl (Nat.le_of_ble_eq_true rfl) rfl ?_
          refine r_goto X 12 dX6_row_50 (by decide) ?_
          refine r_sub (ls' := [(0, .ref 0), (1, .int v1), (2, .int (v2 + 1))]) [2, 3, 0] rfl ?_
          exact ih M12 v1 (v2 + 1) h
        · replace h := it_f c11 h
          refine r_bipush X (-20) dX6_row_33 rfl ?_
          refine r_iload_n X 3 dX6_row_35 rfl rfl ?_
          refine r_isub X dX6_row_36 ?_
          exact r_iretE X hr dX6_row_37 h
  refine r_sub (ls' := [(0, .ref 0)]) [0] rfl ?_
  refine r_aload_n X 0 dX6_row_0 rfl rfl ?_
  refine r_geti X 8 in_X6 (ci := 5) rfl rfl (ltn hnc rfl) (Nat.le_of_ble_eq_true rfl) rfl w_248 dX6_row_1 ?_
  refine r_istore_n X [(1, .int (M.1 0 8)), (0, .ref 0)] dX6_row_4 rfl (Nat.le_of_ble_eq_true rfl) rfl ?_
  refine r_aload_n X 1 dX6_row_5 rfl rfl ?_
  refine r_iconst X 0 dX6_row_6 rfl ?_
  obtain ⟨M1, eM1, h⟩ := nm_ex h
  refine r_puti X 8 in_X6 (ci := 5) rfl tyX6_ok nmX6 rfl (ltn hnc rfl) (Nat.le_of_ble_eq_true rfl) rfl w_248 rfl (ty := .int) rfl rfl rfl dX6_row_7 ?_
  refine r_mem eM1 ?_
  refine r_iconst X 0 dX6_row_10 rfl ?_
  refine r_istore_n X [(2, .int (0 : Int32)), (1, .int (M.1 0 8)), (0, .ref 0)] dX6_row_11 rfl (Nat.le_of_ble_eq_true rfl) rfl ?_
  refine r_sub (ls' := [(0, .ref 0), (1, .int (M.1 0 8)), (2, .int (0 : Int32))]) [2, 1, 0] rfl ?_
  exact hl12  N M1 (M.1 0 8) (0 : Int32) h
def f_X7_layingOf (N : Nat) (M : Mem) (p0 : Int32) : Option (Int32 × Mem) :=
  if p0 = 97 then (
    some ((0 : Int32), M))
  else if p0 = 98 then (
    some ((1 : Int32), M))
  else if p0 = 99 then (
    some ((2 : Int32), M))
  else if p0 = 100 then (
    some ((-9 : Int32), M))
  else if p0 = 101 then (
    some ((-9 : Int32), M))
  else if p0 = 102 then (
    some ((-9 : Int32), M))
  else if p0 = 103 then (
    some ((-9 : Int32), M))
  else if p0 = 104 then (
    some ((-9 : Int32), M))
  else if p0 = 105 then (
    some ((-9 : Int32), M))
  else if p0 = 106 then (
    some ((-9 : Int32), M))
  else if p0 = 107 then (
    some ((-9 : Int32), M))
  else if p0 = 108 then (
    some ((3 : Int32), M))
  else if p0 = 109 then (
    some ((4 : Int32), M))
  else if p0 = 110 then (
    some ((-9 : Int32), M))
  else if p0 = 111 then (
    some ((-9 : Int32), M))
  else if p0 = 112 then (
    some ((-9 : Int32), M))
  else if p0 = 113 then (
    some ((7 : Int32), M))
  else if p0 = 114 then (
    some ((5 : Int32), M))
  else if p0 = 115 then (
    some ((6 : Int32), M))
  else if p0 = 116 then (
    some ((8 : Int32), M))
  else if p0 = 117 then (
    some ((-9 : Int32), M))
  else if p0 = 118 then (
    some ((-9 : Int32), M))
  else if p0 = 119 then (
    some ((-9 : Int32), M))
  else if p0 = 120 then (
    some ((9 : Int32), M))
  else (
    some ((-9 : Int32), M))
set_option maxRecDepth 100000 in
set_option maxHeartbeats 4000000 in
theorem k_X7_layingOf (l : Launch) (N : Nat) (nc : Nat) (hnc : 45 ≤ nc) (M : Mem) (p0 : Int32) (r : Int32) (M' : Mem) (h : f_X7_layingOf N M p0 = some (r, M')) (d : Nat) (hd : 0 ≤ d) : Ct l d yX7_layingOf cX7_layingOf 1 (some .int) shp nc [.int p0] M (some (.int r)) M' := by
  unfold f_X7_layingOf at h
  refine Ct.of (by decide +kernel) (Nat.le_of_ble_eq_true rfl) ?_
  intro p e s m args below meth c A ad D cI cJ X hr
  refine r_sub (ls' := [(0, .int p0)]) [0] rfl ?_
  refine r_iload_n X 0 dX7_layingOf_0 rfl rfl ?_
  by_cases c1 : p0 = 97
  · replace h := it_t c1 h
    refine r_swIn X 97 c1 112 dX7_layingOf_1 (by decide) (by decide) rfl (by decide) ?_
    refine r_iconst X 0 dX7_layingOf_112 rfl ?_
    exact r_iretE X hr dX7_layingOf_113 h
  replace h := it_f c1 h
  by_cases c2 : p0 = 98
  · replace h := it_t c2 h
    refine r_swIn X 98 c2 114 dX7_layingOf_1 (by decide) (by decide) rfl (by decide) ?_
    refine r_iconst X 1 dX7_layingOf_114 rfl ?_
    exact r_iretE X hr dX7_layingOf_115 h
  replace h := it_f c2 h
  by_cases c3 : p0 = 99
  · replace h := it_t c3 h
    refine r_swIn X 99 c3 116 dX7_layingOf_1 (by decide) (by decide) rfl (by decide) ?_
    refine r_iconst X 2 dX7_layingOf_116 rfl ?_
    exact r_iretE X hr dX7_layingOf_117 h
  replace h := it_f c3 h
  by_cases c4 : p0 = 100
  · replace h := it_t c4 h
    refine r_swIn X 100 c4 136 dX7_layingOf_1 (by decide) (by decide) rfl (by decide) ?_
    refine r_bipush X (-9) dX7_layingOf_136 rfl ?_
    exact r_iretE X hr dX7_layingOf_138 h
  replace h := it_f c4 h
  by_cases c5 : p0 = 101
  · replace h := it_t c5 h
    refine r_swIn X 101 c5 136 dX7_layingOf_1 (by decide) (by decide) rfl (by decide) ?_
    refine r_bipush X (-9) dX7_layingOf_136 rfl ?_
    exact r_iretE X hr dX7_layingOf_138 h
  replace h := it_f c5 h
  by_cases c6 : p0 = 102
  · replace h := it_t c6 h
    refine r_swIn X 102 c6 136 dX7_layingOf_1 (by decide) (by decide) rfl (by decide) ?_
    refine r_bipush X (-9) dX7_layingOf_136 rfl ?_
    exact r_iretE X hr dX7_layingOf_138 h
  replace h := it_f c6 h
  by_cases c7 : p0 = 103
  · replace h := it_t c7 h
    refine r_swIn X 103 c7 136 dX7_layingOf_1 (by decide) (by decide) rfl (by decide) ?_
    refine r_bipush X (-9) dX7_layingOf_136 rfl ?_
    exact r_iretE X hr dX7_layingOf_138 h
  replace h := it_f c7 h
  by_cases c8 : p0 = 104
  · replace h := it_t c8 h
    refine r_swIn X 104 c8 136 dX7_layingOf_1 (by decide) (by decide) rfl (by decide) ?_
    refine r_bipush X (-9) dX7_layingOf_136 rfl ?_
    exact r_iretE X hr dX7_layingOf_138 h
  replace h := it_f c8 h
  by_cases c9 : p0 = 105
  · replace h := it_t c9 h
    refine r_swIn X 105 c9 136 dX7_layingOf_1 (by decide) (by decide) rfl (by decide) ?_
    refine r_bipush X (-9) dX7_layingOf_136 rfl ?_
    exact r_iretE X hr dX7_layingOf_138 h
  replace h := it_f c9 h
  by_cases c10 : p0 = 106
  · replace h := it_t c10 h
    refine r_swIn X 106 c10 136 dX7_layingOf_1 (by decide) (by decide) rfl (by decide) ?_
    refine r_bipush X (-9) dX7_layingOf_136 rfl ?_
    exact r_iretE X hr dX7_layingOf_138 h
  replace h := it_f c10 h
  by_cases c11 : p0 = 107
  · replace h := it_t c11 h
    refine r_swIn X 107 c11 136 dX7_layingOf_1 (by decide) (by decide) rfl (by decide) ?_
    refine r_bipush X (-9) dX7_layingOf_136 rfl ?_
    exact r_iretE X hr dX7_layingOf_138 h
  replace h := it_f c11 h
  by_cases c12 : p0 = 108
  · replace h := it_t c12 h
    refine r_swIn X 108 c12 118 dX7_layingOf_1 (by decide) (by decide) rfl (by decide) ?_
    refine r_iconst X 3 dX7_layingOf_118 rfl ?_
    exact r_iretE X hr dX7_layingOf_119 h
  replace h := it_f c12 h
  by_cases c13 : p0 = 109
  · replace h := it_t c13 h
    refine r_swIn X 109 c13 120 dX7_layingOf_1 (by decide) (by decide) rfl (by decide) ?_
    refine r_iconst X 4 dX7_layingOf_120 rfl ?_
    exact r_iretE X hr dX7_layingOf_121 h
  replace h := it_f c13 h
  by_cases c14 : p0 = 110
  · replace h := it_t c14 h
    refine r_swIn X 110 c14 136 dX7_layingOf_1 (by decide) (by decide) rfl (by decide) ?_
    refine r_bipush X (-9) dX7_layingOf_136 rfl ?_
    exact r_iretE X hr dX7_layingOf_138 h
  replace h := it_f c14 h
  by_cases c15 : p0 = 111
  · replace h := it_t c15 h
    refine r_swIn X 111 c15 136 dX7_layingOf_1 (by decide) (by decide) rfl (by decide) ?_
    refine r_bipush X (-9) dX7_layingOf_136 rfl ?_
    exact r_iretE X hr dX7_layingOf_138 h
  replace h := it_f c15 h
  by_cases c16 : p0 = 112
  · replace h := it_t c16 h
    refine r_swIn X 112 c16 136 dX7_layingOf_1 (by decide) (by decide) rfl (by decide) ?_
    refine r_bipush X (-9) dX7_layingOf_136 rfl ?_
    exact r_iretE X hr dX7_layingOf_138 h
  replace h := it_f c16 h
  by_cases c17 : p0 = 113
  · replace h := it_t c17 h
    refine r_swIn X 113 c17 127 dX7_layingOf_1 (by decide) (by decide) rfl (by decide) ?_
    refine r_bipush X 7 dX7_layingOf_127 rfl ?_
    exact r_iretE X hr dX7_layingOf_129 h
  replace h := it_f c17 h
  by_cases c18 : p0 = 114
  · replace h := it_t c18 h
    refine r_swIn X 114 c18 122 dX7_layingOf_1 (by decide) (by decide) rfl (by decide) ?_
    refine r_iconst X 5 dX7_layingOf_122 rfl ?_
    exact r_iretE X hr dX7_layingOf_123 h
  replace h := it_f c18 h
  by_cases c19 : p0 = 115
  · replace h := it_t c19 h
    refine r_swIn X 115 c19 124 dX7_layingOf_1 (by decide) (by decide) rfl (by decide) ?_
    refine r_bipush X 6 dX7_layingOf_124 rfl ?_
    exact r_iretE X hr dX7_layingOf_126 h
  replace h := it_f c19 h
  by_cases c20 : p0 = 116
  · replace h := it_t c20 h
    refine r_swIn X 116 c20 130 dX7_layingOf_1 (by decide) (by decide) rfl (by decide) ?_
    refine r_bipush X 8 dX7_layingOf_130 rfl ?_
    exact r_iretE X hr dX7_layingOf_132 h
  replace h := it_f c20 h
  by_cases c21 : p0 = 117
  · replace h := it_t c21 h
    refine r_swIn X 117 c21 136 dX7_layingOf_1 (by decide) (by decide) rfl (by decide) ?_
    refine r_bipush X (-9) dX7_layingOf_136 rfl ?_
    exact r_iretE X hr dX7_layingOf_138 h
  replace h := it_f c21 h
  by_cases c22 : p0 = 118
  · replace h := it_t c22 h
    refine r_swIn X 118 c22 136 dX7_layingOf_1 (by decide) (by decide) rfl (by decide) ?_
    refine r_bipush X (-9) dX7_layingOf_136 rfl ?_
    exact r_iretE X hr dX7_layingOf_138 h
  replace h := it_f c22 h
  by_cases c23 : p0 = 119
  · replace h := it_t c23 h
    refine r_swIn X 119 c23 136 dX7_layingOf_1 (by decide) (by decide) rfl (by decide) ?_
    refine r_bipush X (-9) dX7_layingOf_136 rfl ?_
    exact r_iretE X hr dX7_layingOf_138 h
  replace h := it_f c23 h
  by_cases c24 : p0 = 120
  · replace h := it_t c24 h
    refine r_swIn X 120 c24 133 dX7_layingOf_1 (by decide) (by decide) rfl (by decide) ?_
    refine r_bipush X 9 dX7_layingOf_133 rfl ?_
    exact r_iretE X hr dX7_layingOf_135 h
  replace h := it_f c24 h
  have hsw : Int32.toInt p0 < 97 ∨ 120 < Int32.toInt p0 := sw_out (fun v9 h1 h2 h3 => by
    rcases (show v9 = 97 ∨ v9 = 98 ∨ v9 = 99 ∨ v9 = 100 ∨ v9 = 101 ∨ v9 = 102 ∨ v9 = 103 ∨ v9 = 104 ∨ v9 = 105 ∨ v9 = 106 ∨ v9 = 107 ∨ v9 = 108 ∨ v9 = 109 ∨ v9 = 110 ∨ v9 = 111 ∨ v9 = 112 ∨ v9 = 113 ∨ v9 = 114 ∨ v9 = 115 ∨ v9 = 116 ∨ v9 = 117 ∨ v9 = 118 ∨ v9 = 119 ∨ v9 = 120 by omega) with rfl | rfl | rfl | rfl | rfl | rfl | rfl | rfl | rfl | rfl | rfl | rfl | rfl | rfl | rfl | rfl | rfl | rfl | rfl | rfl | rfl | rfl | rfl | rfl
    · exact c1 (Int32.toInt_inj.mp (h3.trans (by decide)))
    · exact c2 (Int32.toInt_inj.mp (h3.trans (by decide)))
    · exact c3 (Int32.toInt_inj.mp (h3.trans (by decide)))
    · exact c4 (Int32.toInt_inj.mp (h3.trans (by decide)))
    · exact c5 (Int32.toInt_inj.mp (h3.trans (by decide)))
    · exact c6 (Int32.toInt_inj.mp (h3.trans (by decide)))
    · exact c7 (Int32.toInt_inj.mp (h3.trans (by decide)))
    · exact c8 (Int32.toInt_inj.mp (h3.trans (by decide)))
    · exact c9 (Int32.toInt_inj.mp (h3.trans (by decide)))
    · exact c10 (Int32.toInt_inj.mp (h3.trans (by decide)))
    · exact c11 (Int32.toInt_inj.mp (h3.trans (by decide)))
    · exact c12 (Int32.toInt_inj.mp (h3.trans (by decide)))
    · exact c13 (Int32.toInt_inj.mp (h3.trans (by decide)))
    · exact c14 (Int32.toInt_inj.mp (h3.trans (by decide)))
    · exact c15 (Int32.toInt_inj.mp (h3.trans (by decide)))
    · exact c16 (Int32.toInt_inj.mp (h3.trans (by decide)))
    · exact c17 (Int32.toInt_inj.mp (h3.trans (by decide)))
    · exact c18 (Int32.toInt_inj.mp (h3.trans (by decide)))
    · exact c19 (Int32.toInt_inj.mp (h3.trans (by decide)))
    · exact c20 (Int32.toInt_inj.mp (h3.trans (by decide)))
    · exact c21 (Int32.toInt_inj.mp (h3.trans (by decide)))
    · exact c22 (Int32.toInt_inj.mp (h3.trans (by decide)))
    · exact c23 (Int32.toInt_inj.mp (h3.trans (by decide)))
    · exact c24 (Int32.toInt_inj.mp (h3.trans (by decide))))
  refine r_swOut X 136 dX7_layingOf_1 hsw (by decide) ?_
  refine r_bipush X (-9) dX7_layingOf_136 rfl ?_
  exact r_iretE X hr dX7_layingOf_138 h
def l_X7_row_42 (N : Nat)    : Nat → Mem → Int32 → Int32 → Option (Int32 × Mem)
  | 0, _, _, _ => none
  | n + 1, M, v1, v2 =>
    if v1 ≤ v2 then
      (nm (seI M 36 (ix (55 : Int32)) v1) fun M4 =>
      some (v1, M4))
    else
      (ck (inb v2 24) <|
      bd2 (f_X7_layingOf N M (M.1 38 (ix v2))) fun r7 M6 =>
      ck (inb ((31 : Int32) + v2) 56) <|
      nm (seI M6 36 (ix ((31 : Int32) + v2)) r7) fun M10 =>
      l_X7_row_42 N n M10 v1 (v2 + 1))
def l_X7_row_12 (N : Nat)    : Nat → Mem → Int32 → Int32 → Option (Int32 × Mem)
  | 0, _, _, _ => none
  | n + 1, M, v1, v2 =>
    if v1 ≤ v2 then
      (l_X7_row_42 N N M v1 (0 : Int32))
    else
      (ck (inb v2 24) <|
      bd2 (f_X7_layingOf N M (M.1 38 (ix v2))) fun r13 M12 =>
      if 0 ≤ r13 then
        (l_X7_row_12 N n M12 v1 (v2 + 1))
      else
        (some ((-20 : Int32) - v2, M12)))
def f_X7_row (N : Nat) (M : Mem)  : Option (Int32 × Mem) :=
  nm (seI M 34 5 (0 : Int32)) fun M1 =>
  l_X7_row_12 N N M1 (M.1 34 5) (0 : Int32)
set_option maxRecDepth 100000 in
set_option maxHeartbeats 4000000 in
theorem k_X7_row (l : Launch) (N : Nat) (nc : Nat) (hnc : 45 ≤ nc) (M : Mem)  (r : Int32) (M' : Mem) (h : f_X7_row N M  = some (r, M')) (d : Nat) (hd : 1 ≤ d) : Ct l d yX7_row cX7_row 3 (some .int) shp nc [.ref 34] M (some (.int r)) M' := by
  obtain ⟨d, rfl⟩ : ∃ q, d = q + 1 := ⟨d - 1, by omega⟩
  unfold f_X7_row at h
  refine Ct.of (by decide +kernel) (Nat.le_of_ble_eq_true rfl) ?_
  intro p e s m args below meth c A ad D cI cJ X hr
  have hl42 : ∀ (n : Nat) (M : Mem) (v1 : Int32) (v2 : Int32), l_X7_row_42 N n M v1 v2 = some (r, M') → AW p l e (rmd (d + 1)) s m args below meth c 3 A ad D cI cJ shp nc 0 0 (MQ below (Qq A ad D cI cJ shp nc (some (.int r)) M') args s 0 0 A) M 42 [(0, .ref 34), (1, .int v1), (2, .int v2)] [] := by
    intro n
    induction n with
    | zero => intro M v1 v2 h; cases h
    | succ n ih =>
      intro M v1 v2 h
      rw [l_X7_row_42] at h
      refine r_iload_n X 2 dX7_row_42 rfl rfl ?_
      refine r_iload_n X 1 dX7_row_43 rfl rfl ?_
      refine r_icge X 71 dX7_row_44 (by decide) (fun c3 => ?_) (fun c3 => ?_)
      · replace h := it_t c3 h
        refine r_aload_n X 0 dX7_row_71 rfl rfl ?_
        refine r_getr X 1 36 in_X7 (ci := 6) rfl rfl (ltn hnc rfl) (Nat.le_of_ble_eq_true rfl) rfl w_610 dX7_row_72 (by decide) ?_
        refine r_bipush X 55 dX7_row_75 rfl ?_
        refine r_iload_n X 1 dX7_row_77 rfl rfl ?_
        obtain ⟨M4, eM4, h⟩ := nm_ex h
        refine r_iast X (n := 56) rfl (ltn hnc rfl) (by decide) dX7_row_78 ?_
        refine r_mem eM4 ?_
        refine r_iload_n X 1 dX7_row_79 rfl rfl ?_
        exact r_iretE X hr dX7_row_80 h
      · replace h := it_f c3 h
        refine r_aload_n X 0 dX7_row_47 rfl rfl ?_
        refine r_getr X 1 36 in_X7 (ci := 6) rfl rfl (ltn hnc rfl) (Nat.le_of_ble_eq_true rfl) rfl w_610 dX7_row_48 (by decide) ?_
        refine r_bipush X 31 dX7_row_51 rfl ?_
        refine r_iload_n X 2 dX7_row_53 rfl rfl ?_
        refine r_iadd X dX7_row_54 ?_
        refine r_aload_n X 0 dX7_row_55 rfl rfl ?_
        refine r_getr X 4 38 in_X7 (ci := 6) rfl rfl (ltn hnc rfl) (Nat.le_of_ble_eq_true rfl) rfl w_613 dX7_row_56 (by decide) ?_
        refine r_iload_n X 2 dX7_row_59 rfl rfl ?_
        obtain ⟨c5, h⟩ := ck_ex h
        refine r_iald X (n := 24) rfl (Or.inl (ltn hnc rfl)) c5 dX7_row_60 ?_
        obtain ⟨r7, M6, h8, h⟩ := bd2_ex h
        refine r_callS X (st := [.int ((31 : Int32) + v2), .ref 36]) (av := [.int (M.1 38 (ix v2))]) (k_X7_layingOf l N _ hnc _ _ _ _ h8 d (by omega)) (fitR_s (Nat.le_of_ble_eq_true rfl)) ⟨Nat.le_refl 0, Nat.le_refl 0⟩ w_697 w_47 w_696 w_695 hy_X7_layingOf rfl (Nat.le_of_ble_eq_true rfl) dX7_row_61 ?_
        obtain ⟨c9, h⟩ := ck_ex h
        obtain ⟨M10, eM10, h⟩ := nm_ex h
        refine r_iast X (n := 56) rfl (ltn hnc rfl) c9 dX7_row_64 ?_
        refine r_mem eM10 ?_
        refine r_iinc X [(2, .int (v2 + 1)), (0, .ref 34), (1, .int v1)] 2 (v2 + 1) dX7_row_65 rfl rfl (Nat.le_of_ble_eq_true rfl) rfl ?_
        refine r_goto X 42 dX7_row_68 (by decide) ?_
        refine r_sub (ls' := [(0, .ref 34), (1, .int v1), (2, .int (v2 + 1))]) [1, 2, 0] rfl ?_
        exact ih M10 v1 (v2 + 1) h
  have hl12 : ∀ (n : Nat) (M : Mem) (v1 : Int32) (v2 : Int32), l_X7_row_12 N n M v1 v2 = some (r, M') → AW p l e (rmd (d + 1)) s m args below meth c 3 A ad D cI cJ shp nc 0 0 (MQ below (Qq A ad D cI cJ shp nc (some (.int r)) M') args s 0 0 A) M 12 [(0, .ref 34), (1, .int v1), (2, .int v2)] [] := by
    intro n
    induction n with
    | zero => intro M v1 v2 h; cases h
    | succ n ih =>
      intro M v1 v2 h
      rw [l_X7_row_12] at h
      refine r_iload_n X 2 dX7_row_12 rfl rfl ?_
      refine r_iload_n X 1 dX7_row_13 rfl rfl ?_
      refine r_icge X 40 dX7_row_14 (by decide) (fun c2 => ?_) (fun c2 => ?_)
      · replace h := it_t c2 h
        refine r_iconst X 0 dX7_row_40 rfl ?_
        refine r_istore_n X [(2, .int (0 : Int32)), (0, .ref 34), (1, .int v1)] dX7_row_41 rfl (Nat.le_of_ble_eq_true rfl) rfl ?_
        refine r_sub (ls' := [(0, .ref 34), (1, .int v1), (2, .int (0 : Int32))]) [1, 2, 0] rfl ?_
        exact hl42  N M v1 (0 : Int32) h
      · replace h := it_f c2 h
        refine r_aload_n X 0 dX7_row_17 rfl rfl ?_
        refine r_getr X 4 38 in_X7 (ci := 6) rfl rfl (ltn hnc rfl) (Nat.le_of_ble_eq_true rfl) rfl w_613 dX7_row_18 (by decide) ?_
        refine r_iload_n X 2 dX7_row_21 rfl rfl ?_
        obtain ⟨c11, h⟩ := ck_ex h
        refine r_iald X (n := 24) rfl (Or.inl (ltn hnc rfl)) c11 dX7_row_22 ?_
        obtain ⟨r13, M12, h14, h⟩ := bd2_ex h
        refine r_callS X (st := []) (av := [.int (M.1 38 (ix v2))]) (k_X7_layingOf l N _ hnc _ _ _ _ h14 d (by omega)) (fitR_s (Nat.le_of_ble_eq_true rfl)) ⟨Nat.le_refl 0, Nat.le_refl 0⟩ w_697 w_47 w_696 w_695 hy_X7_layingOf rfl (Nat.le_of_ble_eq_true rfl) dX7_row_23 ?_
        refine r_ifge X 34 dX7_row_26 (by decide) (fun c15 => ?_) (fun c15 => ?_)
        · replace h := it_t c15 h
          refine r_iinc X [(2, .int (v2 + 1)), (0, .ref 34), (1, .int v1)] 2 (v2 + 1) dX7_row_34 rfl rfl (Nat.le_of_ble_eq_true rfl) rfl ?_
          refine r_goto X 12 dX7_row_37 (by decide) ?_
          refine r_sub (ls' := [(0, .ref 34), (1, .int v1), (2, .int (v2 + 1))]) [1, 2, 0] rfl ?_
          exact ih M12 v1 (v2 + 1) h
        · replace h := it_f c15 h
          refine r_bipush X (-20) dX7_row_29 rfl ?_
          refine r_iload_n X 2 dX7_row_31 rfl rfl ?_
          refine r_isub X dX7_row_32 ?_
          exact r_iretE X hr dX7_row_33 h
  refine r_sub (ls' := [(0, .ref 34)]) [0] rfl ?_
  refine r_aload_n X 0 dX7_row_0 rfl rfl ?_
  refine r_geti X 5 in_X7 (ci := 6) rfl rfl (ltn hnc rfl) (Nat.le_of_ble_eq_true rfl) rfl w_614 dX7_row_1 ?_
  refine r_istore_n X [(1, .int (M.1 34 5)), (0, .ref 34)] dX7_row_4 rfl (Nat.le_of_ble_eq_true rfl) rfl ?_
  refine r_aload_n X 1 dX7_row_5 rfl rfl ?_
  refine r_iconst X 0 dX7_row_6 rfl ?_
  obtain ⟨M1, eM1, h⟩ := nm_ex h
  refine r_puti X 5 in_X7 (ci := 6) rfl tyX7_ok nmX7 rfl (ltn hnc rfl) (Nat.le_of_ble_eq_true rfl) rfl w_614 rfl (ty := .int) rfl rfl rfl dX7_row_7 ?_
  refine r_mem eM1 ?_
  refine r_iconst X 0 dX7_row_10 rfl ?_
  refine r_istore_n X [(2, .int (0 : Int32)), (1, .int (M.1 34 5)), (0, .ref 34)] dX7_row_11 rfl (Nat.le_of_ble_eq_true rfl) rfl ?_
  refine r_sub (ls' := [(0, .ref 34), (1, .int (M.1 34 5)), (2, .int (0 : Int32))]) [2, 1, 0] rfl ?_
  exact hl12  N M1 (M.1 34 5) (0 : Int32) h
def f_X6_box (N : Nat) (M : Mem) (p0 : Int32) (p1 : Int32) : Option (Int32 × Mem) :=
  if p0 < 0 then
    (bd2 (f_X6_refuse N M (-1 : Int32)) fun r3 M2 =>
    some (r3, M2))
  else
    (if p0 < (7 : Int32) then
      (if 0 ≤ p1 then
        (if p1 ≤ (9 : Int32) then
          (bd2 (f_X6_at shp N M 2 p0) fun r9 M8 =>
          bd (f_X6_put shp N M8 2 p0 p1) fun M11 =>
          some (r9, M11))
        else
          (bd2 (f_X6_refuse N M (-6 : Int32)) fun r14 M13 =>
          some (r14, M13)))
      else
        (bd2 (f_X6_refuse N M (-4 : Int32)) fun r17 M16 =>
        some (r17, M16)))
    else
      (bd2 (f_X6_refuse N M (-1 : Int32)) fun r20 M19 =>
      some (r20, M19)))
set_option maxRecDepth 100000 in
set_option maxHeartbeats 4000000 in
theorem k_X6_box (l : Launch) (N : Nat) (nc : Nat) (hnc : 34 ≤ nc) (M : Mem) (p0 : Int32) (p1 : Int32) (r : Int32) (M' : Mem) (h : f_X6_box N M p0 p1 = some (r, M')) (d : Nat) (hd : 2 ≤ d) : Ct l d yX6_box cX6_box 4 (some .int) shp nc [.ref 0, .int p0, .int p1] M (some (.int r)) M' := by
  obtain ⟨d, rfl⟩ : ∃ q, d = q + 1 := ⟨d - 1, by omega⟩
  unfold f_X6_box at h
  refine Ct.of (by decide +kernel) (Nat.le_of_ble_eq_true rfl) ?_
  intro p e s m args below meth c A ad D cI cJ X hr
  refine r_sub (ls' := [(0, .ref 0), (1, .int p0), (2, .int p1)]) [0, 1, 2] rfl ?_
  refine r_iload_n X 1 dX6_box_0 rfl rfl ?_
  refine r_iflt X 10 dX6_box_1 (by decide) (fun c1 => ?_) (fun c1 => ?_)
  · replace h := it_t c1 h
    refine r_aload_n X 0 dX6_box_10 rfl rfl ?_
    refine r_iconst X (-1) dX6_box_11 rfl ?_
    obtain ⟨r3, M2, h4, h⟩ := bd2_ex h
    refine r_callV X (st := []) (av := [.int (-1 : Int32)]) (k := 0) (ci := 5) (k_X6_refuse l N _ hnc _ _ _ _ h4 d (by omega)) (fitR_s (Nat.le_of_ble_eq_true rfl)) ⟨Nat.le_refl 0, Nat.le_refl 0⟩ rfl (ltn hnc rfl) rfl w_284 w_39 w_283 w_1 w_281 hy_X6_refuse rfl (Nat.le_of_ble_eq_true rfl) dX6_box_12 ?_
    exact r_iretE X hr dX6_box_15 h
  · replace h := it_f c1 h
    refine r_iload_n X 1 dX6_box_4 rfl rfl ?_
    refine r_bipush X 7 dX6_box_5 rfl ?_
    refine r_iclt X 16 dX6_box_7 (by decide) (fun c5 => ?_) (fun c5 => ?_)
    · replace h := it_t c5 h
      refine r_iload_n X 2 dX6_box_16 rfl rfl ?_
      refine r_ifge X 27 dX6_box_17 (by decide) (fun c6 => ?_) (fun c6 => ?_)
      · replace h := it_t c6 h
        refine r_iload_n X 2 dX6_box_27 rfl rfl ?_
        refine r_bipush X 9 dX6_box_28 rfl ?_
        refine r_icle X 40 dX6_box_30 (by decide) (fun c7 => ?_) (fun c7 => ?_)
        · replace h := it_t c7 h
          refine r_aload_n X 0 dX6_box_40 rfl rfl ?_
          refine r_getr X 0 1 in_X6 (ci := 5) rfl rfl (ltn hnc rfl) (Nat.le_of_ble_eq_true rfl) rfl w_240 dX6_box_41 (by decide) ?_
          refine r_getr X 0 2 in_X0 (ci := 0) rfl rfl (ltn hnc rfl) (Nat.le_of_ble_eq_true rfl) rfl w_76 dX6_box_44 (by decide) ?_
          refine r_iload_n X 1 dX6_box_47 rfl rfl ?_
          obtain ⟨r9, M8, h10, h⟩ := bd2_ex h
          refine r_callS X (st := []) (av := [.ref 2, .int p0]) (k_X6_at l N _ _ _ _ _ (Or.inl (ltn hnc rfl)) _ _ h10 d (by omega)) (fitR_s (Nat.le_of_ble_eq_true rfl)) ⟨Nat.le_refl 0, Nat.le_refl 0⟩ w_71 w_39 w_70 w_69 hy_X6_at rfl (Nat.le_of_ble_eq_true rfl) dX6_box_48 ?_
          refine r_istore_n X [(3, .int r9), (0, .ref 0), (1, .int p0), (2, .int p1)] dX6_box_51 rfl (Nat.le_of_ble_eq_true rfl) rfl ?_
          refine r_aload_n X 1 dX6_box_52 rfl rfl ?_
          refine r_getr X 0 1 in_X6 (ci := 5) rfl rfl (ltn hnc rfl) (Nat.le_of_ble_eq_true rfl) rfl w_240 dX6_box_53 (by decide) ?_
          refine r_getr X 0 2 in_X0 (ci := 0) rfl rfl (ltn hnc rfl) (Nat.le_of_ble_eq_true rfl) rfl w_76 dX6_box_56 (by decide) ?_
          refine r_iload_n X 2 dX6_box_59 rfl rfl ?_
          refine r_iload_n X 3 dX6_box_60 rfl rfl ?_
          obtain ⟨M11, h12, h⟩ := bd_ex h
          refine r_callS X (st := []) (av := [.ref 2, .int p0, .int p1]) (k_X6_put l N _ _ _ _ _ _ (Or.inl (ltn hnc rfl)) _ h12 d (by omega)) (fitR_s (Nat.le_of_ble_eq_true rfl)) ⟨Nat.le_refl 0, Nat.le_refl 0⟩ w_287 w_39 w_286 w_285 hy_X6_put rfl (Nat.le_of_ble_eq_true rfl) dX6_box_61 ?_
          refine r_iload_n X 0 dX6_box_64 rfl rfl ?_
          exact r_iretE X hr dX6_box_65 h
        · replace h := it_f c7 h
          refine r_aload_n X 0 dX6_box_33 rfl rfl ?_
          refine r_bipush X (-6) dX6_box_34 rfl ?_
          obtain ⟨r14, M13, h15, h⟩ := bd2_ex h
          refine r_callV X (st := []) (av := [.int (-6 : Int32)]) (k := 0) (ci := 5) (k_X6_refuse l N _ hnc _ _ _ _ h15 d (by omega)) (fitR_s (Nat.le_of_ble_eq_true rfl)) ⟨Nat.le_refl 0, Nat.le_refl 0⟩ rfl (ltn hnc rfl) rfl w_284 w_39 w_283 w_1 w_281 hy_X6_refuse rfl (Nat.le_of_ble_eq_true rfl) dX6_box_36 ?_
          exact r_iretE X hr dX6_box_39 h
      · replace h := it_f c6 h
        refine r_aload_n X 0 dX6_box_20 rfl rfl ?_
        refine r_bipush X (-4) dX6_box_21 rfl ?_
        obtain ⟨r17, M16, h18, h⟩ := bd2_ex h
        refine r_callV X (st := []) (av := [.int (-4 : Int32)]) (k := 0) (ci := 5) (k_X6_refuse l N _ hnc _ _ _ _ h18 d (by omega)) (fitR_s (Nat.le_of_ble_eq_true rfl)) ⟨Nat.le_refl 0, Nat.le_refl 0⟩ rfl (ltn hnc rfl) rfl w_284 w_39 w_283 w_1 w_281 hy_X6_refuse rfl (Nat.le_of_ble_eq_true rfl) dX6_box_23 ?_
        exact r_iretE X hr dX6_box_26 h
    · replace h := it_f c5 h
      refine r_aload_n X 0 dX6_box_10 rfl rfl ?_
      refine r_iconst X (-1) dX6_box_11 rfl ?_
      obtain ⟨r20, M19, h21, h⟩ := bd2_ex h
      refine r_callV X (st := []) (av := [.int (-1 : Int32)]) (k := 0) (ci := 5) (k_X6_refuse l N _ hnc _ _ _ _ h21 d (by omega)) (fitR_s (Nat.le_of_ble_eq_true rfl)) ⟨Nat.le_refl 0, Nat.le_refl 0⟩ rfl (ltn hnc rfl) rfl w_284 w_39 w_283 w_1 w_281 hy_X6_refuse rfl (Nat.le_of_ble_eq_true rfl) dX6_box_12 ?_
      exact r_iretE X hr dX6_box_15 h
def f_X7_isIn (N : Nat) (M : Mem) (p0 : Int32) (p1 : Int32) : Option (Int32 × Mem) :=
  if p0 < 0 then
    (some ((0 : Int32), M))
  else
    (if p1 ≤ p0 then
      (some ((0 : Int32), M))
    else
      (some ((1 : Int32), M)))
set_option maxRecDepth 100000 in
set_option maxHeartbeats 4000000 in
theorem k_X7_isIn (l : Launch) (N : Nat) (nc : Nat) (hnc : 45 ≤ nc) (M : Mem) (p0 : Int32) (p1 : Int32) (r : Int32) (M' : Mem) (h : f_X7_isIn N M p0 p1 = some (r, M')) (d : Nat) (hd : 0 ≤ d) : Ct l d yX7_isIn cX7_isIn 2 (some .boolean) shp nc [.int p0, .int p1] M (some (.int r)) M' := by
  unfold f_X7_isIn at h
  refine Ct.of (by decide +kernel) (Nat.le_of_ble_eq_true rfl) ?_
  intro p e s m args below meth c A ad D cI cJ X hr
  refine r_sub (ls' := [(0, .int p0), (1, .int p1)]) [0, 1] rfl ?_
  refine r_iload_n X 0 dX7_isIn_0 rfl rfl ?_
  refine r_iflt X 13 dX7_isIn_1 (by decide) (fun c1 => ?_) (fun c1 => ?_)
  · replace h := it_t c1 h
    refine r_iconst X 0 dX7_isIn_13 rfl ?_
    exact r_zretE X hr rfl dX7_isIn_14 h
  · replace h := it_f c1 h
    refine r_iload_n X 0 dX7_isIn_4 rfl rfl ?_
    refine r_iload_n X 1 dX7_isIn_5 rfl rfl ?_
    refine r_icge X 13 dX7_isIn_6 (by decide) (fun c2 => ?_) (fun c2 => ?_)
    · replace h := it_t c2 h
      refine r_iconst X 0 dX7_isIn_13 rfl ?_
      exact r_zretE X hr rfl dX7_isIn_14 h
    · replace h := it_f c2 h
      refine r_iconst X 1 dX7_isIn_9 rfl ?_
      refine r_goto X 14 dX7_isIn_10 (by decide) ?_
      exact r_zretE X hr rfl dX7_isIn_14 h
def f_X7_within (N : Nat) (M : Mem) (p0 : Int32) (p1 : Int32) (p2 : Int32) : Option (Int32 × Mem) :=
  if p1 ≤ p0 then
    (if p0 ≤ p2 then
      (some ((0 : Int32), M))
    else
      (some ((-6 : Int32), M)))
  else
    (some ((-4 : Int32), M))
set_option maxRecDepth 100000 in
set_option maxHeartbeats 4000000 in
theorem k_X7_within (l : Launch) (N : Nat) (nc : Nat) (hnc : 45 ≤ nc) (M : Mem) (p0 : Int32) (p1 : Int32) (p2 : Int32) (r : Int32) (M' : Mem) (h : f_X7_within N M p0 p1 p2 = some (r, M')) (d : Nat) (hd : 0 ≤ d) : Ct l d yX7_within cX7_within 3 (some .int) shp nc [.int p0, .int p1, .int p2] M (some (.int r)) M' := by
  unfold f_X7_within at h
  refine Ct.of (by decide +kernel) (Nat.le_of_ble_eq_true rfl) ?_
  intro p e s m args below meth c A ad D cI cJ X hr
  refine r_sub (ls' := [(0, .int p0), (1, .int p1), (2, .int p2)]) [0, 1, 2] rfl ?_
  refine r_iload_n X 0 dX7_within_0 rfl rfl ?_
  refine r_iload_n X 1 dX7_within_1 rfl rfl ?_
  refine r_icge X 10 dX7_within_2 (by decide) (fun c1 => ?_) (fun c1 => ?_)
  · replace h := it_t c1 h
    refine r_iload_n X 0 dX7_within_10 rfl rfl ?_
    refine r_iload_n X 2 dX7_within_11 rfl rfl ?_
    refine r_icle X 20 dX7_within_12 (by decide) (fun c2 => ?_) (fun c2 => ?_)
    · replace h := it_t c2 h
      refine r_iconst X 0 dX7_within_20 rfl ?_
      exact r_iretE X hr dX7_within_21 h
    · replace h := it_f c2 h
      refine r_bipush X (-6) dX7_within_15 rfl ?_
      refine r_goto X 21 dX7_within_17 (by decide) ?_
      exact r_iretE X hr dX7_within_21 h
  · replace h := it_f c1 h
    refine r_bipush X (-4) dX7_within_5 rfl ?_
    refine r_goto X 21 dX7_within_7 (by decide) ?_
    exact r_iretE X hr dX7_within_21 h
def f_X7_box (N : Nat) (M : Mem) (p0 : Int32) (p1 : Int32) : Option (Int32 × Mem) :=
  bd2 (f_X7_isIn N M p0 (7 : Int32)) fun r2 M1 =>
  if r2 = 0 then
    (bd2 (f_X7_refuse N M1 (-1 : Int32)) fun r7 M6 =>
    some (r7, M6))
  else
    (bd2 (f_X7_within N M1 p1 (0 : Int32) (9 : Int32)) fun r10 M9 =>
    if r10 = 0 then
      (ck (inb p0 56) <|
      nm (M9.1 36 (ix p0)) fun x14 =>
      ck (inb p0 56) <|
      nm (seI M9 36 (ix p0) p1) fun M16 =>
      some (x14, M16))
    else
      (bd2 (f_X7_refuse N M9 r10) fun r18 M17 =>
      some (r18, M17)))
set_option maxRecDepth 100000 in
set_option maxHeartbeats 4000000 in
theorem k_X7_box (l : Launch) (N : Nat) (nc : Nat) (hnc : 45 ≤ nc) (M : Mem) (p0 : Int32) (p1 : Int32) (r : Int32) (M' : Mem) (h : f_X7_box N M p0 p1 = some (r, M')) (d : Nat) (hd : 1 ≤ d) : Ct l d yX7_box cX7_box 5 (some .int) shp nc [.ref 34, .int p0, .int p1] M (some (.int r)) M' := by
  obtain ⟨d, rfl⟩ : ∃ q, d = q + 1 := ⟨d - 1, by omega⟩
  unfold f_X7_box at h
  refine Ct.of (by decide +kernel) (Nat.le_of_ble_eq_true rfl) ?_
  intro p e s m args below meth c A ad D cI cJ X hr
  refine r_sub (ls' := [(0, .ref 34), (1, .int p0), (2, .int p1)]) [0, 1, 2] rfl ?_
  refine r_iload_n X 1 dX7_box_0 rfl rfl ?_
  refine r_bipush X 7 dX7_box_1 rfl ?_
  obtain ⟨r2, M1, h3, h⟩ := bd2_ex h
  refine r_callS X (st := []) (av := [.int p0, .int (7 : Int32)]) (k_X7_isIn l N _ hnc _ _ _ _ _ h3 d (by omega)) (fitR_s (Nat.le_of_ble_eq_true rfl)) ⟨Nat.le_refl 0, Nat.le_refl 0⟩ w_704 w_47 w_703 w_702 hy_X7_isIn rfl (Nat.le_of_ble_eq_true rfl) dX7_box_3 ?_
  refine r_ifeq X 19 dX7_box_6 (by decide) (fun c4 => ?_) (fun c4 => ?_)
  · replace h := it_t c4 h
    refine r_iconst X (-1) dX7_box_19 rfl ?_
    refine r_istore_n X [(3, .int (-1 : Int32)), (0, .ref 34), (1, .int p0), (2, .int p1)] dX7_box_20 rfl (Nat.le_of_ble_eq_true rfl) rfl ?_
    refine r_iload_n X 0 dX7_box_21 rfl rfl ?_
    refine r_ifeq X 31 dX7_box_22 (by decide) (fun c5 => ?_) (fun c5 => ?_)
    · exact absurd c5 (by decide)
    refine r_aload_n X 1 dX7_box_25 rfl rfl ?_
    refine r_iload_n X 0 dX7_box_26 rfl rfl ?_
    obtain ⟨r7, M6, h8, h⟩ := bd2_ex h
    refine r_callV X (st := []) (av := [.int (-1 : Int32)]) (k := 34) (ci := 6) (k_X7_refuse l N _ hnc _ _ _ _ h8 d (by omega)) (fitR_s (Nat.le_of_ble_eq_true rfl)) ⟨Nat.le_refl 0, Nat.le_refl 0⟩ rfl (ltn hnc rfl) rfl w_689 w_47 w_688 w_18 w_686 hy_X7_refuse rfl (Nat.le_of_ble_eq_true rfl) dX7_box_27 ?_
    exact r_iretE X hr dX7_box_30 h
  · replace h := it_f c4 h
    refine r_iload_n X 2 dX7_box_9 rfl rfl ?_
    refine r_iconst X 0 dX7_box_10 rfl ?_
    refine r_bipush X 9 dX7_box_11 rfl ?_
    obtain ⟨r10, M9, h11, h⟩ := bd2_ex h
    refine r_callS X (st := []) (av := [.int p1, .int (0 : Int32), .int (9 : Int32)]) (k_X7_within l N _ hnc _ _ _ _ _ _ h11 d (by omega)) (fitR_s (Nat.le_of_ble_eq_true rfl)) ⟨Nat.le_refl 0, Nat.le_refl 0⟩ w_707 w_47 w_706 w_705 hy_X7_within rfl (Nat.le_of_ble_eq_true rfl) dX7_box_13 ?_
    refine r_goto X 20 dX7_box_16 (by decide) ?_
    refine r_istore_n X [(3, .int r10), (0, .ref 34), (1, .int p0), (2, .int p1)] dX7_box_20 rfl (Nat.le_of_ble_eq_true rfl) rfl ?_
    refine r_iload_n X 0 dX7_box_21 rfl rfl ?_
    refine r_ifeq X 31 dX7_box_22 (by decide) (fun c12 => ?_) (fun c12 => ?_)
    · replace h := it_t c12 h
      refine r_aload_n X 1 dX7_box_31 rfl rfl ?_
      refine r_getr X 1 36 in_X7 (ci := 6) rfl rfl (ltn hnc rfl) (Nat.le_of_ble_eq_true rfl) rfl w_610 dX7_box_32 (by decide) ?_
      refine r_iload_n X 2 dX7_box_35 rfl rfl ?_
      obtain ⟨c13, h⟩ := ck_ex h
      refine r_iald X (n := 56) rfl (Or.inl (ltn hnc rfl)) c13 dX7_box_36 ?_
      obtain ⟨x14, ex14, h⟩ := nm_ex h
      refine r_top ex14 ?_
      refine r_istore X [(4, .int x14), (3, .int r10), (0, .ref 34), (1, .int p0), (2, .int p1)] dX7_box_37 (Nat.le_of_ble_eq_true rfl) rfl ?_
      refine r_aload_n X 2 dX7_box_39 rfl rfl ?_
      refine r_getr X 1 36 in_X7 (ci := 6) rfl rfl (ltn hnc rfl) (Nat.le_of_ble_eq_true rfl) rfl w_610 dX7_box_40 (by decide) ?_
      refine r_iload_n X 3 dX7_box_43 rfl rfl ?_
      refine r_iload_n X 4 dX7_box_44 rfl rfl ?_
      obtain ⟨c15, h⟩ := ck_ex h
      obtain ⟨M16, eM16, h⟩ := nm_ex h
      refine r_iast X (n := 56) rfl (ltn hnc rfl) c15 dX7_box_45 ?_
      refine r_mem eM16 ?_
      refine r_iload X 0 dX7_box_46 rfl ?_
      exact r_iretE X hr dX7_box_48 h
    · replace h := it_f c12 h
      refine r_aload_n X 1 dX7_box_25 rfl rfl ?_
      refine r_iload_n X 0 dX7_box_26 rfl rfl ?_
      obtain ⟨r18, M17, h19, h⟩ := bd2_ex h
      refine r_callV X (st := []) (av := [.int r10]) (k := 34) (ci := 6) (k_X7_refuse l N _ hnc _ _ _ _ h19 d (by omega)) (fitR_s (Nat.le_of_ble_eq_true rfl)) ⟨Nat.le_refl 0, Nat.le_refl 0⟩ rfl (ltn hnc rfl) rfl w_689 w_47 w_688 w_18 w_686 hy_X7_refuse rfl (Nat.le_of_ble_eq_true rfl) dX7_box_27 ?_
      exact r_iretE X hr dX7_box_30 h
def f_J6_compare_7cf53 (N : Nat) (M : Mem) (p0 : Int32) (p1 : Int32) : Option (Int32 × Mem) :=
  if p1 ≤ p0 then
    (if p0 = p1 then
      (some ((0 : Int32), M))
    else
      (some ((1 : Int32), M)))
  else
    (some ((-1 : Int32), M))
set_option maxRecDepth 100000 in
set_option maxHeartbeats 4000000 in
theorem k_J6_compare_7cf53 (l : Launch) (N : Nat) (nc : Nat) (hnc : 34 ≤ nc) (M : Mem) (p0 : Int32) (p1 : Int32) (r : Int32) (M' : Mem) (h : f_J6_compare_7cf53 N M p0 p1 = some (r, M')) (d : Nat) (hd : 0 ≤ d) : Ct l d yJ6_compare_7cf53 cJ6_compare_7cf53 2 (some .int) shp nc [.int p0, .int p1] M (some (.int r)) M' := by
  unfold f_J6_compare_7cf53 at h
  refine Ct.of (by decide +kernel) (Nat.le_of_ble_eq_true rfl) ?_
  intro p e s m args below meth c A ad D cI cJ X hr
  refine r_sub (ls' := [(0, .int p0), (1, .int p1)]) [0, 1] rfl ?_
  refine r_iload_n X 0 dJ6_compare_7cf53_0 rfl rfl ?_
  refine r_iload_n X 1 dJ6_compare_7cf53_1 rfl rfl ?_
  refine r_icge X 9 dJ6_compare_7cf53_2 (by decide) (fun c1 => ?_) (fun c1 => ?_)
  · replace h := it_t c1 h
    refine r_iload_n X 0 dJ6_compare_7cf53_9 rfl rfl ?_
    refine r_iload_n X 1 dJ6_compare_7cf53_10 rfl rfl ?_
    refine r_icne X 18 dJ6_compare_7cf53_11 (by decide) (fun c2 => ?_) (fun c2 => ?_)
    · replace h := it_f c2 h
      refine r_iconst X 1 dJ6_compare_7cf53_18 rfl ?_
      exact r_iretE X hr dJ6_compare_7cf53_19 h
    · replace h := it_t c2 h
      refine r_iconst X 0 dJ6_compare_7cf53_14 rfl ?_
      refine r_goto X 19 dJ6_compare_7cf53_15 (by decide) ?_
      exact r_iretE X hr dJ6_compare_7cf53_19 h
  · replace h := it_f c1 h
    refine r_iconst X (-1) dJ6_compare_7cf53_5 rfl ?_
    refine r_goto X 19 dJ6_compare_7cf53_6 (by decide) ?_
    exact r_iretE X hr dJ6_compare_7cf53_19 h
def f_X2_place (N : Nat) (M : Mem) (p0 : Int64) (p1 : Int64) (p2 : Int64) (p3 : Int64) : Option (Int64 × Mem) :=
  some ((((shl64 p0 (48 : Int32)) + (shl64 p1 (32 : Int32))) + (shl64 p2 (16 : Int32))) + p3, M)
set_option maxRecDepth 100000 in
set_option maxHeartbeats 4000000 in
theorem k_X2_place (l : Launch) (N : Nat) (nc : Nat) (hnc : 34 ≤ nc) (M : Mem) (p0 : Int64) (p1 : Int64) (p2 : Int64) (p3 : Int64) (r : Int64) (M' : Mem) (h : f_X2_place N M p0 p1 p2 p3 = some (r, M')) (d : Nat) (hd : 0 ≤ d) : Ct l d yX2_place cX2_place 8 (some .long) shp nc [.long p0, .long p1, .long p2, .long p3] M (some (.long r)) M' := by
  unfold f_X2_place at h
  refine Ct.of (by decide +kernel) (Nat.le_of_ble_eq_true rfl) ?_
  intro p e s m args below meth c A ad D cI cJ X hr
  refine r_sub (ls' := [(0, .long p0), (2, .long p1), (4, .long p2), (6, .long p3)]) [0, 1, 2, 3] rfl ?_
  refine r_lload_n X 0 dX2_place_0 rfl rfl ?_
  refine r_bipush X 48 dX2_place_1 rfl ?_
  refine r_lshl X dX2_place_3 ?_
  refine r_lload_n X 1 dX2_place_4 rfl rfl ?_
  refine r_bipush X 32 dX2_place_5 rfl ?_
  refine r_lshl X dX2_place_7 ?_
  refine r_ladd X dX2_place_8 ?_
  refine r_lload X 2 dX2_place_9 rfl ?_
  refine r_bipush X 16 dX2_place_11 rfl ?_
  refine r_lshl X dX2_place_13 ?_
  refine r_ladd X dX2_place_14 ?_
  refine r_lload X 3 dX2_place_15 rfl ?_
  refine r_ladd X dX2_place_17 ?_
  exact r_lretE X hr dX2_place_18 h
def f_X6_putPlace (sh : Nat → Shp) (N : Nat) (M : Mem) (a0 : Nat) (p1 : Int32) (p2 : Int64) : Option Mem :=
  if p1 < 0 then
    (some M)
  else
    (bd (laL sh a0) fun n2 =>
    if (Int32.ofNat n2) ≤ p1 then
      (some M)
    else
      (ck (inb p1 n2) <|
      nm (seL M a0 (ix p1) p2) fun M5 =>
      some M5))
set_option maxRecDepth 100000 in
set_option maxHeartbeats 4000000 in
theorem k_X6_putPlace (l : Launch) (N : Nat) (sh : Nat → Shp) (nc : Nat) (M : Mem) (a0 : Nat) (p1 : Int32) (p2 : Int64) (ha0 : a0 < nc ∨ 45 ≤ a0) (M' : Mem) (h : f_X6_putPlace sh N M a0 p1 p2 = some M') (d : Nat) (hd : 0 ≤ d) : Ct l d yX6_putPlace cX6_putPlace 4 none sh nc [.ref a0, .int p1, .long p2] M none M' := by
  unfold f_X6_putPlace at h
  refine Ct.of (by decide +kernel) (Nat.le_of_ble_eq_true rfl) ?_
  intro p e s m args below meth c A ad D cI cJ X hr
  refine r_sub (ls' := [(0, .ref a0), (1, .int p1), (2, .long p2)]) [0, 1, 2] rfl ?_
  refine r_iload_n X 1 dX6_putPlace_0 rfl rfl ?_
  refine r_iflt X 14 dX6_putPlace_1 (by decide) (fun c1 => ?_) (fun c1 => ?_)
  · replace h := it_t c1 h
    exact r_vretE X hr dX6_putPlace_14 h
  · replace h := it_f c1 h
    refine r_iload_n X 1 dX6_putPlace_4 rfl rfl ?_
    refine r_aload_n X 0 dX6_putPlace_5 rfl rfl ?_
    obtain ⟨n2, en2, h⟩ := bd_ex h
    refine r_lalen X en2 ha0 rfl dX6_putPlace_6 ?_
    refine r_icge X 14 dX6_putPlace_7 (by decide) (fun c3 => ?_) (fun c3 => ?_)
    · replace h := it_t c3 h
      exact r_vretE X hr dX6_putPlace_14 h
    · replace h := it_f c3 h
      refine r_aload_n X 0 dX6_putPlace_10 rfl rfl ?_
      refine r_iload_n X 1 dX6_putPlace_11 rfl rfl ?_
      refine r_lload_n X 2 dX6_putPlace_12 rfl rfl ?_
      obtain ⟨c4, h⟩ := ck_ex h
      obtain ⟨M5, eM5, h⟩ := nm_ex h
      refine r_last X en2 ha0 c4 dX6_putPlace_13 ?_
      refine r_mem eM5 ?_
      exact r_vretE X hr dX6_putPlace_14 h
def l_X1_measureLetter_77 (N : Nat)    : Nat → Mem → Int32 → Int32 → Int32 → Int32 → Int32 → Int32 → Option Mem
  | 0, _, _, _, _, _, _, _ => none
  | n + 1, M, v1, v6, v7, v8, v9, v10 =>
    if (8 : Int32) ≤ v10 then
      (some M)
    else
      (bd2 (f_X2_place N M (Int32.toInt64 v6) (Int32.toInt64 v7) (Int32.toInt64 v8) (Int32.toInt64 v9)) fun r11 M10 =>
      bd (f_X6_putPlace shp N M10 16 ((v10 * (10 : Int32)) + v1) r11) fun M13 =>
      nm ((v6 - v8) / (2 : Int32)) fun x15 =>
      nm ((v6 + v8) / (2 : Int32)) fun x16 =>
      l_X1_measureLetter_77 N n M13 v1 (v7 - v9) x15 (v7 + v9) x16 (v10 + 1))
def f_X1_measureLetter (N : Nat) (M : Mem) (p0 : Int32) (p1 : Int32) (p2 : Int32) : Option Mem :=
  bd2 (f_J6_compare_7cf53 N M p1 (0 : Int32)) fun r2 M1 =>
  if p1 = (1 : Int32) then
    (nm ((r2 * (2 : Int32)) * p2) fun x7 =>
    l_X1_measureLetter_77 N N M1 p0 (0 : Int32) p2 x7 ((-r2) * p2) (0 : Int32))
  else
    (if p1 = (-1 : Int32) then
      (nm ((r2 * (2 : Int32)) * p2) fun x25 =>
      l_X1_measureLetter_77 N N M1 p0 (0 : Int32) p2 x25 ((-r2) * p2) (0 : Int32))
    else
      (nm ((2 : Int32) * p2) fun x19 =>
      nm ((r2 * (2 : Int32)) * p2) fun x21 =>
      l_X1_measureLetter_77 N N M1 p0 x19 (0 : Int32) x21 (0 : Int32) (0 : Int32)))
set_option maxRecDepth 100000 in
set_option maxHeartbeats 4000000 in
theorem k_X1_measureLetter (l : Launch) (N : Nat) (nc : Nat) (hnc : 34 ≤ nc) (M : Mem) (p0 : Int32) (p1 : Int32) (p2 : Int32) (M' : Mem) (h : f_X1_measureLetter N M p0 p1 p2 = some M') (d : Nat) (hd : 1 ≤ d) : Ct l d yX1_measureLetter cX1_measureLetter 15 none shp nc [.ref 15, .int p0, .int p1, .int p2] M none M' := by
  obtain ⟨d, rfl⟩ : ∃ q, d = q + 1 := ⟨d - 1, by omega⟩
  unfold f_X1_measureLetter at h
  refine Ct.of (by decide +kernel) (Nat.le_of_ble_eq_true rfl) ?_
  intro p e s m args below meth c A ad D cI cJ X hr
  have hl77 : ∀ (n : Nat) (M : Mem) (v1 : Int32) (v6 : Int32) (v7 : Int32) (v8 : Int32) (v9 : Int32) (v10 : Int32), l_X1_measureLetter_77 N n M v1 v6 v7 v8 v9 v10 = some M' → AW p l e (rmd (d + 1)) s m args below meth c 15 A ad D cI cJ shp nc 0 0 (MQ below (Qq A ad D cI cJ shp nc none M') args s 0 0 A) M 77 [(0, .ref 15), (1, .int v1), (6, .int v6), (7, .int v7), (8, .int v8), (9, .int v9), (10, .int v10)] [] := by
    intro n
    induction n with
    | zero => intro M v1 v6 v7 v8 v9 v10 h; cases h
    | succ n ih =>
      intro M v1 v6 v7 v8 v9 v10 h
      rw [l_X1_measureLetter_77] at h
      refine r_iload X 6 dX1_measureLetter_77 rfl ?_
      refine r_bipush X 8 dX1_measureLetter_79 rfl ?_
      refine r_icge X 163 dX1_measureLetter_81 (by decide) (fun c9 => ?_) (fun c9 => ?_)
      · replace h := it_t c9 h
        exact r_vretE X hr dX1_measureLetter_163 h
      · replace h := it_f c9 h
        refine r_iload X 2 dX1_measureLetter_84 rfl ?_
        refine r_i2l X dX1_measureLetter_86 ?_
        refine r_iload X 3 dX1_measureLetter_87 rfl ?_
        refine r_i2l X dX1_measureLetter_89 ?_
        refine r_iload X 4 dX1_measureLetter_90 rfl ?_
        refine r_i2l X dX1_measureLetter_92 ?_
        refine r_iload X 5 dX1_measureLetter_93 rfl ?_
        refine r_i2l X dX1_measureLetter_95 ?_
        obtain ⟨r11, M10, h12, h⟩ := bd2_ex h
        refine r_callS X (st := []) (av := [.long (Int32.toInt64 v6), .long (Int32.toInt64 v7), .long (Int32.toInt64 v8), .long (Int32.toInt64 v9)]) (k_X2_place l N _ hnc _ _ _ _ _ _ _ h12 d (by omega)) (fitR_s (Nat.le_of_ble_eq_true rfl)) ⟨Nat.le_refl 0, Nat.le_refl 0⟩ w_236 w_46 w_235 w_234 hy_X2_place rfl (Nat.le_of_ble_eq_true rfl) dX1_measureLetter_96 ?_
        refine r_lstore X [(11, .long r11), (0, .ref 15), (1, .int v1), (6, .int v6), (7, .int v7), (8, .int v8), (9, .int v9), (10, .int v10)] dX1_measureLetter_99 (Nat.le_of_ble_eq_true rfl) rfl ?_
        refine r_aload_n X 1 dX1_measureLetter_101 rfl rfl ?_
        refine r_getr X 0 16 in_X1 (ci := 1) rfl rfl (ltn hnc rfl) (Nat.le_of_ble_eq_true rfl) rfl w_115 dX1_measureLetter_102 (by decide) ?_
        refine r_iload X 7 dX1_measureLetter_105 rfl ?_
        refine r_bipush X 10 dX1_measureLetter_107 rfl ?_
        refine r_imul X dX1_measureLetter_109 ?_
        refine r_iload_n X 2 dX1_measureLetter_110 rfl rfl ?_
        refine r_iadd X dX1_measureLetter_111 ?_
        refine r_lload X 0 dX1_measureLetter_112 rfl ?_
        obtain ⟨M13, h14, h⟩ := bd_ex h
        refine r_callSN X (st := []) (av := [.ref 16, .int ((v10 * (10 : Int32)) + v1), .long r11]) (k_X6_putPlace l N _ _ _ _ _ _ (Or.inl (ltn hnc rfl)) _ h14 d (by omega)) (fitR_s (Nat.le_of_ble_eq_true rfl)) ⟨Nat.le_refl 0, Nat.le_refl 0⟩ w_239 w_39 w_238 w_237 hy_X6_putPlace rfl (Nat.le_of_ble_eq_true rfl) dX1_measureLetter_114 ?_
        refine r_iload X 4 dX1_measureLetter_117 rfl ?_
        refine r_iload X 6 dX1_measureLetter_119 rfl ?_
        refine r_isub X dX1_measureLetter_121 ?_
        refine r_istore X [(13, .int (v7 - v9)), (11, .long r11), (0, .ref 15), (1, .int v1), (6, .int v6), (7, .int v7), (8, .int v8), (9, .int v9), (10, .int v10)] dX1_measureLetter_122 (Nat.le_of_ble_eq_true rfl) rfl ?_
        refine r_iload X 5 dX1_measureLetter_124 rfl ?_
        refine r_iload X 7 dX1_measureLetter_126 rfl ?_
        refine r_iadd X dX1_measureLetter_128 ?_
        refine r_istore X [(14, .int (v7 + v9)), (13, .int (v7 - v9)), (11, .long r11), (0, .ref 15), (1, .int v1), (6, .int v6), (7, .int v7), (8, .int v8), (9, .int v9), (10, .int v10)] dX1_measureLetter_129 (Nat.le_of_ble_eq_true rfl) rfl ?_
        refine r_iload X 5 dX1_measureLetter_131 rfl ?_
        refine r_iload X 7 dX1_measureLetter_133 rfl ?_
        refine r_isub X dX1_measureLetter_135 ?_
        refine r_iconst X 2 dX1_measureLetter_136 rfl ?_
        refine r_idiv X (by decide) dX1_measureLetter_137 ?_
        obtain ⟨x15, ex15, h⟩ := nm_ex h
        refine r_top ex15 ?_
        refine r_istore X [(7, .int x15), (14, .int (v7 + v9)), (13, .int (v7 - v9)), (11, .long r11), (0, .ref 15), (1, .int v1), (6, .int v6), (8, .int v8), (9, .int v9), (10, .int v10)] dX1_measureLetter_138 (Nat.le_of_ble_eq_true rfl) rfl ?_
        refine r_iload X 6 dX1_measureLetter_140 rfl ?_
        refine r_iload X 7 dX1_measureLetter_142 rfl ?_
        refine r_iadd X dX1_measureLetter_144 ?_
        refine r_iconst X 2 dX1_measureLetter_145 rfl ?_
        refine r_idiv X (by decide) dX1_measureLetter_146 ?_
        obtain ⟨x16, ex16, h⟩ := nm_ex h
        refine r_top ex16 ?_
        refine r_istore X [(9, .int x16), (7, .int x15), (14, .int (v7 + v9)), (13, .int (v7 - v9)), (11, .long r11), (0, .ref 15), (1, .int v1), (6, .int v6), (8, .int v8), (10, .int v10)] dX1_measureLetter_147 (Nat.le_of_ble_eq_true rfl) rfl ?_
        refine r_iload X 3 dX1_measureLetter_149 rfl ?_
        refine r_istore X [(6, .int (v7 - v9)), (9, .int x16), (7, .int x15), (14, .int (v7 + v9)), (13, .int (v7 - v9)), (11, .long r11), (0, .ref 15), (1, .int v1), (8, .int v8), (10, .int v10)] dX1_measureLetter_151 (Nat.le_of_ble_eq_true rfl) rfl ?_
        refine r_iload X 3 dX1_measureLetter_153 rfl ?_
        refine r_istore X [(8, .int (v7 + v9)), (6, .int (v7 - v9)), (9, .int x16), (7, .int x15), (14, .int (v7 + v9)), (13, .int (v7 - v9)), (11, .long r11), (0, .ref 15), (1, .int v1), (10, .int v10)] dX1_measureLetter_155 (Nat.le_of_ble_eq_true rfl) rfl ?_
        refine r_iinc X [(10, .int (v10 + 1)), (8, .int (v7 + v9)), (6, .int (v7 - v9)), (9, .int x16), (7, .int x15), (14, .int (v7 + v9)), (13, .int (v7 - v9)), (11, .long r11), (0, .ref 15), (1, .int v1)] 9 (v10 + 1) dX1_measureLetter_157 rfl rfl (Nat.le_of_ble_eq_true rfl) rfl ?_
        refine r_goto X 77 dX1_measureLetter_160 (by decide) ?_
        refine r_sub (ls' := [(0, .ref 15), (1, .int v1), (6, .int (v7 - v9)), (7, .int x15), (8, .int (v7 + v9)), (9, .int x16), (10, .int (v10 + 1))]) [8, 9, 2, 4, 1, 3, 0] rfl ?_
        exact ih M13 v1 (v7 - v9) x15 (v7 + v9) x16 (v10 + 1) h
  refine r_sub (ls' := [(0, .ref 15), (1, .int p0), (2, .int p1), (3, .int p2)]) [0, 1, 2, 3] rfl ?_
  refine r_iload_n X 2 dX1_measureLetter_0 rfl rfl ?_
  refine r_iconst X 0 dX1_measureLetter_1 rfl ?_
  obtain ⟨r2, M1, h3, h⟩ := bd2_ex h
  refine r_callS X (st := []) (av := [.int p1, .int (0 : Int32)]) (k_J6_compare_7cf53 l N _ hnc _ _ _ _ _ h3 d (by omega)) (fitR_s (Nat.le_of_ble_eq_true rfl)) ⟨Nat.le_refl 0, Nat.le_refl 0⟩ w_233 w_45 w_232 w_231 hy_J6_compare_7cf53 rfl (Nat.le_of_ble_eq_true rfl) dX1_measureLetter_2 ?_
  refine r_istore X [(4, .int r2), (0, .ref 15), (1, .int p0), (2, .int p1), (3, .int p2)] dX1_measureLetter_5 (Nat.le_of_ble_eq_true rfl) rfl ?_
  refine r_iload_n X 3 dX1_measureLetter_7 rfl rfl ?_
  refine r_iconst X 1 dX1_measureLetter_8 rfl ?_
  refine r_iceq X 17 dX1_measureLetter_9 (by decide) (fun c4 => ?_) (fun c4 => ?_)
  · replace h := it_t c4 h
    refine r_iconst X 1 dX1_measureLetter_17 rfl ?_
    refine r_goto X 22 dX1_measureLetter_18 (by decide) ?_
    refine r_istore X [(5, .int (1 : Int32)), (4, .int r2), (0, .ref 15), (1, .int p0), (2, .int p1), (3, .int p2)] dX1_measureLetter_22 (Nat.le_of_ble_eq_true rfl) rfl ?_
    refine r_iload X 0 dX1_measureLetter_24 rfl ?_
    refine r_ifeq X 33 dX1_measureLetter_26 (by decide) (fun c5 => ?_) (fun c5 => ?_)
    · exact absurd c5 (by decide)
    refine r_iconst X 0 dX1_measureLetter_29 rfl ?_
    refine r_goto X 36 dX1_measureLetter_30 (by decide) ?_
    refine r_istore X [(6, .int (0 : Int32)), (5, .int (1 : Int32)), (4, .int r2), (0, .ref 15), (1, .int p0), (2, .int p1), (3, .int p2)] dX1_measureLetter_36 (Nat.le_of_ble_eq_true rfl) rfl ?_
    refine r_iload X 1 dX1_measureLetter_38 rfl ?_
    refine r_ifeq X 47 dX1_measureLetter_40 (by decide) (fun c6 => ?_) (fun c6 => ?_)
    · exact absurd c6 (by decide)
    refine r_iload_n X 6 dX1_measureLetter_43 rfl rfl ?_
    refine r_goto X 48 dX1_measureLetter_44 (by decide) ?_
    refine r_istore X [(7, .int p2), (6, .int (0 : Int32)), (5, .int (1 : Int32)), (4, .int r2), (0, .ref 15), (1, .int p0), (2, .int p1), (3, .int p2)] dX1_measureLetter_48 (Nat.le_of_ble_eq_true rfl) rfl ?_
    refine r_iload X 3 dX1_measureLetter_50 rfl ?_
    refine r_iconst X 2 dX1_measureLetter_52 rfl ?_
    refine r_imul X dX1_measureLetter_53 ?_
    refine r_iload_n X 7 dX1_measureLetter_54 rfl rfl ?_
    refine r_imul X dX1_measureLetter_55 ?_
    obtain ⟨x7, ex7, h⟩ := nm_ex h
    refine r_top ex7 ?_
    refine r_istore X [(8, .int x7), (7, .int p2), (6, .int (0 : Int32)), (5, .int (1 : Int32)), (4, .int r2), (0, .ref 15), (1, .int p0), (2, .int p1), (3, .int p2)] dX1_measureLetter_56 (Nat.le_of_ble_eq_true rfl) rfl ?_
    refine r_iload X 3 dX1_measureLetter_58 rfl ?_
    refine r_ifeq X 71 dX1_measureLetter_60 (by decide) (fun c8 => ?_) (fun c8 => ?_)
    · exact absurd c8 (by decide)
    refine r_iload X 4 dX1_measureLetter_63 rfl ?_
    refine r_ineg X dX1_measureLetter_65 ?_
    refine r_iload_n X 8 dX1_measureLetter_66 rfl rfl ?_
    refine r_imul X dX1_measureLetter_67 ?_
    refine r_goto X 72 dX1_measureLetter_68 (by decide) ?_
    refine r_istore X [(9, .int ((-r2) * p2)), (8, .int x7), (7, .int p2), (6, .int (0 : Int32)), (5, .int (1 : Int32)), (4, .int r2), (0, .ref 15), (1, .int p0), (2, .int p1), (3, .int p2)] dX1_measureLetter_72 (Nat.le_of_ble_eq_true rfl) rfl ?_
    refine r_iconst X 0 dX1_measureLetter_74 rfl ?_
    refine r_istore X [(10, .int (0 : Int32)), (9, .int ((-r2) * p2)), (8, .int x7), (7, .int p2), (6, .int (0 : Int32)), (5, .int (1 : Int32)), (4, .int r2), (0, .ref 15), (1, .int p0), (2, .int p1), (3, .int p2)] dX1_measureLetter_75 (Nat.le_of_ble_eq_true rfl) rfl ?_
    refine r_sub (ls' := [(0, .ref 15), (1, .int p0), (6, .int (0 : Int32)), (7, .int p2), (8, .int x7), (9, .int ((-r2) * p2)), (10, .int (0 : Int32))]) [7, 8, 4, 3, 2, 1, 0] rfl ?_
    exact hl77  N M1 p0 (0 : Int32) p2 x7 ((-r2) * p2) (0 : Int32) h
  · replace h := it_f c4 h
    refine r_iload_n X 3 dX1_measureLetter_12 rfl rfl ?_
    refine r_iconst X (-1) dX1_measureLetter_13 rfl ?_
    refine r_icne X 21 dX1_measureLetter_14 (by decide) (fun c17 => ?_) (fun c17 => ?_)
    · replace h := it_f c17 h
      refine r_iconst X 0 dX1_measureLetter_21 rfl ?_
      refine r_istore X [(5, .int (0 : Int32)), (4, .int r2), (0, .ref 15), (1, .int p0), (2, .int p1), (3, .int p2)] dX1_measureLetter_22 (Nat.le_of_ble_eq_true rfl) rfl ?_
      refine r_iload X 0 dX1_measureLetter_24 rfl ?_
      refine r_ifeq X 33 dX1_measureLetter_26 (by decide) (fun c18 => ?_) (fun c18 => ?_)
      rotate_left
      · exact absurd c18 (by decide)
      refine r_iconst X 2 dX1_measureLetter_33 rfl ?_
      refine r_iload_n X 5 dX1_measureLetter_34 rfl rfl ?_
      refine r_imul X dX1_measureLetter_35 ?_
      obtain ⟨x19, ex19, h⟩ := nm_ex h
      refine r_top ex19 ?_
      refine r_istore X [(6, .int x19), (5, .int (0 : Int32)), (4, .int r2), (0, .ref 15), (1, .int p0), (2, .int p1), (3, .int p2)] dX1_measureLetter_36 (Nat.le_of_ble_eq_true rfl) rfl ?_
      refine r_iload X 1 dX1_measureLetter_38 rfl ?_
      refine r_ifeq X 47 dX1_measureLetter_40 (by decide) (fun c20 => ?_) (fun c20 => ?_)
      rotate_left
      · exact absurd c20 (by decide)
      refine r_iconst X 0 dX1_measureLetter_47 rfl ?_
      refine r_istore X [(7, .int (0 : Int32)), (6, .int x19), (5, .int (0 : Int32)), (4, .int r2), (0, .ref 15), (1, .int p0), (2, .int p1), (3, .int p2)] dX1_measureLetter_48 (Nat.le_of_ble_eq_true rfl) rfl ?_
      refine r_iload X 3 dX1_measureLetter_50 rfl ?_
      refine r_iconst X 2 dX1_measureLetter_52 rfl ?_
      refine r_imul X dX1_measureLetter_53 ?_
      refine r_iload_n X 7 dX1_measureLetter_54 rfl rfl ?_
      refine r_imul X dX1_measureLetter_55 ?_
      obtain ⟨x21, ex21, h⟩ := nm_ex h
      refine r_top ex21 ?_
      refine r_istore X [(8, .int x21), (7, .int (0 : Int32)), (6, .int x19), (5, .int (0 : Int32)), (4, .int r2), (0, .ref 15), (1, .int p0), (2, .int p1), (3, .int p2)] dX1_measureLetter_56 (Nat.le_of_ble_eq_true rfl) rfl ?_
      refine r_iload X 3 dX1_measureLetter_58 rfl ?_
      refine r_ifeq X 71 dX1_measureLetter_60 (by decide) (fun c22 => ?_) (fun c22 => ?_)
      rotate_left
      · exact absurd c22 (by decide)
      refine r_iconst X 0 dX1_measureLetter_71 rfl ?_
      refine r_istore X [(9, .int (0 : Int32)), (8, .int x21), (7, .int (0 : Int32)), (6, .int x19), (5, .int (0 : Int32)), (4, .int r2), (0, .ref 15), (1, .int p0), (2, .int p1), (3, .int p2)] dX1_measureLetter_72 (Nat.le_of_ble_eq_true rfl) rfl ?_
      refine r_iconst X 0 dX1_measureLetter_74 rfl ?_
      refine r_istore X [(10, .int (0 : Int32)), (9, .int (0 : Int32)), (8, .int x21), (7, .int (0 : Int32)), (6, .int x19), (5, .int (0 : Int32)), (4, .int r2), (0, .ref 15), (1, .int p0), (2, .int p1), (3, .int p2)] dX1_measureLetter_75 (Nat.le_of_ble_eq_true rfl) rfl ?_
      refine r_sub (ls' := [(0, .ref 15), (1, .int p0), (6, .int x19), (7, .int (0 : Int32)), (8, .int x21), (9, .int (0 : Int32)), (10, .int (0 : Int32))]) [7, 8, 4, 3, 2, 1, 0] rfl ?_
      exact hl77  N M1 p0 x19 (0 : Int32) x21 (0 : Int32) (0 : Int32) h
    · replace h := it_t c17 h
      refine r_iconst X 1 dX1_measureLetter_17 rfl ?_
      refine r_goto X 22 dX1_measureLetter_18 (by decide) ?_
      refine r_istore X [(5, .int (1 : Int32)), (4, .int r2), (0, .ref 15), (1, .int p0), (2, .int p1), (3, .int p2)] dX1_measureLetter_22 (Nat.le_of_ble_eq_true rfl) rfl ?_
      refine r_iload X 0 dX1_measureLetter_24 rfl ?_
      refine r_ifeq X 33 dX1_measureLetter_26 (by decide) (fun c23 => ?_) (fun c23 => ?_)
      · exact absurd c23 (by decide)
      refine r_iconst X 0 dX1_measureLetter_29 rfl ?_
      refine r_goto X 36 dX1_measureLetter_30 (by decide) ?_
      refine r_istore X [(6, .int (0 : Int32)), (5, .int (1 : Int32)), (4, .int r2), (0, .ref 15), (1, .int p0), (2, .int p1), (3, .int p2)] dX1_measureLetter_36 (Nat.le_of_ble_eq_true rfl) rfl ?_
      refine r_iload X 1 dX1_measureLetter_38 rfl ?_
      refine r_ifeq X 47 dX1_measureLetter_40 (by decide) (fun c24 => ?_) (fun c24 => ?_)
      · exact absurd c24 (by decide)
      refine r_iload_n X 6 dX1_measureLetter_43 rfl rfl ?_
      refine r_goto X 48 dX1_measureLetter_44 (by decide) ?_
      refine r_istore X [(7, .int p2), (6, .int (0 : Int32)), (5, .int (1 : Int32)), (4, .int r2), (0, .ref 15), (1, .int p0), (2, .int p1), (3, .int p2)] dX1_measureLetter_48 (Nat.le_of_ble_eq_true rfl) rfl ?_
      refine r_iload X 3 dX1_measureLetter_50 rfl ?_
      refine r_iconst X 2 dX1_measureLetter_52 rfl ?_
      refine r_imul X dX1_measureLetter_53 ?_
      refine r_iload_n X 7 dX1_measureLetter_54 rfl rfl ?_
      refine r_imul X dX1_measureLetter_55 ?_
      obtain ⟨x25, ex25, h⟩ := nm_ex h
      refine r_top ex25 ?_
      refine r_istore X [(8, .int x25), (7, .int p2), (6, .int (0 : Int32)), (5, .int (1 : Int32)), (4, .int r2), (0, .ref 15), (1, .int p0), (2, .int p1), (3, .int p2)] dX1_measureLetter_56 (Nat.le_of_ble_eq_true rfl) rfl ?_
      refine r_iload X 3 dX1_measureLetter_58 rfl ?_
      refine r_ifeq X 71 dX1_measureLetter_60 (by decide) (fun c26 => ?_) (fun c26 => ?_)
      · exact absurd c26 (by decide)
      refine r_iload X 4 dX1_measureLetter_63 rfl ?_
      refine r_ineg X dX1_measureLetter_65 ?_
      refine r_iload_n X 8 dX1_measureLetter_66 rfl rfl ?_
      refine r_imul X dX1_measureLetter_67 ?_
      refine r_goto X 72 dX1_measureLetter_68 (by decide) ?_
      refine r_istore X [(9, .int ((-r2) * p2)), (8, .int x25), (7, .int p2), (6, .int (0 : Int32)), (5, .int (1 : Int32)), (4, .int r2), (0, .ref 15), (1, .int p0), (2, .int p1), (3, .int p2)] dX1_measureLetter_72 (Nat.le_of_ble_eq_true rfl) rfl ?_
      refine r_iconst X 0 dX1_measureLetter_74 rfl ?_
      refine r_istore X [(10, .int (0 : Int32)), (9, .int ((-r2) * p2)), (8, .int x25), (7, .int p2), (6, .int (0 : Int32)), (5, .int (1 : Int32)), (4, .int r2), (0, .ref 15), (1, .int p0), (2, .int p1), (3, .int p2)] dX1_measureLetter_75 (Nat.le_of_ble_eq_true rfl) rfl ?_
      refine r_sub (ls' := [(0, .ref 15), (1, .int p0), (6, .int (0 : Int32)), (7, .int p2), (8, .int x25), (9, .int ((-r2) * p2)), (10, .int (0 : Int32))]) [7, 8, 4, 3, 2, 1, 0] rfl ?_
      exact hl77  N M1 p0 (0 : Int32) p2 x25 ((-r2) * p2) (0 : Int32) h
def l_X1_measure_2 (N : Nat)   (a0 : Nat) : Nat → Mem → Int32 → Option Mem
  | 0, _, _ => none
  | n + 1, M, v2 =>
    if (10 : Int32) ≤ v2 then
      (some M)
    else
      (bd2 (f_X6_at shp N M 47 v2) fun r3 M2 =>
      bd2 (f_X6_at shp N M2 46 v2) fun r6 M5 =>
      bd2 (f_X6_at shp N M5 a0 r6) fun r9 M8 =>
      bd (f_X1_measureLetter N M8 v2 r3 r9) fun M11 =>
      l_X1_measure_2 N a0 n M11 (v2 + 1))
def f_X1_measure (N : Nat) (M : Mem) (a0 : Nat) : Option Mem :=
  l_X1_measure_2 N a0 N M (0 : Int32)
set_option maxRecDepth 100000 in
set_option maxHeartbeats 4000000 in
theorem k_X1_measure (l : Launch) (N : Nat) (nc : Nat) (hnc : 34 ≤ nc) (M : Mem) (a0 : Nat) (ha0 : a0 < nc ∨ 45 ≤ a0) (M' : Mem) (h : f_X1_measure N M a0 = some M') (d : Nat) (hd : 2 ≤ d) : Ct l d yX1_measure cX1_measure 3 none shp nc [.ref 15, .ref a0] M none M' := by
  obtain ⟨d, rfl⟩ : ∃ q, d = q + 1 := ⟨d - 1, by omega⟩
  unfold f_X1_measure at h
  refine Ct.of (by decide +kernel) (Nat.le_of_ble_eq_true rfl) ?_
  intro p e s m args below meth c A ad D cI cJ X hr
  have hl2 : ∀ (n : Nat) (M : Mem) (v2 : Int32), l_X1_measure_2 N a0 n M v2 = some M' → AW p l e (rmd (d + 1)) s m args below meth c 3 A ad D cI cJ shp nc 0 0 (MQ below (Qq A ad D cI cJ shp nc none M') args s 0 0 A) M 2 [(0, .ref 15), (1, .ref a0), (2, .int v2)] [] := by
    intro n
    induction n with
    | zero => intro M v2 h; cases h
    | succ n ih =>
      intro M v2 h
      rw [l_X1_measure_2] at h
      refine r_iload_n X 2 dX1_measure_2 rfl rfl ?_
      refine r_bipush X 10 dX1_measure_3 rfl ?_
      refine r_icge X 37 dX1_measure_5 (by decide) (fun c1 => ?_) (fun c1 => ?_)
      · replace h := it_t c1 h
        exact r_vretE X hr dX1_measure_37 h
      · replace h := it_f c1 h
        refine r_aload_n X 0 dX1_measure_8 rfl rfl ?_
        refine r_iload_n X 2 dX1_measure_9 rfl rfl ?_
        refine r_getsN X 2 (Nat.le_of_ble_eq_true rfl) w_222 dX1_measure_10 ?_
        refine r_iload_n X 2 dX1_measure_13 rfl rfl ?_
        obtain ⟨r3, M2, h4, h⟩ := bd2_ex h
        refine r_callSN X (st := [.int v2, .ref 15]) (av := [.ref 47, .int v2]) (k_X6_at l N _ _ _ _ _ (Or.inr (Nat.le_of_ble_eq_true rfl)) _ _ h4 d (by omega)) (fitR_s (Nat.le_of_ble_eq_true rfl)) ⟨Nat.le_refl 0, Nat.le_refl 0⟩ w_71 w_39 w_70 w_224 hy_X6_at rfl (Nat.le_of_ble_eq_true rfl) dX1_measure_14 ?_
        refine r_aload_n X 1 dX1_measure_17 rfl rfl ?_
        refine r_getsN X 1 (Nat.le_of_ble_eq_true rfl) w_225 dX1_measure_18 ?_
        refine r_iload_n X 2 dX1_measure_21 rfl rfl ?_
        obtain ⟨r6, M5, h7, h⟩ := bd2_ex h
        refine r_callSN X (st := [.ref a0, .int r3, .int v2, .ref 15]) (av := [.ref 46, .int v2]) (k_X6_at l N _ _ _ _ _ (Or.inr (Nat.le_of_ble_eq_true rfl)) _ _ h7 d (by omega)) (fitR_s (Nat.le_of_ble_eq_true rfl)) ⟨Nat.le_refl 0, Nat.le_refl 0⟩ w_71 w_39 w_70 w_224 hy_X6_at rfl (Nat.le_of_ble_eq_true rfl) dX1_measure_22 ?_
        obtain ⟨r9, M8, h10, h⟩ := bd2_ex h
        refine r_callSN X (st := [.int r3, .int v2, .ref 15]) (av := [.ref a0, .int r6]) (k_X6_at l N _ _ _ _ _ ha0 _ _ h10 d (by omega)) (fitR_s (Nat.le_of_ble_eq_true rfl)) ⟨Nat.le_refl 0, Nat.le_refl 0⟩ w_71 w_39 w_70 w_224 hy_X6_at rfl (Nat.le_of_ble_eq_true rfl) dX1_measure_25 ?_
        obtain ⟨M11, h12, h⟩ := bd_ex h
        refine r_callV X (st := []) (av := [.int v2, .int r3, .int r9]) (k := 15) (ci := 1) (k_X1_measureLetter l N _ hnc _ _ _ _ _ h12 d (by omega)) (fitR_s (Nat.le_of_ble_eq_true rfl)) ⟨Nat.le_refl 0, Nat.le_refl 0⟩ rfl (ltn hnc rfl) rfl w_230 w_41 w_229 w_0 w_227 hy_X1_measureLetter rfl (Nat.le_of_ble_eq_true rfl) dX1_measure_28 ?_
        refine r_iinc X [(2, .int (v2 + 1)), (0, .ref 15), (1, .ref a0)] 2 (v2 + 1) dX1_measure_31 rfl rfl (Nat.le_of_ble_eq_true rfl) rfl ?_
        refine r_goto X 2 dX1_measure_34 (by decide) ?_
        refine r_sub (ls' := [(0, .ref 15), (1, .ref a0), (2, .int (v2 + 1))]) [1, 2, 0] rfl ?_
        exact ih M11 (v2 + 1) h
  refine r_sub (ls' := [(0, .ref 15), (1, .ref a0)]) [0, 1] rfl ?_
  refine r_iconst X 0 dX1_measure_0 rfl ?_
  refine r_istore_n X [(2, .int (0 : Int32)), (0, .ref 15), (1, .ref a0)] dX1_measure_1 rfl (Nat.le_of_ble_eq_true rfl) rfl ?_
  refine r_sub (ls' := [(0, .ref 15), (1, .ref a0), (2, .int (0 : Int32))]) [1, 2, 0] rfl ?_
  exact hl2  N M (0 : Int32) h
def f_X3_forget (N : Nat) (M : Mem)  : Option Mem :=
  nm (seI M 21 6 (0 : Int32)) fun M1 =>
  some M1
set_option maxRecDepth 100000 in
set_option maxHeartbeats 4000000 in
theorem k_X3_forget (l : Launch) (N : Nat) (nc : Nat) (hnc : 34 ≤ nc) (M : Mem)  (M' : Mem) (h : f_X3_forget N M  = some M') (d : Nat) (hd : 0 ≤ d) : Ct l d yX3_forget cX3_forget 1 none shp nc [.ref 21] M none M' := by
  unfold f_X3_forget at h
  refine Ct.of (by decide +kernel) (Nat.le_of_ble_eq_true rfl) ?_
  intro p e s m args below meth c A ad D cI cJ X hr
  refine r_sub (ls' := [(0, .ref 21)]) [0] rfl ?_
  refine r_aload_n X 0 dX3_forget_0 rfl rfl ?_
  refine r_iconst X 0 dX3_forget_1 rfl ?_
  obtain ⟨M1, eM1, h⟩ := nm_ex h
  refine r_puti X 6 in_X3 (ci := 2) rfl tyX3_ok nmX3 rfl (ltn hnc rfl) (Nat.le_of_ble_eq_true rfl) rfl w_158 rfl (ty := .boolean) rfl rfl rfl dX3_forget_2 ?_
  refine r_mem eM1 ?_
  exact r_vretE X hr dX3_forget_5 h
def f_X6_measureAnew (N : Nat) (M : Mem)  : Option Mem :=
  bd (f_X1_measure N M 3) fun M1 =>
  bd (f_X3_forget N M1 ) fun M3 =>
  some M3
set_option maxRecDepth 100000 in
set_option maxHeartbeats 4000000 in
theorem k_X6_measureAnew (l : Launch) (N : Nat) (nc : Nat) (hnc : 34 ≤ nc) (M : Mem)  (M' : Mem) (h : f_X6_measureAnew N M  = some M') (d : Nat) (hd : 3 ≤ d) : Ct l d yX6_measureAnew cX6_measureAnew 1 none shp nc [.ref 0] M none M' := by
  obtain ⟨d, rfl⟩ : ∃ q, d = q + 1 := ⟨d - 1, by omega⟩
  unfold f_X6_measureAnew at h
  refine Ct.of (by decide +kernel) (Nat.le_of_ble_eq_true rfl) ?_
  intro p e s m args below meth c A ad D cI cJ X hr
  refine r_sub (ls' := [(0, .ref 0)]) [0] rfl ?_
  refine r_aload_n X 0 dX6_measureAnew_0 rfl rfl ?_
  refine r_getr X 3 15 in_X6 (ci := 5) rfl rfl (ltn hnc rfl) (Nat.le_of_ble_eq_true rfl) rfl w_243 dX6_measureAnew_1 (by decide) ?_
  refine r_aload_n X 0 dX6_measureAnew_4 rfl rfl ?_
  refine r_getr X 0 1 in_X6 (ci := 5) rfl rfl (ltn hnc rfl) (Nat.le_of_ble_eq_true rfl) rfl w_240 dX6_measureAnew_5 (by decide) ?_
  refine r_getr X 1 3 in_X0 (ci := 0) rfl rfl (ltn hnc rfl) (Nat.le_of_ble_eq_true rfl) rfl w_78 dX6_measureAnew_8 (by decide) ?_
  obtain ⟨M1, h2, h⟩ := bd_ex h
  refine r_callV X (st := []) (av := [.ref 3]) (k := 15) (ci := 1) (k_X1_measure l N _ hnc _ _ (Or.inl (ltn hnc rfl)) _ h2 d (by omega)) (fitR_s (Nat.le_of_ble_eq_true rfl)) ⟨Nat.le_refl 0, Nat.le_refl 0⟩ rfl (ltn hnc rfl) rfl w_221 w_41 w_219 w_220 w_218 hy_X1_measure rfl (Nat.le_of_ble_eq_true rfl) dX6_measureAnew_11 ?_
  refine r_aload_n X 0 dX6_measureAnew_14 rfl rfl ?_
  refine r_getr X 5 21 in_X6 (ci := 5) rfl rfl (ltn hnc rfl) (Nat.le_of_ble_eq_true rfl) rfl w_245 dX6_measureAnew_15 (by decide) ?_
  obtain ⟨M3, h4, h⟩ := bd_ex h
  refine r_callV X (st := []) (av := []) (k := 21) (ci := 2) (k_X3_forget l N _ hnc _  _ h4 d (by omega)) (fitR_s (Nat.le_of_ble_eq_true rfl)) ⟨Nat.le_refl 0, Nat.le_refl 0⟩ rfl (ltn hnc rfl) rfl w_318 w_43 w_316 w_317 w_315 hy_X3_forget rfl (Nat.le_of_ble_eq_true rfl) dX6_measureAnew_18 ?_
  exact r_vretE X hr dX6_measureAnew_21 h
def f_X6_size (N : Nat) (M : Mem) (p0 : Int32) (p1 : Int32) : Option (Int32 × Mem) :=
  if p0 < 0 then
    (bd2 (f_X6_refuse N M (-1 : Int32)) fun r3 M2 =>
    some (r3, M2))
  else
    (if p0 < (7 : Int32) then
      (if (1 : Int32) ≤ p1 then
        (if p1 ≤ (20 : Int32) then
          (bd2 (f_X6_at shp N M 3 p0) fun r9 M8 =>
          bd (f_X6_put shp N M8 3 p0 p1) fun M11 =>
          bd (f_X6_measureAnew N M11 ) fun M13 =>
          some (r9, M13))
        else
          (bd2 (f_X6_refuse N M (-6 : Int32)) fun r16 M15 =>
          some (r16, M15)))
      else
        (bd2 (f_X6_refuse N M (-4 : Int32)) fun r19 M18 =>
        some (r19, M18)))
    else
      (bd2 (f_X6_refuse N M (-1 : Int32)) fun r22 M21 =>
      some (r22, M21)))
set_option maxRecDepth 100000 in
set_option maxHeartbeats 4000000 in
theorem k_X6_size (l : Launch) (N : Nat) (nc : Nat) (hnc : 34 ≤ nc) (M : Mem) (p0 : Int32) (p1 : Int32) (r : Int32) (M' : Mem) (h : f_X6_size N M p0 p1 = some (r, M')) (d : Nat) (hd : 4 ≤ d) : Ct l d yX6_size cX6_size 4 (some .int) shp nc [.ref 0, .int p0, .int p1] M (some (.int r)) M' := by
  obtain ⟨d, rfl⟩ : ∃ q, d = q + 1 := ⟨d - 1, by omega⟩
  unfold f_X6_size at h
  refine Ct.of (by decide +kernel) (Nat.le_of_ble_eq_true rfl) ?_
  intro p e s m args below meth c A ad D cI cJ X hr
  refine r_sub (ls' := [(0, .ref 0), (1, .int p0), (2, .int p1)]) [0, 1, 2] rfl ?_
  refine r_iload_n X 1 dX6_size_0 rfl rfl ?_
  refine r_iflt X 10 dX6_size_1 (by decide) (fun c1 => ?_) (fun c1 => ?_)
  · replace h := it_t c1 h
    refine r_aload_n X 0 dX6_size_10 rfl rfl ?_
    refine r_iconst X (-1) dX6_size_11 rfl ?_
    obtain ⟨r3, M2, h4, h⟩ := bd2_ex h
    refine r_callV X (st := []) (av := [.int (-1 : Int32)]) (k := 0) (ci := 5) (k_X6_refuse l N _ hnc _ _ _ _ h4 d (by omega)) (fitR_s (Nat.le_of_ble_eq_true rfl)) ⟨Nat.le_refl 0, Nat.le_refl 0⟩ rfl (ltn hnc rfl) rfl w_284 w_39 w_283 w_1 w_281 hy_X6_refuse rfl (Nat.le_of_ble_eq_true rfl) dX6_size_12 ?_
    exact r_iretE X hr dX6_size_15 h
  · replace h := it_f c1 h
    refine r_iload_n X 1 dX6_size_4 rfl rfl ?_
    refine r_bipush X 7 dX6_size_5 rfl ?_
    refine r_iclt X 16 dX6_size_7 (by decide) (fun c5 => ?_) (fun c5 => ?_)
    · replace h := it_t c5 h
      refine r_iload_n X 2 dX6_size_16 rfl rfl ?_
      refine r_iconst X 1 dX6_size_17 rfl ?_
      refine r_icge X 28 dX6_size_18 (by decide) (fun c6 => ?_) (fun c6 => ?_)
      · replace h := it_t c6 h
        refine r_iload_n X 2 dX6_size_28 rfl rfl ?_
        refine r_bipush X 20 dX6_size_29 rfl ?_
        refine r_icle X 41 dX6_size_31 (by decide) (fun c7 => ?_) (fun c7 => ?_)
        · replace h := it_t c7 h
          refine r_aload_n X 0 dX6_size_41 rfl rfl ?_
          refine r_getr X 0 1 in_X6 (ci := 5) rfl rfl (ltn hnc rfl) (Nat.le_of_ble_eq_true rfl) rfl w_240 dX6_size_42 (by decide) ?_
          refine r_getr X 1 3 in_X0 (ci := 0) rfl rfl (ltn hnc rfl) (Nat.le_of_ble_eq_true rfl) rfl w_78 dX6_size_45 (by decide) ?_
          refine r_iload_n X 1 dX6_size_48 rfl rfl ?_
          obtain ⟨r9, M8, h10, h⟩ := bd2_ex h
          refine r_callS X (st := []) (av := [.ref 3, .int p0]) (k_X6_at l N _ _ _ _ _ (Or.inl (ltn hnc rfl)) _ _ h10 d (by omega)) (fitR_s (Nat.le_of_ble_eq_true rfl)) ⟨Nat.le_refl 0, Nat.le_refl 0⟩ w_71 w_39 w_70 w_69 hy_X6_at rfl (Nat.le_of_ble_eq_true rfl) dX6_size_49 ?_
          refine r_istore_n X [(3, .int r9), (0, .ref 0), (1, .int p0), (2, .int p1)] dX6_size_52 rfl (Nat.le_of_ble_eq_true rfl) rfl ?_
          refine r_aload_n X 1 dX6_size_53 rfl rfl ?_
          refine r_getr X 0 1 in_X6 (ci := 5) rfl rfl (ltn hnc rfl) (Nat.le_of_ble_eq_true rfl) rfl w_240 dX6_size_54 (by decide) ?_
          refine r_getr X 1 3 in_X0 (ci := 0) rfl rfl (ltn hnc rfl) (Nat.le_of_ble_eq_true rfl) rfl w_78 dX6_size_57 (by decide) ?_
          refine r_iload_n X 2 dX6_size_60 rfl rfl ?_
          refine r_iload_n X 3 dX6_size_61 rfl rfl ?_
          obtain ⟨M11, h12, h⟩ := bd_ex h
          refine r_callS X (st := []) (av := [.ref 3, .int p0, .int p1]) (k_X6_put l N _ _ _ _ _ _ (Or.inl (ltn hnc rfl)) _ h12 d (by omega)) (fitR_s (Nat.le_of_ble_eq_true rfl)) ⟨Nat.le_refl 0, Nat.le_refl 0⟩ w_287 w_39 w_286 w_285 hy_X6_put rfl (Nat.le_of_ble_eq_true rfl) dX6_size_62 ?_
          refine r_aload_n X 1 dX6_size_65 rfl rfl ?_
          obtain ⟨M13, h14, h⟩ := bd_ex h
          refine r_callV X (st := []) (av := []) (k := 0) (ci := 5) (k_X6_measureAnew l N _ hnc _  _ h14 d (by omega)) (fitR_s (Nat.le_of_ble_eq_true rfl)) ⟨Nat.le_refl 0, Nat.le_refl 0⟩ rfl (ltn hnc rfl) rfl w_314 w_39 w_313 w_2 w_311 hy_X6_measureAnew rfl (Nat.le_of_ble_eq_true rfl) dX6_size_66 ?_
          refine r_iload_n X 0 dX6_size_69 rfl rfl ?_
          exact r_iretE X hr dX6_size_70 h
        · replace h := it_f c7 h
          refine r_aload_n X 0 dX6_size_34 rfl rfl ?_
          refine r_bipush X (-6) dX6_size_35 rfl ?_
          obtain ⟨r16, M15, h17, h⟩ := bd2_ex h
          refine r_callV X (st := []) (av := [.int (-6 : Int32)]) (k := 0) (ci := 5) (k_X6_refuse l N _ hnc _ _ _ _ h17 d (by omega)) (fitR_s (Nat.le_of_ble_eq_true rfl)) ⟨Nat.le_refl 0, Nat.le_refl 0⟩ rfl (ltn hnc rfl) rfl w_284 w_39 w_283 w_1 w_281 hy_X6_refuse rfl (Nat.le_of_ble_eq_true rfl) dX6_size_37 ?_
          exact r_iretE X hr dX6_size_40 h
      · replace h := it_f c6 h
        refine r_aload_n X 0 dX6_size_21 rfl rfl ?_
        refine r_bipush X (-4) dX6_size_22 rfl ?_
        obtain ⟨r19, M18, h20, h⟩ := bd2_ex h
        refine r_callV X (st := []) (av := [.int (-4 : Int32)]) (k := 0) (ci := 5) (k_X6_refuse l N _ hnc _ _ _ _ h20 d (by omega)) (fitR_s (Nat.le_of_ble_eq_true rfl)) ⟨Nat.le_refl 0, Nat.le_refl 0⟩ rfl (ltn hnc rfl) rfl w_284 w_39 w_283 w_1 w_281 hy_X6_refuse rfl (Nat.le_of_ble_eq_true rfl) dX6_size_24 ?_
        exact r_iretE X hr dX6_size_27 h
    · replace h := it_f c5 h
      refine r_aload_n X 0 dX6_size_10 rfl rfl ?_
      refine r_iconst X (-1) dX6_size_11 rfl ?_
      obtain ⟨r22, M21, h23, h⟩ := bd2_ex h
      refine r_callV X (st := []) (av := [.int (-1 : Int32)]) (k := 0) (ci := 5) (k_X6_refuse l N _ hnc _ _ _ _ h23 d (by omega)) (fitR_s (Nat.le_of_ble_eq_true rfl)) ⟨Nat.le_refl 0, Nat.le_refl 0⟩ rfl (ltn hnc rfl) rfl w_284 w_39 w_283 w_1 w_281 hy_X6_refuse rfl (Nat.le_of_ble_eq_true rfl) dX6_size_12 ?_
      exact r_iretE X hr dX6_size_15 h
def f_X7_size (N : Nat) (M : Mem) (p0 : Int32) (p1 : Int32) : Option (Int32 × Mem) :=
  bd2 (f_X7_isIn N M p0 (7 : Int32)) fun r2 M1 =>
  if r2 = 0 then
    (bd2 (f_X7_refuse N M1 (-1 : Int32)) fun r7 M6 =>
    some (r7, M6))
  else
    (bd2 (f_X7_within N M1 p1 (1 : Int32) (20 : Int32)) fun r10 M9 =>
    if r10 = 0 then
      (ck (inb ((7 : Int32) + p0) 56) <|
      nm (M9.1 36 (ix ((7 : Int32) + p0))) fun x14 =>
      ck (inb ((7 : Int32) + p0) 56) <|
      nm (seI M9 36 (ix ((7 : Int32) + p0)) p1) fun M16 =>
      some (x14, M16))
    else
      (bd2 (f_X7_refuse N M9 r10) fun r18 M17 =>
      some (r18, M17)))
set_option maxRecDepth 100000 in
set_option maxHeartbeats 4000000 in
theorem k_X7_size (l : Launch) (N : Nat) (nc : Nat) (hnc : 45 ≤ nc) (M : Mem) (p0 : Int32) (p1 : Int32) (r : Int32) (M' : Mem) (h : f_X7_size N M p0 p1 = some (r, M')) (d : Nat) (hd : 1 ≤ d) : Ct l d yX7_size cX7_size 5 (some .int) shp nc [.ref 34, .int p0, .int p1] M (some (.int r)) M' := by
  obtain ⟨d, rfl⟩ : ∃ q, d = q + 1 := ⟨d - 1, by omega⟩
  unfold f_X7_size at h
  refine Ct.of (by decide +kernel) (Nat.le_of_ble_eq_true rfl) ?_
  intro p e s m args below meth c A ad D cI cJ X hr
  refine r_sub (ls' := [(0, .ref 34), (1, .int p0), (2, .int p1)]) [0, 1, 2] rfl ?_
  refine r_iload_n X 1 dX7_size_0 rfl rfl ?_
  refine r_bipush X 7 dX7_size_1 rfl ?_
  obtain ⟨r2, M1, h3, h⟩ := bd2_ex h
  refine r_callS X (st := []) (av := [.int p0, .int (7 : Int32)]) (k_X7_isIn l N _ hnc _ _ _ _ _ h3 d (by omega)) (fitR_s (Nat.le_of_ble_eq_true rfl)) ⟨Nat.le_refl 0, Nat.le_refl 0⟩ w_704 w_47 w_703 w_702 hy_X7_isIn rfl (Nat.le_of_ble_eq_true rfl) dX7_size_3 ?_
  refine r_ifeq X 19 dX7_size_6 (by decide) (fun c4 => ?_) (fun c4 => ?_)
  · replace h := it_t c4 h
    refine r_iconst X (-1) dX7_size_19 rfl ?_
    refine r_istore_n X [(3, .int (-1 : Int32)), (0, .ref 34), (1, .int p0), (2, .int p1)] dX7_size_20 rfl (Nat.le_of_ble_eq_true rfl) rfl ?_
    refine r_iload_n X 0 dX7_size_21 rfl rfl ?_
    refine r_ifeq X 31 dX7_size_22 (by decide) (fun c5 => ?_) (fun c5 => ?_)
    · exact absurd c5 (by decide)
    refine r_aload_n X 1 dX7_size_25 rfl rfl ?_
    refine r_iload_n X 0 dX7_size_26 rfl rfl ?_
    obtain ⟨r7, M6, h8, h⟩ := bd2_ex h
    refine r_callV X (st := []) (av := [.int (-1 : Int32)]) (k := 34) (ci := 6) (k_X7_refuse l N _ hnc _ _ _ _ h8 d (by omega)) (fitR_s (Nat.le_of_ble_eq_true rfl)) ⟨Nat.le_refl 0, Nat.le_refl 0⟩ rfl (ltn hnc rfl) rfl w_689 w_47 w_688 w_18 w_686 hy_X7_refuse rfl (Nat.le_of_ble_eq_true rfl) dX7_size_27 ?_
    exact r_iretE X hr dX7_size_30 h
  · replace h := it_f c4 h
    refine r_iload_n X 2 dX7_size_9 rfl rfl ?_
    refine r_iconst X 1 dX7_size_10 rfl ?_
    refine r_bipush X 20 dX7_size_11 rfl ?_
    obtain ⟨r10, M9, h11, h⟩ := bd2_ex h
    refine r_callS X (st := []) (av := [.int p1, .int (1 : Int32), .int (20 : Int32)]) (k_X7_within l N _ hnc _ _ _ _ _ _ h11 d (by omega)) (fitR_s (Nat.le_of_ble_eq_true rfl)) ⟨Nat.le_refl 0, Nat.le_refl 0⟩ w_707 w_47 w_706 w_705 hy_X7_within rfl (Nat.le_of_ble_eq_true rfl) dX7_size_13 ?_
    refine r_goto X 20 dX7_size_16 (by decide) ?_
    refine r_istore_n X [(3, .int r10), (0, .ref 34), (1, .int p0), (2, .int p1)] dX7_size_20 rfl (Nat.le_of_ble_eq_true rfl) rfl ?_
    refine r_iload_n X 0 dX7_size_21 rfl rfl ?_
    refine r_ifeq X 31 dX7_size_22 (by decide) (fun c12 => ?_) (fun c12 => ?_)
    · replace h := it_t c12 h
      refine r_aload_n X 1 dX7_size_31 rfl rfl ?_
      refine r_getr X 1 36 in_X7 (ci := 6) rfl rfl (ltn hnc rfl) (Nat.le_of_ble_eq_true rfl) rfl w_610 dX7_size_32 (by decide) ?_
      refine r_bipush X 7 dX7_size_35 rfl ?_
      refine r_iload_n X 2 dX7_size_37 rfl rfl ?_
      refine r_iadd X dX7_size_38 ?_
      obtain ⟨c13, h⟩ := ck_ex h
      refine r_iald X (n := 56) rfl (Or.inl (ltn hnc rfl)) c13 dX7_size_39 ?_
      obtain ⟨x14, ex14, h⟩ := nm_ex h
      refine r_top ex14 ?_
      refine r_istore X [(4, .int x14), (3, .int r10), (0, .ref 34), (1, .int p0), (2, .int p1)] dX7_size_40 (Nat.le_of_ble_eq_true rfl) rfl ?_
      refine r_aload_n X 2 dX7_size_42 rfl rfl ?_
      refine r_getr X 1 36 in_X7 (ci := 6) rfl rfl (ltn hnc rfl) (Nat.le_of_ble_eq_true rfl) rfl w_610 dX7_size_43 (by decide) ?_
      refine r_bipush X 7 dX7_size_46 rfl ?_
      refine r_iload_n X 3 dX7_size_48 rfl rfl ?_
      refine r_iadd X dX7_size_49 ?_
      refine r_iload_n X 4 dX7_size_50 rfl rfl ?_
      obtain ⟨c15, h⟩ := ck_ex h
      obtain ⟨M16, eM16, h⟩ := nm_ex h
      refine r_iast X (n := 56) rfl (ltn hnc rfl) c15 dX7_size_51 ?_
      refine r_mem eM16 ?_
      refine r_iload X 0 dX7_size_52 rfl ?_
      exact r_iretE X hr dX7_size_54 h
    · replace h := it_f c12 h
      refine r_aload_n X 1 dX7_size_25 rfl rfl ?_
      refine r_iload_n X 0 dX7_size_26 rfl rfl ?_
      obtain ⟨r18, M17, h19, h⟩ := bd2_ex h
      refine r_callV X (st := []) (av := [.int r10]) (k := 34) (ci := 6) (k_X7_refuse l N _ hnc _ _ _ _ h19 d (by omega)) (fitR_s (Nat.le_of_ble_eq_true rfl)) ⟨Nat.le_refl 0, Nat.le_refl 0⟩ rfl (ltn hnc rfl) rfl w_689 w_47 w_688 w_18 w_686 hy_X7_refuse rfl (Nat.le_of_ble_eq_true rfl) dX7_size_27 ?_
      exact r_iretE X hr dX7_size_30 h
