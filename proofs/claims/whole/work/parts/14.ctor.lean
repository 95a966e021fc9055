/-! Part 14: the constructors -/
theorem had_step {ad0 ad ad' : Nat → Nat} {n0 n : Nat} (h : n0 ≤ n) (had : ∀ k, k < n0 ∨ 45 ≤ k → ad k = ad0 k) (had1 : ∀ k, k < n ∨ 45 ≤ k → ad' k = ad k) : ∀ k, k < n0 ∨ 45 ≤ k → ad' k = ad0 k := fun k hk => (had1 k (by omega)).trans (had k hk)
theorem w_17 : Cond.selects RX7 yX7_sizes yX7_sizes ∈ lw_tbl := List.mem_of_getElem? (i := 17) (by decide +kernel)
theorem w_55 : Cond.methodLink RX6 1 Lib.objectInit ∈ lw_tbl := List.mem_of_getElem? (i := 55) (by decide +kernel)
theorem w_56 : Cond.instanceMethod Lib.objectInit ∈ lw_tbl := List.mem_of_getElem? (i := 56) (by decide +kernel)
theorem w_57 : Cond.code Lib.objectInit ⟨#[0xb1]⟩ 1 none ∈ lw_tbl := List.mem_of_getElem? (i := 57) (by decide +kernel)
theorem w_58 : Cond.classLink RX6 7 RX0 ∈ lw_tbl := List.mem_of_getElem? (i := 58) (by decide +kernel)
theorem w_59 : Cond.instantiable RX0 8 ∈ lw_tbl := List.mem_of_getElem? (i := 59) (by decide +kernel)
theorem w_60 : Cond.methodLink RX6 9 yX0_init ∈ lw_tbl := List.mem_of_getElem? (i := 60) (by decide +kernel)
theorem w_61 : Cond.instanceMethod yX0_init ∈ lw_tbl := List.mem_of_getElem? (i := 61) (by decide +kernel)
theorem w_62 : Cond.code yX0_init cX0_init 1 none ∈ lw_tbl := List.mem_of_getElem? (i := 62) (by decide +kernel)
theorem w_63 : Cond.methodLink RX0 3 Lib.objectInit ∈ lw_tbl := List.mem_of_getElem? (i := 63) (by decide +kernel)
theorem w_64 : Cond.fieldLinkNest RX0 30 "TrackBox" "FIRST_SIZES" "[I" RX6 ∈ lw_tbl := List.mem_of_getElem? (i := 64) (by decide +kernel)
theorem w_72 : Cond.fieldLinkNest RX0 37 "TrackBox" "FIRST_SIDES" "[I" RX6 ∈ lw_tbl := List.mem_of_getElem? (i := 72) (by decide +kernel)
theorem w_109 : Cond.classLink RX6 19 RX1 ∈ lw_tbl := List.mem_of_getElem? (i := 109) (by decide +kernel)
theorem w_110 : Cond.instantiable RX1 1 ∈ lw_tbl := List.mem_of_getElem? (i := 110) (by decide +kernel)
theorem w_111 : Cond.methodLinkNest RX6 21 yX1_init RX6 ∈ lw_tbl := List.mem_of_getElem? (i := 111) (by decide +kernel)
theorem w_112 : Cond.instanceMethod yX1_init ∈ lw_tbl := List.mem_of_getElem? (i := 112) (by decide +kernel)
theorem w_113 : Cond.code yX1_init cX1_init 1 none ∈ lw_tbl := List.mem_of_getElem? (i := 113) (by decide +kernel)
theorem w_114 : Cond.methodLink RX1 3 Lib.objectInit ∈ lw_tbl := List.mem_of_getElem? (i := 114) (by decide +kernel)
theorem w_120 : Cond.classLink RX6 26 RX5 ∈ lw_tbl := List.mem_of_getElem? (i := 120) (by decide +kernel)
theorem w_121 : Cond.instantiable RX5 5 ∈ lw_tbl := List.mem_of_getElem? (i := 121) (by decide +kernel)
theorem w_122 : Cond.methodLink RX6 28 yX5_init ∈ lw_tbl := List.mem_of_getElem? (i := 122) (by decide +kernel)
theorem w_123 : Cond.instanceMethod yX5_init ∈ lw_tbl := List.mem_of_getElem? (i := 123) (by decide +kernel)
theorem w_124 : Cond.code yX5_init cX5_init 2 none ∈ lw_tbl := List.mem_of_getElem? (i := 124) (by decide +kernel)
theorem w_125 : Cond.methodLink RX5 3 Lib.objectInit ∈ lw_tbl := List.mem_of_getElem? (i := 125) (by decide +kernel)
theorem w_146 : Cond.classLink RX6 35 RX3 ∈ lw_tbl := List.mem_of_getElem? (i := 146) (by decide +kernel)
theorem w_147 : Cond.instantiable RX3 10 ∈ lw_tbl := List.mem_of_getElem? (i := 147) (by decide +kernel)
theorem w_148 : Cond.methodLink RX6 37 yX3_init ∈ lw_tbl := List.mem_of_getElem? (i := 148) (by decide +kernel)
theorem w_149 : Cond.instanceMethod yX3_init ∈ lw_tbl := List.mem_of_getElem? (i := 149) (by decide +kernel)
theorem w_150 : Cond.code yX3_init cX3_init 4 none ∈ lw_tbl := List.mem_of_getElem? (i := 150) (by decide +kernel)
theorem w_151 : Cond.methodLink RX3 3 Lib.objectInit ∈ lw_tbl := List.mem_of_getElem? (i := 151) (by decide +kernel)
theorem w_186 : Cond.classLink RX6 44 RX4 ∈ lw_tbl := List.mem_of_getElem? (i := 186) (by decide +kernel)
theorem w_187 : Cond.instantiable RX4 8 ∈ lw_tbl := List.mem_of_getElem? (i := 187) (by decide +kernel)
theorem w_188 : Cond.methodLink RX6 46 yX4_init ∈ lw_tbl := List.mem_of_getElem? (i := 188) (by decide +kernel)
theorem w_189 : Cond.instanceMethod yX4_init ∈ lw_tbl := List.mem_of_getElem? (i := 189) (by decide +kernel)
theorem w_190 : Cond.code yX4_init cX4_init 3 none ∈ lw_tbl := List.mem_of_getElem? (i := 190) (by decide +kernel)
theorem w_191 : Cond.methodLink RX4 3 Lib.objectInit ∈ lw_tbl := List.mem_of_getElem? (i := 191) (by decide +kernel)
theorem w_604 : Cond.methodLink RX7 1 Lib.objectInit ∈ lw_tbl := List.mem_of_getElem? (i := 604) (by decide +kernel)
theorem w_605 : Cond.methodLink RX7 40 yX7_sizes ∈ lw_tbl := List.mem_of_getElem? (i := 605) (by decide +kernel)
theorem w_607 : Cond.instanceMethod yX7_sizes ∈ lw_tbl := List.mem_of_getElem? (i := 607) (by decide +kernel)
theorem w_608 : Cond.code yX7_sizes cX7_sizes 5 none ∈ lw_tbl := List.mem_of_getElem? (i := 608) (by decide +kernel)
theorem hy_X0_init : yX0_init.cls ≠ "java/lang/invoke/MethodHandle" ∧ yX0_init.cls ≠ "java/lang/invoke/VarHandle" ∧ (parseMethodDescriptor yX0_init.desc).map (fun d => d.parameters.length) = some 0 := by decide +kernel
theorem hy_X1_init : yX1_init.cls ≠ "java/lang/invoke/MethodHandle" ∧ yX1_init.cls ≠ "java/lang/invoke/VarHandle" ∧ (parseMethodDescriptor yX1_init.desc).map (fun d => d.parameters.length) = some 0 := by decide +kernel
theorem hy_X3_init : yX3_init.cls ≠ "java/lang/invoke/MethodHandle" ∧ yX3_init.cls ≠ "java/lang/invoke/VarHandle" ∧ (parseMethodDescriptor yX3_init.desc).map (fun d => d.parameters.length) = some 3 := by decide +kernel
theorem hy_X4_init : yX4_init.cls ≠ "java/lang/invoke/MethodHandle" ∧ yX4_init.cls ≠ "java/lang/invoke/VarHandle" ∧ (parseMethodDescriptor yX4_init.desc).map (fun d => d.parameters.length) = some 2 := by decide +kernel
theorem hy_X5_init : yX5_init.cls ≠ "java/lang/invoke/MethodHandle" ∧ yX5_init.cls ≠ "java/lang/invoke/VarHandle" ∧ (parseMethodDescriptor yX5_init.desc).map (fun d => d.parameters.length) = some 1 := by decide +kernel
theorem hy_X7_sizes : yX7_sizes.cls ≠ "java/lang/invoke/MethodHandle" ∧ yX7_sizes.cls ≠ "java/lang/invoke/VarHandle" ∧ (parseMethodDescriptor yX7_sizes.desc).map (fun d => d.parameters.length) = some 4 := by decide +kernel
def f_X7_sizes (N : Nat) (M : Mem) (p0 : Int32) (p1 : Int32) (p2 : Int32) (p3 : Int32) : Option Mem :=
  nm (seI M 36 (ix (7 : Int32)) p0) fun M1 =>
  nm (seI M1 36 (ix (8 : Int32)) p1) fun M2 =>
  nm (seI M2 36 (ix (9 : Int32)) p2) fun M3 =>
  nm (seI M3 36 (ix (10 : Int32)) p3) fun M4 =>
  some M4
set_option maxRecDepth 100000 in
set_option maxHeartbeats 4000000 in
theorem k_X7_sizes (l : Launch) (N : Nat) (nc : Nat) (hnc : 45 ≤ nc) (M : Mem) (p0 : Int32) (p1 : Int32) (p2 : Int32) (p3 : Int32) (M' : Mem) (h : f_X7_sizes N M p0 p1 p2 p3 = some M') (d : Nat) (hd : 0 ≤ d) : Ct l d yX7_sizes cX7_sizes 5 none shp nc [.ref 34, .int p0, .int p1, .int p2, .int p3] M none M' := by
  unfold f_X7_sizes at h
  refine Ct.of (by decide +kernel) (Nat.le_of_ble_eq_true rfl) ?_
  intro p e s m args below meth c A ad D cI cJ X hr
  refine r_sub (ls' := [(0, .ref 34), (1, .int p0), (2, .int p1), (3, .int p2), (4, .int p3)]) [0, 1, 2, 3, 4] rfl ?_
  refine r_aload_n X 0 dX7_sizes_0 rfl rfl ?_
  refine r_getr X 1 36 in_X7 (ci := 6) rfl rfl (ltn hnc rfl) (Nat.le_of_ble_eq_true rfl) rfl w_610 dX7_sizes_1 (by decide) ?_
  refine r_bipush X 7 dX7_sizes_4 rfl ?_
  refine r_iload_n X 1 dX7_sizes_6 rfl rfl ?_
  obtain ⟨M1, eM1, h⟩ := nm_ex h
  refine r_iast X (n := 56) rfl (ltn hnc rfl) (by decide) dX7_sizes_7 ?_
  refine r_mem eM1 ?_
  refine r_aload_n X 0 dX7_sizes_8 rfl rfl ?_
  refine r_getr X 1 36 in_X7 (ci := 6) rfl rfl (ltn hnc rfl) (Nat.le_of_ble_eq_true rfl) rfl w_610 dX7_sizes_9 (by decide) ?_
  refine r_bipush X 8 dX7_sizes_12 rfl ?_
  refine r_iload_n X 2 dX7_sizes_14 rfl rfl ?_
  obtain ⟨M2, eM2, h⟩ := nm_ex h
  refine r_iast X (n := 56) rfl (ltn hnc rfl) (by decide) dX7_sizes_15 ?_
  refine r_mem eM2 ?_
  refine r_aload_n X 0 dX7_sizes_16 rfl rfl ?_
  refine r_getr X 1 36 in_X7 (ci := 6) rfl rfl (ltn hnc rfl) (Nat.le_of_ble_eq_true rfl) rfl w_610 dX7_sizes_17 (by decide) ?_
  refine r_bipush X 9 dX7_sizes_20 rfl ?_
  refine r_iload_n X 3 dX7_sizes_22 rfl rfl ?_
  obtain ⟨M3, eM3, h⟩ := nm_ex h
  refine r_iast X (n := 56) rfl (ltn hnc rfl) (by decide) dX7_sizes_23 ?_
  refine r_mem eM3 ?_
  refine r_aload_n X 0 dX7_sizes_24 rfl rfl ?_
  refine r_getr X 1 36 in_X7 (ci := 6) rfl rfl (ltn hnc rfl) (Nat.le_of_ble_eq_true rfl) rfl w_610 dX7_sizes_25 (by decide) ?_
  refine r_bipush X 10 dX7_sizes_28 rfl ?_
  refine r_iload X 4 dX7_sizes_30 rfl ?_
  obtain ⟨M4, eM4, h⟩ := nm_ex h
  refine r_iast X (n := 56) rfl (ltn hnc rfl) (by decide) dX7_sizes_32 ?_
  refine r_mem eM4 ?_
  exact r_vretE X hr dX7_sizes_33 h
def tb_0 : List Shp := [.inl (5, [.inl 999, .inl 999, .inr false, .inl 999, .inl 999, .inl 999, .inl 999, .inl 999, .inr false, .inl 999, .inr false, .inl 999])]
def tb_1 : List Shp := [.inl (5, [.inl 999, .inl 999, .inr false, .inl 999, .inl 999, .inl 999, .inl 999, .inl 999, .inr false, .inl 999, .inr false, .inl 999]), .inl (0, [.inl 999, .inl 999, .inl 999, .inr false, .inl 999, .inl 999, .inl 999, .inr false])]
def tb_2 : List Shp := [.inl (5, [.inl 999, .inl 999, .inr false, .inl 999, .inl 999, .inl 999, .inl 999, .inl 999, .inr false, .inl 999, .inr false, .inl 999]), .inl (0, [.inl 999, .inl 999, .inl 999, .inr false, .inl 999, .inl 999, .inl 999, .inr false]), .inr (false, 7)]
def tb_3 : List Shp := [.inl (5, [.inl 999, .inl 999, .inr false, .inl 999, .inl 999, .inl 999, .inl 999, .inl 999, .inr false, .inl 999, .inr false, .inl 999]), .inl (0, [.inl 2, .inl 999, .inl 999, .inr false, .inl 999, .inl 999, .inl 999, .inr false]), .inr (false, 7)]
def tb_4 : List Shp := [.inl (5, [.inl 999, .inl 999, .inr false, .inl 999, .inl 999, .inl 999, .inl 999, .inl 999, .inr false, .inl 999, .inr false, .inl 999]), .inl (0, [.inl 2, .inl 999, .inl 999, .inr false, .inl 999, .inl 999, .inl 999, .inr false]), .inr (false, 7), .inr (false, 7)]
def tb_5 : List Shp := [.inl (5, [.inl 999, .inl 999, .inr false, .inl 999, .inl 999, .inl 999, .inl 999, .inl 999, .inr false, .inl 999, .inr false, .inl 999]), .inl (0, [.inl 2, .inl 3, .inl 999, .inr false, .inl 999, .inl 999, .inl 999, .inr false]), .inr (false, 7), .inr (false, 7)]
def tb_6 : List Shp := [.inl (5, [.inl 999, .inl 999, .inr false, .inl 999, .inl 999, .inl 999, .inl 999, .inl 999, .inr false, .inl 999, .inr false, .inl 999]), .inl (0, [.inl 2, .inl 3, .inl 999, .inr false, .inl 999, .inl 999, .inl 999, .inr false]), .inr (false, 7), .inr (false, 7), .inr (false, 24)]
def tb_7 : List Shp := [.inl (5, [.inl 999, .inl 999, .inr false, .inl 999, .inl 999, .inl 999, .inl 999, .inl 999, .inr false, .inl 999, .inr false, .inl 999]), .inl (0, [.inl 2, .inl 3, .inl 4, .inr false, .inl 999, .inl 999, .inl 999, .inr false]), .inr (false, 7), .inr (false, 7), .inr (false, 24)]
def tb_8 : List Shp := [.inl (5, [.inl 999, .inl 999, .inr false, .inl 999, .inl 999, .inl 999, .inl 999, .inl 999, .inr false, .inl 999, .inr false, .inl 999]), .inl (0, [.inl 2, .inl 3, .inl 4, .inr false, .inl 999, .inl 999, .inl 999, .inr false]), .inr (false, 7), .inr (false, 7), .inr (false, 24), .inr (false, 4)]
def tb_9 : List Shp := [.inl (5, [.inl 999, .inl 999, .inr false, .inl 999, .inl 999, .inl 999, .inl 999, .inl 999, .inr false, .inl 999, .inr false, .inl 999]), .inl (0, [.inl 2, .inl 3, .inl 4, .inr false, .inl 5, .inl 999, .inl 999, .inr false]), .inr (false, 7), .inr (false, 7), .inr (false, 24), .inr (false, 4)]
def tb_10 : List Shp := [.inl (5, [.inl 999, .inl 999, .inr false, .inl 999, .inl 999, .inl 999, .inl 999, .inl 999, .inr false, .inl 999, .inr false, .inl 999]), .inl (0, [.inl 2, .inl 3, .inl 4, .inr false, .inl 5, .inl 999, .inl 999, .inr false]), .inr (false, 7), .inr (false, 7), .inr (false, 24), .inr (false, 4), .inr (false, 6)]
def tb_11 : List Shp := [.inl (5, [.inl 999, .inl 999, .inr false, .inl 999, .inl 999, .inl 999, .inl 999, .inl 999, .inr false, .inl 999, .inr false, .inl 999]), .inl (0, [.inl 2, .inl 3, .inl 4, .inr false, .inl 5, .inl 6, .inl 999, .inr false]), .inr (false, 7), .inr (false, 7), .inr (false, 24), .inr (false, 4), .inr (false, 6)]
def tb_12 : List Shp := [.inl (5, [.inl 999, .inl 999, .inr false, .inl 999, .inl 999, .inl 999, .inl 999, .inl 999, .inr false, .inl 999, .inr false, .inl 999]), .inl (0, [.inl 2, .inl 3, .inl 4, .inr false, .inl 5, .inl 6, .inl 999, .inr false]), .inr (false, 7), .inr (false, 7), .inr (false, 24), .inr (false, 4), .inr (false, 6), .inr (false, 6)]
def tb_13 : List Shp := [.inl (5, [.inl 999, .inl 999, .inr false, .inl 999, .inl 999, .inl 999, .inl 999, .inl 999, .inr false, .inl 999, .inr false, .inl 999]), .inl (0, [.inl 2, .inl 3, .inl 4, .inr false, .inl 5, .inl 6, .inl 7, .inr false]), .inr (false, 7), .inr (false, 7), .inr (false, 24), .inr (false, 4), .inr (false, 6), .inr (false, 6)]
def tb_14 : List Shp := [.inl (5, [.inl 1, .inl 999, .inr false, .inl 999, .inl 999, .inl 999, .inl 999, .inl 999, .inr false, .inl 999, .inr false, .inl 999]), .inl (0, [.inl 2, .inl 3, .inl 4, .inr false, .inl 5, .inl 6, .inl 7, .inr false]), .inr (false, 7), .inr (false, 7), .inr (false, 24), .inr (false, 4), .inr (false, 6), .inr (false, 6)]
def tb_15 : List Shp := [.inl (5, [.inl 1, .inl 999, .inr false, .inl 999, .inl 999, .inl 999, .inl 999, .inl 999, .inr false, .inl 999, .inr false, .inl 999]), .inl (0, [.inl 2, .inl 3, .inl 4, .inr false, .inl 5, .inl 6, .inl 7, .inr false]), .inr (false, 7), .inr (false, 7), .inr (false, 24), .inr (false, 4), .inr (false, 6), .inr (false, 6), .inl (0, [.inl 999, .inl 999, .inl 999, .inr false, .inl 999, .inl 999, .inl 999, .inr false])]
def tb_16 : List Shp := [.inl (5, [.inl 1, .inl 999, .inr false, .inl 999, .inl 999, .inl 999, .inl 999, .inl 999, .inr false, .inl 999, .inr false, .inl 999]), .inl (0, [.inl 2, .inl 3, .inl 4, .inr false, .inl 5, .inl 6, .inl 7, .inr false]), .inr (false, 7), .inr (false, 7), .inr (false, 24), .inr (false, 4), .inr (false, 6), .inr (false, 6), .inl (0, [.inl 999, .inl 999, .inl 999, .inr false, .inl 999, .inl 999, .inl 999, .inr false]), .inr (false, 7)]
def tb_17 : List Shp := [.inl (5, [.inl 1, .inl 999, .inr false, .inl 999, .inl 999, .inl 999, .inl 999, .inl 999, .inr false, .inl 999, .inr false, .inl 999]), .inl (0, [.inl 2, .inl 3, .inl 4, .inr false, .inl 5, .inl 6, .inl 7, .inr false]), .inr (false, 7), .inr (false, 7), .inr (false, 24), .inr (false, 4), .inr (false, 6), .inr (false, 6), .inl (0, [.inl 9, .inl 999, .inl 999, .inr false, .inl 999, .inl 999, .inl 999, .inr false]), .inr (false, 7)]
def tb_18 : List Shp := [.inl (5, [.inl 1, .inl 999, .inr false, .inl 999, .inl 999, .inl 999, .inl 999, .inl 999, .inr false, .inl 999, .inr false, .inl 999]), .inl (0, [.inl 2, .inl 3, .inl 4, .inr false, .inl 5, .inl 6, .inl 7, .inr false]), .inr (false, 7), .inr (false, 7), .inr (false, 24), .inr (false, 4), .inr (false, 6), .inr (false, 6), .inl (0, [.inl 9, .inl 999, .inl 999, .inr false, .inl 999, .inl 999, .inl 999, .inr false]), .inr (false, 7), .inr (false, 7)]
def tb_19 : List Shp := [.inl (5, [.inl 1, .inl 999, .inr false, .inl 999, .inl 999, .inl 999, .inl 999, .inl 999, .inr false, .inl 999, .inr false, .inl 999]), .inl (0, [.inl 2, .inl 3, .inl 4, .inr false, .inl 5, .inl 6, .inl 7, .inr false]), .inr (false, 7), .inr (false, 7), .inr (false, 24), .inr (false, 4), .inr (false, 6), .inr (false, 6), .inl (0, [.inl 9, .inl 10, .inl 999, .inr false, .inl 999, .inl 999, .inl 999, .inr false]), .inr (false, 7), .inr (false, 7)]
def tb_20 : List Shp := [.inl (5, [.inl 1, .inl 999, .inr false, .inl 999, .inl 999, .inl 999, .inl 999, .inl 999, .inr false, .inl 999, .inr false, .inl 999]), .inl (0, [.inl 2, .inl 3, .inl 4, .inr false, .inl 5, .inl 6, .inl 7, .inr false]), .inr (false, 7), .inr (false, 7), .inr (false, 24), .inr (false, 4), .inr (false, 6), .inr (false, 6), .inl (0, [.inl 9, .inl 10, .inl 999, .inr false, .inl 999, .inl 999, .inl 999, .inr false]), .inr (false, 7), .inr (false, 7), .inr (false, 24)]
def tb_21 : List Shp := [.inl (5, [.inl 1, .inl 999, .inr false, .inl 999, .inl 999, .inl 999, .inl 999, .inl 999, .inr false, .inl 999, .inr false, .inl 999]), .inl (0, [.inl 2, .inl 3, .inl 4, .inr false, .inl 5, .inl 6, .inl 7, .inr false]), .inr (false, 7), .inr (false, 7), .inr (false, 24), .inr (false, 4), .inr (false, 6), .inr (false, 6), .inl (0, [.inl 9, .inl 10, .inl 11, .inr false, .inl 999, .inl 999, .inl 999, .inr false]), .inr (false, 7), .inr (false, 7), .inr (false, 24)]
def tb_22 : List Shp := [.inl (5, [.inl 1, .inl 999, .inr false, .inl 999, .inl 999, .inl 999, .inl 999, .inl 999, .inr false, .inl 999, .inr false, .inl 999]), .inl (0, [.inl 2, .inl 3, .inl 4, .inr false, .inl 5, .inl 6, .inl 7, .inr false]), .inr (false, 7), .inr (false, 7), .inr (false, 24), .inr (false, 4), .inr (false, 6), .inr (false, 6), .inl (0, [.inl 9, .inl 10, .inl 11, .inr false, .inl 999, .inl 999, .inl 999, .inr false]), .inr (false, 7), .inr (false, 7), .inr (false, 24), .inr (false, 4)]
def tb_23 : List Shp := [.inl (5, [.inl 1, .inl 999, .inr false, .inl 999, .inl 999, .inl 999, .inl 999, .inl 999, .inr false, .inl 999, .inr false, .inl 999]), .inl (0, [.inl 2, .inl 3, .inl 4, .inr false, .inl 5, .inl 6, .inl 7, .inr false]), .inr (false, 7), .inr (false, 7), .inr (false, 24), .inr (false, 4), .inr (false, 6), .inr (false, 6), .inl (0, [.inl 9, .inl 10, .inl 11, .inr false, .inl 12, .inl 999, .inl 999, .inr false]), .inr (false, 7), .inr (false, 7), .inr (false, 24), .inr (false, 4)]
def tb_24 : List Shp := [.inl (5, [.inl 1, .inl 999, .inr false, .inl 999, .inl 999, .inl 999, .inl 999, .inl 999, .inr false, .inl 999, .inr false, .inl 999]), .inl (0, [.inl 2, .inl 3, .inl 4, .inr false, .inl 5, .inl 6, .inl 7, .inr false]), .inr (false, 7), .inr (false, 7), .inr (false, 24), .inr (false, 4), .inr (false, 6), .inr (false, 6), .inl (0, [.inl 9, .inl 10, .inl 11, .inr false, .inl 12, .inl 999, .inl 999, .inr false]), .inr (false, 7), .inr (false, 7), .inr (false, 24), .inr (false, 4), .inr (false, 6)]
def tb_25 : List Shp := [.inl (5, [.inl 1, .inl 999, .inr false, .inl 999, .inl 999, .inl 999, .inl 999, .inl 999, .inr false, .inl 999, .inr false, .inl 999]), .inl (0, [.inl 2, .inl 3, .inl 4, .inr false, .inl 5, .inl 6, .inl 7, .inr false]), .inr (false, 7), .inr (false, 7), .inr (false, 24), .inr (false, 4), .inr (false, 6), .inr (false, 6), .inl (0, [.inl 9, .inl 10, .inl 11, .inr false, .inl 12, .inl 13, .inl 999, .inr false]), .inr (false, 7), .inr (false, 7), .inr (false, 24), .inr (false, 4), .inr (false, 6)]
def tb_26 : List Shp := [.inl (5, [.inl 1, .inl 999, .inr false, .inl 999, .inl 999, .inl 999, .inl 999, .inl 999, .inr false, .inl 999, .inr false, .inl 999]), .inl (0, [.inl 2, .inl 3, .inl 4, .inr false, .inl 5, .inl 6, .inl 7, .inr false]), .inr (false, 7), .inr (false, 7), .inr (false, 24), .inr (false, 4), .inr (false, 6), .inr (false, 6), .inl (0, [.inl 9, .inl 10, .inl 11, .inr false, .inl 12, .inl 13, .inl 999, .inr false]), .inr (false, 7), .inr (false, 7), .inr (false, 24), .inr (false, 4), .inr (false, 6), .inr (false, 6)]
def tb_27 : List Shp := [.inl (5, [.inl 1, .inl 999, .inr false, .inl 999, .inl 999, .inl 999, .inl 999, .inl 999, .inr false, .inl 999, .inr false, .inl 999]), .inl (0, [.inl 2, .inl 3, .inl 4, .inr false, .inl 5, .inl 6, .inl 7, .inr false]), .inr (false, 7), .inr (false, 7), .inr (false, 24), .inr (false, 4), .inr (false, 6), .inr (false, 6), .inl (0, [.inl 9, .inl 10, .inl 11, .inr false, .inl 12, .inl 13, .inl 14, .inr false]), .inr (false, 7), .inr (false, 7), .inr (false, 24), .inr (false, 4), .inr (false, 6), .inr (false, 6)]
def tb_28 : List Shp := [.inl (5, [.inl 1, .inl 8, .inr false, .inl 999, .inl 999, .inl 999, .inl 999, .inl 999, .inr false, .inl 999, .inr false, .inl 999]), .inl (0, [.inl 2, .inl 3, .inl 4, .inr false, .inl 5, .inl 6, .inl 7, .inr false]), .inr (false, 7), .inr (false, 7), .inr (false, 24), .inr (false, 4), .inr (false, 6), .inr (false, 6), .inl (0, [.inl 9, .inl 10, .inl 11, .inr false, .inl 12, .inl 13, .inl 14, .inr false]), .inr (false, 7), .inr (false, 7), .inr (false, 24), .inr (false, 4), .inr (false, 6), .inr (false, 6)]
def tb_29 : List Shp := [.inl (5, [.inl 1, .inl 8, .inr false, .inl 999, .inl 999, .inl 999, .inl 999, .inl 999, .inr false, .inl 999, .inr false, .inl 999]), .inl (0, [.inl 2, .inl 3, .inl 4, .inr false, .inl 5, .inl 6, .inl 7, .inr false]), .inr (false, 7), .inr (false, 7), .inr (false, 24), .inr (false, 4), .inr (false, 6), .inr (false, 6), .inl (0, [.inl 9, .inl 10, .inl 11, .inr false, .inl 12, .inl 13, .inl 14, .inr false]), .inr (false, 7), .inr (false, 7), .inr (false, 24), .inr (false, 4), .inr (false, 6), .inr (false, 6), .inl (1, [.inl 999])]
def tb_30 : List Shp := [.inl (5, [.inl 1, .inl 8, .inr false, .inl 999, .inl 999, .inl 999, .inl 999, .inl 999, .inr false, .inl 999, .inr false, .inl 999]), .inl (0, [.inl 2, .inl 3, .inl 4, .inr false, .inl 5, .inl 6, .inl 7, .inr false]), .inr (false, 7), .inr (false, 7), .inr (false, 24), .inr (false, 4), .inr (false, 6), .inr (false, 6), .inl (0, [.inl 9, .inl 10, .inl 11, .inr false, .inl 12, .inl 13, .inl 14, .inr false]), .inr (false, 7), .inr (false, 7), .inr (false, 24), .inr (false, 4), .inr (false, 6), .inr (false, 6), .inl (1, [.inl 999]), .inr (true, 80)]
def tb_31 : List Shp := [.inl (5, [.inl 1, .inl 8, .inr false, .inl 999, .inl 999, .inl 999, .inl 999, .inl 999, .inr false, .inl 999, .inr false, .inl 999]), .inl (0, [.inl 2, .inl 3, .inl 4, .inr false, .inl 5, .inl 6, .inl 7, .inr false]), .inr (false, 7), .inr (false, 7), .inr (false, 24), .inr (false, 4), .inr (false, 6), .inr (false, 6), .inl (0, [.inl 9, .inl 10, .inl 11, .inr false, .inl 12, .inl 13, .inl 14, .inr false]), .inr (false, 7), .inr (false, 7), .inr (false, 24), .inr (false, 4), .inr (false, 6), .inr (false, 6), .inl (1, [.inl 16]), .inr (true, 80)]
def tb_32 : List Shp := [.inl (5, [.inl 1, .inl 8, .inr false, .inl 15, .inl 999, .inl 999, .inl 999, .inl 999, .inr false, .inl 999, .inr false, .inl 999]), .inl (0, [.inl 2, .inl 3, .inl 4, .inr false, .inl 5, .inl 6, .inl 7, .inr false]), .inr (false, 7), .inr (false, 7), .inr (false, 24), .inr (false, 4), .inr (false, 6), .inr (false, 6), .inl (0, [.inl 9, .inl 10, .inl 11, .inr false, .inl 12, .inl 13, .inl 14, .inr false]), .inr (false, 7), .inr (false, 7), .inr (false, 24), .inr (false, 4), .inr (false, 6), .inr (false, 6), .inl (1, [.inl 16]), .inr (true, 80)]
def tb_33 : List Shp := [.inl (5, [.inl 1, .inl 8, .inr false, .inl 15, .inl 999, .inl 999, .inl 999, .inl 999, .inr false, .inl 999, .inr false, .inl 999]), .inl (0, [.inl 2, .inl 3, .inl 4, .inr false, .inl 5, .inl 6, .inl 7, .inr false]), .inr (false, 7), .inr (false, 7), .inr (false, 24), .inr (false, 4), .inr (false, 6), .inr (false, 6), .inl (0, [.inl 9, .inl 10, .inl 11, .inr false, .inl 12, .inl 13, .inl 14, .inr false]), .inr (false, 7), .inr (false, 7), .inr (false, 24), .inr (false, 4), .inr (false, 6), .inr (false, 6), .inl (1, [.inl 16]), .inr (true, 80), .inl (4, [.inl 999, .inl 999, .inl 999, .inl 999, .inr false])]
def tb_34 : List Shp := [.inl (5, [.inl 1, .inl 8, .inr false, .inl 15, .inl 999, .inl 999, .inl 999, .inl 999, .inr false, .inl 999, .inr false, .inl 999]), .inl (0, [.inl 2, .inl 3, .inl 4, .inr false, .inl 5, .inl 6, .inl 7, .inr false]), .inr (false, 7), .inr (false, 7), .inr (false, 24), .inr (false, 4), .inr (false, 6), .inr (false, 6), .inl (0, [.inl 9, .inl 10, .inl 11, .inr false, .inl 12, .inl 13, .inl 14, .inr false]), .inr (false, 7), .inr (false, 7), .inr (false, 24), .inr (false, 4), .inr (false, 6), .inr (false, 6), .inl (1, [.inl 16]), .inr (true, 80), .inl (4, [.inl 999, .inl 999, .inl 999, .inl 999, .inr false]), .inr (true, 25)]
def tb_35 : List Shp := [.inl (5, [.inl 1, .inl 8, .inr false, .inl 15, .inl 999, .inl 999, .inl 999, .inl 999, .inr false, .inl 999, .inr false, .inl 999]), .inl (0, [.inl 2, .inl 3, .inl 4, .inr false, .inl 5, .inl 6, .inl 7, .inr false]), .inr (false, 7), .inr (false, 7), .inr (false, 24), .inr (false, 4), .inr (false, 6), .inr (false, 6), .inl (0, [.inl 9, .inl 10, .inl 11, .inr false, .inl 12, .inl 13, .inl 14, .inr false]), .inr (false, 7), .inr (false, 7), .inr (false, 24), .inr (false, 4), .inr (false, 6), .inr (false, 6), .inl (1, [.inl 16]), .inr (true, 80), .inl (4, [.inl 999, .inl 18, .inl 999, .inl 999, .inr false]), .inr (true, 25)]
def tb_36 : List Shp := [.inl (5, [.inl 1, .inl 8, .inr false, .inl 15, .inl 999, .inl 999, .inl 999, .inl 999, .inr false, .inl 999, .inr false, .inl 999]), .inl (0, [.inl 2, .inl 3, .inl 4, .inr false, .inl 5, .inl 6, .inl 7, .inr false]), .inr (false, 7), .inr (false, 7), .inr (false, 24), .inr (false, 4), .inr (false, 6), .inr (false, 6), .inl (0, [.inl 9, .inl 10, .inl 11, .inr false, .inl 12, .inl 13, .inl 14, .inr false]), .inr (false, 7), .inr (false, 7), .inr (false, 24), .inr (false, 4), .inr (false, 6), .inr (false, 6), .inl (1, [.inl 16]), .inr (true, 80), .inl (4, [.inl 999, .inl 18, .inl 999, .inl 999, .inr false]), .inr (true, 25), .inr (false, 25)]
def tb_37 : List Shp := [.inl (5, [.inl 1, .inl 8, .inr false, .inl 15, .inl 999, .inl 999, .inl 999, .inl 999, .inr false, .inl 999, .inr false, .inl 999]), .inl (0, [.inl 2, .inl 3, .inl 4, .inr false, .inl 5, .inl 6, .inl 7, .inr false]), .inr (false, 7), .inr (false, 7), .inr (false, 24), .inr (false, 4), .inr (false, 6), .inr (false, 6), .inl (0, [.inl 9, .inl 10, .inl 11, .inr false, .inl 12, .inl 13, .inl 14, .inr false]), .inr (false, 7), .inr (false, 7), .inr (false, 24), .inr (false, 4), .inr (false, 6), .inr (false, 6), .inl (1, [.inl 16]), .inr (true, 80), .inl (4, [.inl 999, .inl 18, .inl 19, .inl 999, .inr false]), .inr (true, 25), .inr (false, 25)]
def tb_38 : List Shp := [.inl (5, [.inl 1, .inl 8, .inr false, .inl 15, .inl 999, .inl 999, .inl 999, .inl 999, .inr false, .inl 999, .inr false, .inl 999]), .inl (0, [.inl 2, .inl 3, .inl 4, .inr false, .inl 5, .inl 6, .inl 7, .inr false]), .inr (false, 7), .inr (false, 7), .inr (false, 24), .inr (false, 4), .inr (false, 6), .inr (false, 6), .inl (0, [.inl 9, .inl 10, .inl 11, .inr false, .inl 12, .inl 13, .inl 14, .inr false]), .inr (false, 7), .inr (false, 7), .inr (false, 24), .inr (false, 4), .inr (false, 6), .inr (false, 6), .inl (1, [.inl 16]), .inr (true, 80), .inl (4, [.inl 999, .inl 18, .inl 19, .inl 999, .inr false]), .inr (true, 25), .inr (false, 25), .inr (false, 24)]
def tb_39 : List Shp := [.inl (5, [.inl 1, .inl 8, .inr false, .inl 15, .inl 999, .inl 999, .inl 999, .inl 999, .inr false, .inl 999, .inr false, .inl 999]), .inl (0, [.inl 2, .inl 3, .inl 4, .inr false, .inl 5, .inl 6, .inl 7, .inr false]), .inr (false, 7), .inr (false, 7), .inr (false, 24), .inr (false, 4), .inr (false, 6), .inr (false, 6), .inl (0, [.inl 9, .inl 10, .inl 11, .inr false, .inl 12, .inl 13, .inl 14, .inr false]), .inr (false, 7), .inr (false, 7), .inr (false, 24), .inr (false, 4), .inr (false, 6), .inr (false, 6), .inl (1, [.inl 16]), .inr (true, 80), .inl (4, [.inl 999, .inl 18, .inl 19, .inl 20, .inr false]), .inr (true, 25), .inr (false, 25), .inr (false, 24)]
def tb_40 : List Shp := [.inl (5, [.inl 1, .inl 8, .inr false, .inl 15, .inl 999, .inl 999, .inl 999, .inl 999, .inr false, .inl 999, .inr false, .inl 999]), .inl (0, [.inl 2, .inl 3, .inl 4, .inr false, .inl 5, .inl 6, .inl 7, .inr false]), .inr (false, 7), .inr (false, 7), .inr (false, 24), .inr (false, 4), .inr (false, 6), .inr (false, 6), .inl (0, [.inl 9, .inl 10, .inl 11, .inr false, .inl 12, .inl 13, .inl 14, .inr false]), .inr (false, 7), .inr (false, 7), .inr (false, 24), .inr (false, 4), .inr (false, 6), .inr (false, 6), .inl (1, [.inl 16]), .inr (true, 80), .inl (4, [.inl 15, .inl 18, .inl 19, .inl 20, .inr false]), .inr (true, 25), .inr (false, 25), .inr (false, 24)]
def tb_41 : List Shp := [.inl (5, [.inl 1, .inl 8, .inr false, .inl 15, .inl 17, .inl 999, .inl 999, .inl 999, .inr false, .inl 999, .inr false, .inl 999]), .inl (0, [.inl 2, .inl 3, .inl 4, .inr false, .inl 5, .inl 6, .inl 7, .inr false]), .inr (false, 7), .inr (false, 7), .inr (false, 24), .inr (false, 4), .inr (false, 6), .inr (false, 6), .inl (0, [.inl 9, .inl 10, .inl 11, .inr false, .inl 12, .inl 13, .inl 14, .inr false]), .inr (false, 7), .inr (false, 7), .inr (false, 24), .inr (false, 4), .inr (false, 6), .inr (false, 6), .inl (1, [.inl 16]), .inr (true, 80), .inl (4, [.inl 15, .inl 18, .inl 19, .inl 20, .inr false]), .inr (true, 25), .inr (false, 25), .inr (false, 24)]
def tb_42 : List Shp := [.inl (5, [.inl 1, .inl 8, .inr false, .inl 15, .inl 17, .inl 999, .inl 999, .inl 999, .inr false, .inl 999, .inr false, .inl 999]), .inl (0, [.inl 2, .inl 3, .inl 4, .inr false, .inl 5, .inl 6, .inl 7, .inr false]), .inr (false, 7), .inr (false, 7), .inr (false, 24), .inr (false, 4), .inr (false, 6), .inr (false, 6), .inl (0, [.inl 9, .inl 10, .inl 11, .inr false, .inl 12, .inl 13, .inl 14, .inr false]), .inr (false, 7), .inr (false, 7), .inr (false, 24), .inr (false, 4), .inr (false, 6), .inr (false, 6), .inl (1, [.inl 16]), .inr (true, 80), .inl (4, [.inl 15, .inl 18, .inl 19, .inl 20, .inr false]), .inr (true, 25), .inr (false, 25), .inr (false, 24), .inl (2, [.inl 999, .inl 999, .inl 999, .inl 999, .inl 999, .inl 999, .inr false, .inl 999, .inl 999, .inr false])]
def tb_43 : List Shp := [.inl (5, [.inl 1, .inl 8, .inr false, .inl 15, .inl 17, .inl 999, .inl 999, .inl 999, .inr false, .inl 999, .inr false, .inl 999]), .inl (0, [.inl 2, .inl 3, .inl 4, .inr false, .inl 5, .inl 6, .inl 7, .inr false]), .inr (false, 7), .inr (false, 7), .inr (false, 24), .inr (false, 4), .inr (false, 6), .inr (false, 6), .inl (0, [.inl 9, .inl 10, .inl 11, .inr false, .inl 12, .inl 13, .inl 14, .inr false]), .inr (false, 7), .inr (false, 7), .inr (false, 24), .inr (false, 4), .inr (false, 6), .inr (false, 6), .inl (1, [.inl 16]), .inr (true, 80), .inl (4, [.inl 15, .inl 18, .inl 19, .inl 20, .inr false]), .inr (true, 25), .inr (false, 25), .inr (false, 24), .inl (2, [.inl 999, .inl 999, .inl 999, .inl 999, .inl 999, .inl 999, .inr false, .inl 999, .inl 999, .inr false]), .inr (true, 1000)]
def tb_44 : List Shp := [.inl (5, [.inl 1, .inl 8, .inr false, .inl 15, .inl 17, .inl 999, .inl 999, .inl 999, .inr false, .inl 999, .inr false, .inl 999]), .inl (0, [.inl 2, .inl 3, .inl 4, .inr false, .inl 5, .inl 6, .inl 7, .inr false]), .inr (false, 7), .inr (false, 7), .inr (false, 24), .inr (false, 4), .inr (false, 6), .inr (false, 6), .inl (0, [.inl 9, .inl 10, .inl 11, .inr false, .inl 12, .inl 13, .inl 14, .inr false]), .inr (false, 7), .inr (false, 7), .inr (false, 24), .inr (false, 4), .inr (false, 6), .inr (false, 6), .inl (1, [.inl 16]), .inr (true, 80), .inl (4, [.inl 15, .inl 18, .inl 19, .inl 20, .inr false]), .inr (true, 25), .inr (false, 25), .inr (false, 24), .inl (2, [.inl 999, .inl 999, .inl 999, .inl 22, .inl 999, .inl 999, .inr false, .inl 999, .inl 999, .inr false]), .inr (true, 1000)]
def tb_45 : List Shp := [.inl (5, [.inl 1, .inl 8, .inr false, .inl 15, .inl 17, .inl 999, .inl 999, .inl 999, .inr false, .inl 999, .inr false, .inl 999]), .inl (0, [.inl 2, .inl 3, .inl 4, .inr false, .inl 5, .inl 6, .inl 7, .inr false]), .inr (false, 7), .inr (false, 7), .inr (false, 24), .inr (false, 4), .inr (false, 6), .inr (false, 6), .inl (0, [.inl 9, .inl 10, .inl 11, .inr false, .inl 12, .inl 13, .inl 14, .inr false]), .inr (false, 7), .inr (false, 7), .inr (false, 24), .inr (false, 4), .inr (false, 6), .inr (false, 6), .inl (1, [.inl 16]), .inr (true, 80), .inl (4, [.inl 15, .inl 18, .inl 19, .inl 20, .inr false]), .inr (true, 25), .inr (false, 25), .inr (false, 24), .inl (2, [.inl 999, .inl 999, .inl 999, .inl 22, .inl 999, .inl 999, .inr false, .inl 999, .inl 999, .inr false]), .inr (true, 1000), .inr (false, 1000)]
def tb_46 : List Shp := [.inl (5, [.inl 1, .inl 8, .inr false, .inl 15, .inl 17, .inl 999, .inl 999, .inl 999, .inr false, .inl 999, .inr false, .inl 999]), .inl (0, [.inl 2, .inl 3, .inl 4, .inr false, .inl 5, .inl 6, .inl 7, .inr false]), .inr (false, 7), .inr (false, 7), .inr (false, 24), .inr (false, 4), .inr (false, 6), .inr (false, 6), .inl (0, [.inl 9, .inl 10, .inl 11, .inr false, .inl 12, .inl 13, .inl 14, .inr false]), .inr (false, 7), .inr (false, 7), .inr (false, 24), .inr (false, 4), .inr (false, 6), .inr (false, 6), .inl (1, [.inl 16]), .inr (true, 80), .inl (4, [.inl 15, .inl 18, .inl 19, .inl 20, .inr false]), .inr (true, 25), .inr (false, 25), .inr (false, 24), .inl (2, [.inl 999, .inl 999, .inl 999, .inl 22, .inl 23, .inl 999, .inr false, .inl 999, .inl 999, .inr false]), .inr (true, 1000), .inr (false, 1000)]
def tb_47 : List Shp := [.inl (5, [.inl 1, .inl 8, .inr false, .inl 15, .inl 17, .inl 999, .inl 999, .inl 999, .inr false, .inl 999, .inr false, .inl 999]), .inl (0, [.inl 2, .inl 3, .inl 4, .inr false, .inl 5, .inl 6, .inl 7, .inr false]), .inr (false, 7), .inr (false, 7), .inr (false, 24), .inr (false, 4), .inr (false, 6), .inr (false, 6), .inl (0, [.inl 9, .inl 10, .inl 11, .inr false, .inl 12, .inl 13, .inl 14, .inr false]), .inr (false, 7), .inr (false, 7), .inr (false, 24), .inr (false, 4), .inr (false, 6), .inr (false, 6), .inl (1, [.inl 16]), .inr (true, 80), .inl (4, [.inl 15, .inl 18, .inl 19, .inl 20, .inr false]), .inr (true, 25), .inr (false, 25), .inr (false, 24), .inl (2, [.inl 999, .inl 999, .inl 999, .inl 22, .inl 23, .inl 999, .inr false, .inl 999, .inl 999, .inr false]), .inr (true, 1000), .inr (false, 1000), .inr (false, 1024)]
def tb_48 : List Shp := [.inl (5, [.inl 1, .inl 8, .inr false, .inl 15, .inl 17, .inl 999, .inl 999, .inl 999, .inr false, .inl 999, .inr false, .inl 999]), .inl (0, [.inl 2, .inl 3, .inl 4, .inr false, .inl 5, .inl 6, .inl 7, .inr false]), .inr (false, 7), .inr (false, 7), .inr (false, 24), .inr (false, 4), .inr (false, 6), .inr (false, 6), .inl (0, [.inl 9, .inl 10, .inl 11, .inr false, .inl 12, .inl 13, .inl 14, .inr false]), .inr (false, 7), .inr (false, 7), .inr (false, 24), .inr (false, 4), .inr (false, 6), .inr (false, 6), .inl (1, [.inl 16]), .inr (true, 80), .inl (4, [.inl 15, .inl 18, .inl 19, .inl 20, .inr false]), .inr (true, 25), .inr (false, 25), .inr (false, 24), .inl (2, [.inl 999, .inl 999, .inl 999, .inl 22, .inl 23, .inl 24, .inr false, .inl 999, .inl 999, .inr false]), .inr (true, 1000), .inr (false, 1000), .inr (false, 1024)]
def tb_49 : List Shp := [.inl (5, [.inl 1, .inl 8, .inr false, .inl 15, .inl 17, .inl 999, .inl 999, .inl 999, .inr false, .inl 999, .inr false, .inl 999]), .inl (0, [.inl 2, .inl 3, .inl 4, .inr false, .inl 5, .inl 6, .inl 7, .inr false]), .inr (false, 7), .inr (false, 7), .inr (false, 24), .inr (false, 4), .inr (false, 6), .inr (false, 6), .inl (0, [.inl 9, .inl 10, .inl 11, .inr false, .inl 12, .inl 13, .inl 14, .inr false]), .inr (false, 7), .inr (false, 7), .inr (false, 24), .inr (false, 4), .inr (false, 6), .inr (false, 6), .inl (1, [.inl 16]), .inr (true, 80), .inl (4, [.inl 15, .inl 18, .inl 19, .inl 20, .inr false]), .inr (true, 25), .inr (false, 25), .inr (false, 24), .inl (2, [.inl 999, .inl 999, .inl 999, .inl 22, .inl 23, .inl 24, .inr false, .inl 999, .inl 999, .inr false]), .inr (true, 1000), .inr (false, 1000), .inr (false, 1024), .inr (false, 6)]
def tb_50 : List Shp := [.inl (5, [.inl 1, .inl 8, .inr false, .inl 15, .inl 17, .inl 999, .inl 999, .inl 999, .inr false, .inl 999, .inr false, .inl 999]), .inl (0, [.inl 2, .inl 3, .inl 4, .inr false, .inl 5, .inl 6, .inl 7, .inr false]), .inr (false, 7), .inr (false, 7), .inr (false, 24), .inr (false, 4), .inr (false, 6), .inr (false, 6), .inl (0, [.inl 9, .inl 10, .inl 11, .inr false, .inl 12, .inl 13, .inl 14, .inr false]), .inr (false, 7), .inr (false, 7), .inr (false, 24), .inr (false, 4), .inr (false, 6), .inr (false, 6), .inl (1, [.inl 16]), .inr (true, 80), .inl (4, [.inl 15, .inl 18, .inl 19, .inl 20, .inr false]), .inr (true, 25), .inr (false, 25), .inr (false, 24), .inl (2, [.inl 999, .inl 999, .inl 999, .inl 22, .inl 23, .inl 24, .inr false, .inl 25, .inl 999, .inr false]), .inr (true, 1000), .inr (false, 1000), .inr (false, 1024), .inr (false, 6)]
def tb_51 : List Shp := [.inl (5, [.inl 1, .inl 8, .inr false, .inl 15, .inl 17, .inl 999, .inl 999, .inl 999, .inr false, .inl 999, .inr false, .inl 999]), .inl (0, [.inl 2, .inl 3, .inl 4, .inr false, .inl 5, .inl 6, .inl 7, .inr false]), .inr (false, 7), .inr (false, 7), .inr (false, 24), .inr (false, 4), .inr (false, 6), .inr (false, 6), .inl (0, [.inl 9, .inl 10, .inl 11, .inr false, .inl 12, .inl 13, .inl 14, .inr false]), .inr (false, 7), .inr (false, 7), .inr (false, 24), .inr (false, 4), .inr (false, 6), .inr (false, 6), .inl (1, [.inl 16]), .inr (true, 80), .inl (4, [.inl 15, .inl 18, .inl 19, .inl 20, .inr false]), .inr (true, 25), .inr (false, 25), .inr (false, 24), .inl (2, [.inl 999, .inl 999, .inl 999, .inl 22, .inl 23, .inl 24, .inr false, .inl 25, .inl 999, .inr false]), .inr (true, 1000), .inr (false, 1000), .inr (false, 1024), .inr (false, 6), .inr (false, 7)]
def tb_52 : List Shp := [.inl (5, [.inl 1, .inl 8, .inr false, .inl 15, .inl 17, .inl 999, .inl 999, .inl 999, .inr false, .inl 999, .inr false, .inl 999]), .inl (0, [.inl 2, .inl 3, .inl 4, .inr false, .inl 5, .inl 6, .inl 7, .inr false]), .inr (false, 7), .inr (false, 7), .inr (false, 24), .inr (false, 4), .inr (false, 6), .inr (false, 6), .inl (0, [.inl 9, .inl 10, .inl 11, .inr false, .inl 12, .inl 13, .inl 14, .inr false]), .inr (false, 7), .inr (false, 7), .inr (false, 24), .inr (false, 4), .inr (false, 6), .inr (false, 6), .inl (1, [.inl 16]), .inr (true, 80), .inl (4, [.inl 15, .inl 18, .inl 19, .inl 20, .inr false]), .inr (true, 25), .inr (false, 25), .inr (false, 24), .inl (2, [.inl 999, .inl 999, .inl 999, .inl 22, .inl 23, .inl 24, .inr false, .inl 25, .inl 26, .inr false]), .inr (true, 1000), .inr (false, 1000), .inr (false, 1024), .inr (false, 6), .inr (false, 7)]
def tb_53 : List Shp := [.inl (5, [.inl 1, .inl 8, .inr false, .inl 15, .inl 17, .inl 999, .inl 999, .inl 999, .inr false, .inl 999, .inr false, .inl 999]), .inl (0, [.inl 2, .inl 3, .inl 4, .inr false, .inl 5, .inl 6, .inl 7, .inr false]), .inr (false, 7), .inr (false, 7), .inr (false, 24), .inr (false, 4), .inr (false, 6), .inr (false, 6), .inl (0, [.inl 9, .inl 10, .inl 11, .inr false, .inl 12, .inl 13, .inl 14, .inr false]), .inr (false, 7), .inr (false, 7), .inr (false, 24), .inr (false, 4), .inr (false, 6), .inr (false, 6), .inl (1, [.inl 16]), .inr (true, 80), .inl (4, [.inl 15, .inl 18, .inl 19, .inl 20, .inr false]), .inr (true, 25), .inr (false, 25), .inr (false, 24), .inl (2, [.inl 1, .inl 999, .inl 999, .inl 22, .inl 23, .inl 24, .inr false, .inl 25, .inl 26, .inr false]), .inr (true, 1000), .inr (false, 1000), .inr (false, 1024), .inr (false, 6), .inr (false, 7)]
def tb_54 : List Shp := [.inl (5, [.inl 1, .inl 8, .inr false, .inl 15, .inl 17, .inl 999, .inl 999, .inl 999, .inr false, .inl 999, .inr false, .inl 999]), .inl (0, [.inl 2, .inl 3, .inl 4, .inr false, .inl 5, .inl 6, .inl 7, .inr false]), .inr (false, 7), .inr (false, 7), .inr (false, 24), .inr (false, 4), .inr (false, 6), .inr (false, 6), .inl (0, [.inl 9, .inl 10, .inl 11, .inr false, .inl 12, .inl 13, .inl 14, .inr false]), .inr (false, 7), .inr (false, 7), .inr (false, 24), .inr (false, 4), .inr (false, 6), .inr (false, 6), .inl (1, [.inl 16]), .inr (true, 80), .inl (4, [.inl 15, .inl 18, .inl 19, .inl 20, .inr false]), .inr (true, 25), .inr (false, 25), .inr (false, 24), .inl (2, [.inl 1, .inl 15, .inl 999, .inl 22, .inl 23, .inl 24, .inr false, .inl 25, .inl 26, .inr false]), .inr (true, 1000), .inr (false, 1000), .inr (false, 1024), .inr (false, 6), .inr (false, 7)]
def tb_55 : List Shp := [.inl (5, [.inl 1, .inl 8, .inr false, .inl 15, .inl 17, .inl 999, .inl 999, .inl 999, .inr false, .inl 999, .inr false, .inl 999]), .inl (0, [.inl 2, .inl 3, .inl 4, .inr false, .inl 5, .inl 6, .inl 7, .inr false]), .inr (false, 7), .inr (false, 7), .inr (false, 24), .inr (false, 4), .inr (false, 6), .inr (false, 6), .inl (0, [.inl 9, .inl 10, .inl 11, .inr false, .inl 12, .inl 13, .inl 14, .inr false]), .inr (false, 7), .inr (false, 7), .inr (false, 24), .inr (false, 4), .inr (false, 6), .inr (false, 6), .inl (1, [.inl 16]), .inr (true, 80), .inl (4, [.inl 15, .inl 18, .inl 19, .inl 20, .inr false]), .inr (true, 25), .inr (false, 25), .inr (false, 24), .inl (2, [.inl 1, .inl 15, .inl 17, .inl 22, .inl 23, .inl 24, .inr false, .inl 25, .inl 26, .inr false]), .inr (true, 1000), .inr (false, 1000), .inr (false, 1024), .inr (false, 6), .inr (false, 7)]
def tb_56 : List Shp := [.inl (5, [.inl 1, .inl 8, .inr false, .inl 15, .inl 17, .inl 21, .inl 999, .inl 999, .inr false, .inl 999, .inr false, .inl 999]), .inl (0, [.inl 2, .inl 3, .inl 4, .inr false, .inl 5, .inl 6, .inl 7, .inr false]), .inr (false, 7), .inr (false, 7), .inr (false, 24), .inr (false, 4), .inr (false, 6), .inr (false, 6), .inl (0, [.inl 9, .inl 10, .inl 11, .inr false, .inl 12, .inl 13, .inl 14, .inr false]), .inr (false, 7), .inr (false, 7), .inr (false, 24), .inr (false, 4), .inr (false, 6), .inr (false, 6), .inl (1, [.inl 16]), .inr (true, 80), .inl (4, [.inl 15, .inl 18, .inl 19, .inl 20, .inr false]), .inr (true, 25), .inr (false, 25), .inr (false, 24), .inl (2, [.inl 1, .inl 15, .inl 17, .inl 22, .inl 23, .inl 24, .inr false, .inl 25, .inl 26, .inr false]), .inr (true, 1000), .inr (false, 1000), .inr (false, 1024), .inr (false, 6), .inr (false, 7)]
def tb_57 : List Shp := [.inl (5, [.inl 1, .inl 8, .inr false, .inl 15, .inl 17, .inl 21, .inl 999, .inl 999, .inr false, .inl 999, .inr false, .inl 999]), .inl (0, [.inl 2, .inl 3, .inl 4, .inr false, .inl 5, .inl 6, .inl 7, .inr false]), .inr (false, 7), .inr (false, 7), .inr (false, 24), .inr (false, 4), .inr (false, 6), .inr (false, 6), .inl (0, [.inl 9, .inl 10, .inl 11, .inr false, .inl 12, .inl 13, .inl 14, .inr false]), .inr (false, 7), .inr (false, 7), .inr (false, 24), .inr (false, 4), .inr (false, 6), .inr (false, 6), .inl (1, [.inl 16]), .inr (true, 80), .inl (4, [.inl 15, .inl 18, .inl 19, .inl 20, .inr false]), .inr (true, 25), .inr (false, 25), .inr (false, 24), .inl (2, [.inl 1, .inl 15, .inl 17, .inl 22, .inl 23, .inl 24, .inr false, .inl 25, .inl 26, .inr false]), .inr (true, 1000), .inr (false, 1000), .inr (false, 1024), .inr (false, 6), .inr (false, 7), .inl (3, [.inl 999, .inl 999, .inl 999, .inl 999, .inl 999, .inr false, .inr true, .inr true])]
def tb_58 : List Shp := [.inl (5, [.inl 1, .inl 8, .inr false, .inl 15, .inl 17, .inl 21, .inl 999, .inl 999, .inr false, .inl 999, .inr false, .inl 999]), .inl (0, [.inl 2, .inl 3, .inl 4, .inr false, .inl 5, .inl 6, .inl 7, .inr false]), .inr (false, 7), .inr (false, 7), .inr (false, 24), .inr (false, 4), .inr (false, 6), .inr (false, 6), .inl (0, [.inl 9, .inl 10, .inl 11, .inr false, .inl 12, .inl 13, .inl 14, .inr false]), .inr (false, 7), .inr (false, 7), .inr (false, 24), .inr (false, 4), .inr (false, 6), .inr (false, 6), .inl (1, [.inl 16]), .inr (true, 80), .inl (4, [.inl 15, .inl 18, .inl 19, .inl 20, .inr false]), .inr (true, 25), .inr (false, 25), .inr (false, 24), .inl (2, [.inl 1, .inl 15, .inl 17, .inl 22, .inl 23, .inl 24, .inr false, .inl 25, .inl 26, .inr false]), .inr (true, 1000), .inr (false, 1000), .inr (false, 1024), .inr (false, 6), .inr (false, 7), .inl (3, [.inl 999, .inl 999, .inl 999, .inl 999, .inl 999, .inr false, .inr true, .inr true]), .inr (false, 7)]
def tb_59 : List Shp := [.inl (5, [.inl 1, .inl 8, .inr false, .inl 15, .inl 17, .inl 21, .inl 999, .inl 999, .inr false, .inl 999, .inr false, .inl 999]), .inl (0, [.inl 2, .inl 3, .inl 4, .inr false, .inl 5, .inl 6, .inl 7, .inr false]), .inr (false, 7), .inr (false, 7), .inr (false, 24), .inr (false, 4), .inr (false, 6), .inr (false, 6), .inl (0, [.inl 9, .inl 10, .inl 11, .inr false, .inl 12, .inl 13, .inl 14, .inr false]), .inr (false, 7), .inr (false, 7), .inr (false, 24), .inr (false, 4), .inr (false, 6), .inr (false, 6), .inl (1, [.inl 16]), .inr (true, 80), .inl (4, [.inl 15, .inl 18, .inl 19, .inl 20, .inr false]), .inr (true, 25), .inr (false, 25), .inr (false, 24), .inl (2, [.inl 1, .inl 15, .inl 17, .inl 22, .inl 23, .inl 24, .inr false, .inl 25, .inl 26, .inr false]), .inr (true, 1000), .inr (false, 1000), .inr (false, 1024), .inr (false, 6), .inr (false, 7), .inl (3, [.inl 999, .inl 999, .inl 28, .inl 999, .inl 999, .inr false, .inr true, .inr true]), .inr (false, 7)]
def tb_60 : List Shp := [.inl (5, [.inl 1, .inl 8, .inr false, .inl 15, .inl 17, .inl 21, .inl 999, .inl 999, .inr false, .inl 999, .inr false, .inl 999]), .inl (0, [.inl 2, .inl 3, .inl 4, .inr false, .inl 5, .inl 6, .inl 7, .inr false]), .inr (false, 7), .inr (false, 7), .inr (false, 24), .inr (false, 4), .inr (false, 6), .inr (false, 6), .inl (0, [.inl 9, .inl 10, .inl 11, .inr false, .inl 12, .inl 13, .inl 14, .inr false]), .inr (false, 7), .inr (false, 7), .inr (false, 24), .inr (false, 4), .inr (false, 6), .inr (false, 6), .inl (1, [.inl 16]), .inr (true, 80), .inl (4, [.inl 15, .inl 18, .inl 19, .inl 20, .inr false]), .inr (true, 25), .inr (false, 25), .inr (false, 24), .inl (2, [.inl 1, .inl 15, .inl 17, .inl 22, .inl 23, .inl 24, .inr false, .inl 25, .inl 26, .inr false]), .inr (true, 1000), .inr (false, 1000), .inr (false, 1024), .inr (false, 6), .inr (false, 7), .inl (3, [.inl 999, .inl 999, .inl 28, .inl 999, .inl 999, .inr false, .inr true, .inr true]), .inr (false, 7), .inr (false, 6)]
def tb_61 : List Shp := [.inl (5, [.inl 1, .inl 8, .inr false, .inl 15, .inl 17, .inl 21, .inl 999, .inl 999, .inr false, .inl 999, .inr false, .inl 999]), .inl (0, [.inl 2, .inl 3, .inl 4, .inr false, .inl 5, .inl 6, .inl 7, .inr false]), .inr (false, 7), .inr (false, 7), .inr (false, 24), .inr (false, 4), .inr (false, 6), .inr (false, 6), .inl (0, [.inl 9, .inl 10, .inl 11, .inr false, .inl 12, .inl 13, .inl 14, .inr false]), .inr (false, 7), .inr (false, 7), .inr (false, 24), .inr (false, 4), .inr (false, 6), .inr (false, 6), .inl (1, [.inl 16]), .inr (true, 80), .inl (4, [.inl 15, .inl 18, .inl 19, .inl 20, .inr false]), .inr (true, 25), .inr (false, 25), .inr (false, 24), .inl (2, [.inl 1, .inl 15, .inl 17, .inl 22, .inl 23, .inl 24, .inr false, .inl 25, .inl 26, .inr false]), .inr (true, 1000), .inr (false, 1000), .inr (false, 1024), .inr (false, 6), .inr (false, 7), .inl (3, [.inl 999, .inl 999, .inl 28, .inl 29, .inl 999, .inr false, .inr true, .inr true]), .inr (false, 7), .inr (false, 6)]
def tb_62 : List Shp := [.inl (5, [.inl 1, .inl 8, .inr false, .inl 15, .inl 17, .inl 21, .inl 999, .inl 999, .inr false, .inl 999, .inr false, .inl 999]), .inl (0, [.inl 2, .inl 3, .inl 4, .inr false, .inl 5, .inl 6, .inl 7, .inr false]), .inr (false, 7), .inr (false, 7), .inr (false, 24), .inr (false, 4), .inr (false, 6), .inr (false, 6), .inl (0, [.inl 9, .inl 10, .inl 11, .inr false, .inl 12, .inl 13, .inl 14, .inr false]), .inr (false, 7), .inr (false, 7), .inr (false, 24), .inr (false, 4), .inr (false, 6), .inr (false, 6), .inl (1, [.inl 16]), .inr (true, 80), .inl (4, [.inl 15, .inl 18, .inl 19, .inl 20, .inr false]), .inr (true, 25), .inr (false, 25), .inr (false, 24), .inl (2, [.inl 1, .inl 15, .inl 17, .inl 22, .inl 23, .inl 24, .inr false, .inl 25, .inl 26, .inr false]), .inr (true, 1000), .inr (false, 1000), .inr (false, 1024), .inr (false, 6), .inr (false, 7), .inl (3, [.inl 999, .inl 999, .inl 28, .inl 29, .inl 999, .inr false, .inr true, .inr true]), .inr (false, 7), .inr (false, 6), .inr (false, 6)]
def tb_63 : List Shp := [.inl (5, [.inl 1, .inl 8, .inr false, .inl 15, .inl 17, .inl 21, .inl 999, .inl 999, .inr false, .inl 999, .inr false, .inl 999]), .inl (0, [.inl 2, .inl 3, .inl 4, .inr false, .inl 5, .inl 6, .inl 7, .inr false]), .inr (false, 7), .inr (false, 7), .inr (false, 24), .inr (false, 4), .inr (false, 6), .inr (false, 6), .inl (0, [.inl 9, .inl 10, .inl 11, .inr false, .inl 12, .inl 13, .inl 14, .inr false]), .inr (false, 7), .inr (false, 7), .inr (false, 24), .inr (false, 4), .inr (false, 6), .inr (false, 6), .inl (1, [.inl 16]), .inr (true, 80), .inl (4, [.inl 15, .inl 18, .inl 19, .inl 20, .inr false]), .inr (true, 25), .inr (false, 25), .inr (false, 24), .inl (2, [.inl 1, .inl 15, .inl 17, .inl 22, .inl 23, .inl 24, .inr false, .inl 25, .inl 26, .inr false]), .inr (true, 1000), .inr (false, 1000), .inr (false, 1024), .inr (false, 6), .inr (false, 7), .inl (3, [.inl 999, .inl 999, .inl 28, .inl 29, .inl 30, .inr false, .inr true, .inr true]), .inr (false, 7), .inr (false, 6), .inr (false, 6)]
def tb_64 : List Shp := [.inl (5, [.inl 1, .inl 8, .inr false, .inl 15, .inl 17, .inl 21, .inl 999, .inl 999, .inr false, .inl 999, .inr false, .inl 999]), .inl (0, [.inl 2, .inl 3, .inl 4, .inr false, .inl 5, .inl 6, .inl 7, .inr false]), .inr (false, 7), .inr (false, 7), .inr (false, 24), .inr (false, 4), .inr (false, 6), .inr (false, 6), .inl (0, [.inl 9, .inl 10, .inl 11, .inr false, .inl 12, .inl 13, .inl 14, .inr false]), .inr (false, 7), .inr (false, 7), .inr (false, 24), .inr (false, 4), .inr (false, 6), .inr (false, 6), .inl (1, [.inl 16]), .inr (true, 80), .inl (4, [.inl 15, .inl 18, .inl 19, .inl 20, .inr false]), .inr (true, 25), .inr (false, 25), .inr (false, 24), .inl (2, [.inl 1, .inl 15, .inl 17, .inl 22, .inl 23, .inl 24, .inr false, .inl 25, .inl 26, .inr false]), .inr (true, 1000), .inr (false, 1000), .inr (false, 1024), .inr (false, 6), .inr (false, 7), .inl (3, [.inl 1, .inl 999, .inl 28, .inl 29, .inl 30, .inr false, .inr true, .inr true]), .inr (false, 7), .inr (false, 6), .inr (false, 6)]
def tb_65 : List Shp := [.inl (5, [.inl 1, .inl 8, .inr false, .inl 15, .inl 17, .inl 21, .inl 999, .inl 999, .inr false, .inl 999, .inr false, .inl 999]), .inl (0, [.inl 2, .inl 3, .inl 4, .inr false, .inl 5, .inl 6, .inl 7, .inr false]), .inr (false, 7), .inr (false, 7), .inr (false, 24), .inr (false, 4), .inr (false, 6), .inr (false, 6), .inl (0, [.inl 9, .inl 10, .inl 11, .inr false, .inl 12, .inl 13, .inl 14, .inr false]), .inr (false, 7), .inr (false, 7), .inr (false, 24), .inr (false, 4), .inr (false, 6), .inr (false, 6), .inl (1, [.inl 16]), .inr (true, 80), .inl (4, [.inl 15, .inl 18, .inl 19, .inl 20, .inr false]), .inr (true, 25), .inr (false, 25), .inr (false, 24), .inl (2, [.inl 1, .inl 15, .inl 17, .inl 22, .inl 23, .inl 24, .inr false, .inl 25, .inl 26, .inr false]), .inr (true, 1000), .inr (false, 1000), .inr (false, 1024), .inr (false, 6), .inr (false, 7), .inl (3, [.inl 1, .inl 15, .inl 28, .inl 29, .inl 30, .inr false, .inr true, .inr true]), .inr (false, 7), .inr (false, 6), .inr (false, 6)]
def tb_66 : List Shp := [.inl (5, [.inl 1, .inl 8, .inr false, .inl 15, .inl 17, .inl 21, .inl 27, .inl 999, .inr false, .inl 999, .inr false, .inl 999]), .inl (0, [.inl 2, .inl 3, .inl 4, .inr false, .inl 5, .inl 6, .inl 7, .inr false]), .inr (false, 7), .inr (false, 7), .inr (false, 24), .inr (false, 4), .inr (false, 6), .inr (false, 6), .inl (0, [.inl 9, .inl 10, .inl 11, .inr false, .inl 12, .inl 13, .inl 14, .inr false]), .inr (false, 7), .inr (false, 7), .inr (false, 24), .inr (false, 4), .inr (false, 6), .inr (false, 6), .inl (1, [.inl 16]), .inr (true, 80), .inl (4, [.inl 15, .inl 18, .inl 19, .inl 20, .inr false]), .inr (true, 25), .inr (false, 25), .inr (false, 24), .inl (2, [.inl 1, .inl 15, .inl 17, .inl 22, .inl 23, .inl 24, .inr false, .inl 25, .inl 26, .inr false]), .inr (true, 1000), .inr (false, 1000), .inr (false, 1024), .inr (false, 6), .inr (false, 7), .inl (3, [.inl 1, .inl 15, .inl 28, .inl 29, .inl 30, .inr false, .inr true, .inr true]), .inr (false, 7), .inr (false, 6), .inr (false, 6)]
def tb_67 : List Shp := [.inl (5, [.inl 1, .inl 8, .inr false, .inl 15, .inl 17, .inl 21, .inl 27, .inl 999, .inr false, .inl 999, .inr false, .inl 999]), .inl (0, [.inl 2, .inl 3, .inl 4, .inr false, .inl 5, .inl 6, .inl 7, .inr false]), .inr (false, 7), .inr (false, 7), .inr (false, 24), .inr (false, 4), .inr (false, 6), .inr (false, 6), .inl (0, [.inl 9, .inl 10, .inl 11, .inr false, .inl 12, .inl 13, .inl 14, .inr false]), .inr (false, 7), .inr (false, 7), .inr (false, 24), .inr (false, 4), .inr (false, 6), .inr (false, 6), .inl (1, [.inl 16]), .inr (true, 80), .inl (4, [.inl 15, .inl 18, .inl 19, .inl 20, .inr false]), .inr (true, 25), .inr (false, 25), .inr (false, 24), .inl (2, [.inl 1, .inl 15, .inl 17, .inl 22, .inl 23, .inl 24, .inr false, .inl 25, .inl 26, .inr false]), .inr (true, 1000), .inr (false, 1000), .inr (false, 1024), .inr (false, 6), .inr (false, 7), .inl (3, [.inl 1, .inl 15, .inl 28, .inl 29, .inl 30, .inr false, .inr true, .inr true]), .inr (false, 7), .inr (false, 6), .inr (false, 6), .inr (false, 24)]
def tb_68 : List Shp := [.inl (5, [.inl 1, .inl 8, .inr false, .inl 15, .inl 17, .inl 21, .inl 27, .inl 31, .inr false, .inl 999, .inr false, .inl 999]), .inl (0, [.inl 2, .inl 3, .inl 4, .inr false, .inl 5, .inl 6, .inl 7, .inr false]), .inr (false, 7), .inr (false, 7), .inr (false, 24), .inr (false, 4), .inr (false, 6), .inr (false, 6), .inl (0, [.inl 9, .inl 10, .inl 11, .inr false, .inl 12, .inl 13, .inl 14, .inr false]), .inr (false, 7), .inr (false, 7), .inr (false, 24), .inr (false, 4), .inr (false, 6), .inr (false, 6), .inl (1, [.inl 16]), .inr (true, 80), .inl (4, [.inl 15, .inl 18, .inl 19, .inl 20, .inr false]), .inr (true, 25), .inr (false, 25), .inr (false, 24), .inl (2, [.inl 1, .inl 15, .inl 17, .inl 22, .inl 23, .inl 24, .inr false, .inl 25, .inl 26, .inr false]), .inr (true, 1000), .inr (false, 1000), .inr (false, 1024), .inr (false, 6), .inr (false, 7), .inl (3, [.inl 1, .inl 15, .inl 28, .inl 29, .inl 30, .inr false, .inr true, .inr true]), .inr (false, 7), .inr (false, 6), .inr (false, 6), .inr (false, 24)]
def tb_69 : List Shp := [.inl (5, [.inl 1, .inl 8, .inr false, .inl 15, .inl 17, .inl 21, .inl 27, .inl 31, .inr false, .inl 999, .inr false, .inl 999]), .inl (0, [.inl 2, .inl 3, .inl 4, .inr false, .inl 5, .inl 6, .inl 7, .inr false]), .inr (false, 7), .inr (false, 7), .inr (false, 24), .inr (false, 4), .inr (false, 6), .inr (false, 6), .inl (0, [.inl 9, .inl 10, .inl 11, .inr false, .inl 12, .inl 13, .inl 14, .inr false]), .inr (false, 7), .inr (false, 7), .inr (false, 24), .inr (false, 4), .inr (false, 6), .inr (false, 6), .inl (1, [.inl 16]), .inr (true, 80), .inl (4, [.inl 15, .inl 18, .inl 19, .inl 20, .inr false]), .inr (true, 25), .inr (false, 25), .inr (false, 24), .inl (2, [.inl 1, .inl 15, .inl 17, .inl 22, .inl 23, .inl 24, .inr false, .inl 25, .inl 26, .inr false]), .inr (true, 1000), .inr (false, 1000), .inr (false, 1024), .inr (false, 6), .inr (false, 7), .inl (3, [.inl 1, .inl 15, .inl 28, .inl 29, .inl 30, .inr false, .inr true, .inr true]), .inr (false, 7), .inr (false, 6), .inr (false, 6), .inr (false, 24), .inr (false, 6)]
def tb_70 : List Shp := [.inl (5, [.inl 1, .inl 8, .inr false, .inl 15, .inl 17, .inl 21, .inl 27, .inl 31, .inr false, .inl 32, .inr false, .inl 999]), .inl (0, [.inl 2, .inl 3, .inl 4, .inr false, .inl 5, .inl 6, .inl 7, .inr false]), .inr (false, 7), .inr (false, 7), .inr (false, 24), .inr (false, 4), .inr (false, 6), .inr (false, 6), .inl (0, [.inl 9, .inl 10, .inl 11, .inr false, .inl 12, .inl 13, .inl 14, .inr false]), .inr (false, 7), .inr (false, 7), .inr (false, 24), .inr (false, 4), .inr (false, 6), .inr (false, 6), .inl (1, [.inl 16]), .inr (true, 80), .inl (4, [.inl 15, .inl 18, .inl 19, .inl 20, .inr false]), .inr (true, 25), .inr (false, 25), .inr (false, 24), .inl (2, [.inl 1, .inl 15, .inl 17, .inl 22, .inl 23, .inl 24, .inr false, .inl 25, .inl 26, .inr false]), .inr (true, 1000), .inr (false, 1000), .inr (false, 1024), .inr (false, 6), .inr (false, 7), .inl (3, [.inl 1, .inl 15, .inl 28, .inl 29, .inl 30, .inr false, .inr true, .inr true]), .inr (false, 7), .inr (false, 6), .inr (false, 6), .inr (false, 24), .inr (false, 6)]
def tb_71 : List Shp := [.inl (5, [.inl 1, .inl 8, .inr false, .inl 15, .inl 17, .inl 21, .inl 27, .inl 31, .inr false, .inl 32, .inr false, .inl 999]), .inl (0, [.inl 2, .inl 3, .inl 4, .inr false, .inl 5, .inl 6, .inl 7, .inr false]), .inr (false, 7), .inr (false, 7), .inr (false, 24), .inr (false, 4), .inr (false, 6), .inr (false, 6), .inl (0, [.inl 9, .inl 10, .inl 11, .inr false, .inl 12, .inl 13, .inl 14, .inr false]), .inr (false, 7), .inr (false, 7), .inr (false, 24), .inr (false, 4), .inr (false, 6), .inr (false, 6), .inl (1, [.inl 16]), .inr (true, 80), .inl (4, [.inl 15, .inl 18, .inl 19, .inl 20, .inr false]), .inr (true, 25), .inr (false, 25), .inr (false, 24), .inl (2, [.inl 1, .inl 15, .inl 17, .inl 22, .inl 23, .inl 24, .inr false, .inl 25, .inl 26, .inr false]), .inr (true, 1000), .inr (false, 1000), .inr (false, 1024), .inr (false, 6), .inr (false, 7), .inl (3, [.inl 1, .inl 15, .inl 28, .inl 29, .inl 30, .inr false, .inr true, .inr true]), .inr (false, 7), .inr (false, 6), .inr (false, 6), .inr (false, 24), .inr (false, 6), .inr (false, 7)]
def tb_72 : List Shp := [.inl (5, [.inl 1, .inl 8, .inr false, .inl 15, .inl 17, .inl 21, .inl 27, .inl 31, .inr false, .inl 32, .inr false, .inl 33]), .inl (0, [.inl 2, .inl 3, .inl 4, .inr false, .inl 5, .inl 6, .inl 7, .inr false]), .inr (false, 7), .inr (false, 7), .inr (false, 24), .inr (false, 4), .inr (false, 6), .inr (false, 6), .inl (0, [.inl 9, .inl 10, .inl 11, .inr false, .inl 12, .inl 13, .inl 14, .inr false]), .inr (false, 7), .inr (false, 7), .inr (false, 24), .inr (false, 4), .inr (false, 6), .inr (false, 6), .inl (1, [.inl 16]), .inr (true, 80), .inl (4, [.inl 15, .inl 18, .inl 19, .inl 20, .inr false]), .inr (true, 25), .inr (false, 25), .inr (false, 24), .inl (2, [.inl 1, .inl 15, .inl 17, .inl 22, .inl 23, .inl 24, .inr false, .inl 25, .inl 26, .inr false]), .inr (true, 1000), .inr (false, 1000), .inr (false, 1024), .inr (false, 6), .inr (false, 7), .inl (3, [.inl 1, .inl 15, .inl 28, .inl 29, .inl 30, .inr false, .inr true, .inr true]), .inr (false, 7), .inr (false, 6), .inr (false, 6), .inr (false, 24), .inr (false, 6), .inr (false, 7)]
def tb_73 : List Shp := [.inl (5, [.inl 1, .inl 8, .inr false, .inl 15, .inl 17, .inl 21, .inl 27, .inl 31, .inr false, .inl 32, .inr false, .inl 33]), .inl (0, [.inl 2, .inl 3, .inl 4, .inr false, .inl 5, .inl 6, .inl 7, .inr false]), .inr (false, 7), .inr (false, 7), .inr (false, 24), .inr (false, 4), .inr (false, 6), .inr (false, 6), .inl (0, [.inl 9, .inl 10, .inl 11, .inr false, .inl 12, .inl 13, .inl 14, .inr false]), .inr (false, 7), .inr (false, 7), .inr (false, 24), .inr (false, 4), .inr (false, 6), .inr (false, 6), .inl (1, [.inl 16]), .inr (true, 80), .inl (4, [.inl 15, .inl 18, .inl 19, .inl 20, .inr false]), .inr (true, 25), .inr (false, 25), .inr (false, 24), .inl (2, [.inl 1, .inl 15, .inl 17, .inl 22, .inl 23, .inl 24, .inr false, .inl 25, .inl 26, .inr false]), .inr (true, 1000), .inr (false, 1000), .inr (false, 1024), .inr (false, 6), .inr (false, 7), .inl (3, [.inl 1, .inl 15, .inl 28, .inl 29, .inl 30, .inr false, .inr true, .inr true]), .inr (false, 7), .inr (false, 6), .inr (false, 6), .inr (false, 24), .inr (false, 6), .inr (false, 7), .inl (6, [.inl 999, .inl 999, .inl 999, .inr false, .inl 999, .inr false, .inl 999, .inl 999, .inr false, .inr false, .inr false, .inl 999, .inl 999, .inl 999, .inl 999, .inr false, .inr false, .inr false, .inr false, .inr false, .inr false, .inr false, .inr false, .inr false])]
def tb_74 : List Shp := [.inl (5, [.inl 1, .inl 8, .inr false, .inl 15, .inl 17, .inl 21, .inl 27, .inl 31, .inr false, .inl 32, .inr false, .inl 33]), .inl (0, [.inl 2, .inl 3, .inl 4, .inr false, .inl 5, .inl 6, .inl 7, .inr false]), .inr (false, 7), .inr (false, 7), .inr (false, 24), .inr (false, 4), .inr (false, 6), .inr (false, 6), .inl (0, [.inl 9, .inl 10, .inl 11, .inr false, .inl 12, .inl 13, .inl 14, .inr false]), .inr (false, 7), .inr (false, 7), .inr (false, 24), .inr (false, 4), .inr (false, 6), .inr (false, 6), .inl (1, [.inl 16]), .inr (true, 80), .inl (4, [.inl 15, .inl 18, .inl 19, .inl 20, .inr false]), .inr (true, 25), .inr (false, 25), .inr (false, 24), .inl (2, [.inl 1, .inl 15, .inl 17, .inl 22, .inl 23, .inl 24, .inr false, .inl 25, .inl 26, .inr false]), .inr (true, 1000), .inr (false, 1000), .inr (false, 1024), .inr (false, 6), .inr (false, 7), .inl (3, [.inl 1, .inl 15, .inl 28, .inl 29, .inl 30, .inr false, .inr true, .inr true]), .inr (false, 7), .inr (false, 6), .inr (false, 6), .inr (false, 24), .inr (false, 6), .inr (false, 7), .inl (6, [.inl 999, .inl 999, .inl 999, .inr false, .inl 999, .inr false, .inl 999, .inl 999, .inr false, .inr false, .inr false, .inl 999, .inl 999, .inl 999, .inl 999, .inr false, .inr false, .inr false, .inr false, .inr false, .inr false, .inr false, .inr false, .inr false]), .inr (false, 7)]
def tb_75 : List Shp := [.inl (5, [.inl 1, .inl 8, .inr false, .inl 15, .inl 17, .inl 21, .inl 27, .inl 31, .inr false, .inl 32, .inr false, .inl 33]), .inl (0, [.inl 2, .inl 3, .inl 4, .inr false, .inl 5, .inl 6, .inl 7, .inr false]), .inr (false, 7), .inr (false, 7), .inr (false, 24), .inr (false, 4), .inr (false, 6), .inr (false, 6), .inl (0, [.inl 9, .inl 10, .inl 11, .inr false, .inl 12, .inl 13, .inl 14, .inr false]), .inr (false, 7), .inr (false, 7), .inr (false, 24), .inr (false, 4), .inr (false, 6), .inr (false, 6), .inl (1, [.inl 16]), .inr (true, 80), .inl (4, [.inl 15, .inl 18, .inl 19, .inl 20, .inr false]), .inr (true, 25), .inr (false, 25), .inr (false, 24), .inl (2, [.inl 1, .inl 15, .inl 17, .inl 22, .inl 23, .inl 24, .inr false, .inl 25, .inl 26, .inr false]), .inr (true, 1000), .inr (false, 1000), .inr (false, 1024), .inr (false, 6), .inr (false, 7), .inl (3, [.inl 1, .inl 15, .inl 28, .inl 29, .inl 30, .inr false, .inr true, .inr true]), .inr (false, 7), .inr (false, 6), .inr (false, 6), .inr (false, 24), .inr (false, 6), .inr (false, 7), .inl (6, [.inl 35, .inl 999, .inl 999, .inr false, .inl 999, .inr false, .inl 999, .inl 999, .inr false, .inr false, .inr false, .inl 999, .inl 999, .inl 999, .inl 999, .inr false, .inr false, .inr false, .inr false, .inr false, .inr false, .inr false, .inr false, .inr false]), .inr (false, 7)]
def tb_76 : List Shp := [.inl (5, [.inl 1, .inl 8, .inr false, .inl 15, .inl 17, .inl 21, .inl 27, .inl 31, .inr false, .inl 32, .inr false, .inl 33]), .inl (0, [.inl 2, .inl 3, .inl 4, .inr false, .inl 5, .inl 6, .inl 7, .inr false]), .inr (false, 7), .inr (false, 7), .inr (false, 24), .inr (false, 4), .inr (false, 6), .inr (false, 6), .inl (0, [.inl 9, .inl 10, .inl 11, .inr false, .inl 12, .inl 13, .inl 14, .inr false]), .inr (false, 7), .inr (false, 7), .inr (false, 24), .inr (false, 4), .inr (false, 6), .inr (false, 6), .inl (1, [.inl 16]), .inr (true, 80), .inl (4, [.inl 15, .inl 18, .inl 19, .inl 20, .inr false]), .inr (true, 25), .inr (false, 25), .inr (false, 24), .inl (2, [.inl 1, .inl 15, .inl 17, .inl 22, .inl 23, .inl 24, .inr false, .inl 25, .inl 26, .inr false]), .inr (true, 1000), .inr (false, 1000), .inr (false, 1024), .inr (false, 6), .inr (false, 7), .inl (3, [.inl 1, .inl 15, .inl 28, .inl 29, .inl 30, .inr false, .inr true, .inr true]), .inr (false, 7), .inr (false, 6), .inr (false, 6), .inr (false, 24), .inr (false, 6), .inr (false, 7), .inl (6, [.inl 35, .inl 999, .inl 999, .inr false, .inl 999, .inr false, .inl 999, .inl 999, .inr false, .inr false, .inr false, .inl 999, .inl 999, .inl 999, .inl 999, .inr false, .inr false, .inr false, .inr false, .inr false, .inr false, .inr false, .inr false, .inr false]), .inr (false, 7), .inr (false, 56)]
def tb_77 : List Shp := [.inl (5, [.inl 1, .inl 8, .inr false, .inl 15, .inl 17, .inl 21, .inl 27, .inl 31, .inr false, .inl 32, .inr false, .inl 33]), .inl (0, [.inl 2, .inl 3, .inl 4, .inr false, .inl 5, .inl 6, .inl 7, .inr false]), .inr (false, 7), .inr (false, 7), .inr (false, 24), .inr (false, 4), .inr (false, 6), .inr (false, 6), .inl (0, [.inl 9, .inl 10, .inl 11, .inr false, .inl 12, .inl 13, .inl 14, .inr false]), .inr (false, 7), .inr (false, 7), .inr (false, 24), .inr (false, 4), .inr (false, 6), .inr (false, 6), .inl (1, [.inl 16]), .inr (true, 80), .inl (4, [.inl 15, .inl 18, .inl 19, .inl 20, .inr false]), .inr (true, 25), .inr (false, 25), .inr (false, 24), .inl (2, [.inl 1, .inl 15, .inl 17, .inl 22, .inl 23, .inl 24, .inr false, .inl 25, .inl 26, .inr false]), .inr (true, 1000), .inr (false, 1000), .inr (false, 1024), .inr (false, 6), .inr (false, 7), .inl (3, [.inl 1, .inl 15, .inl 28, .inl 29, .inl 30, .inr false, .inr true, .inr true]), .inr (false, 7), .inr (false, 6), .inr (false, 6), .inr (false, 24), .inr (false, 6), .inr (false, 7), .inl (6, [.inl 35, .inl 36, .inl 999, .inr false, .inl 999, .inr false, .inl 999, .inl 999, .inr false, .inr false, .inr false, .inl 999, .inl 999, .inl 999, .inl 999, .inr false, .inr false, .inr false, .inr false, .inr false, .inr false, .inr false, .inr false, .inr false]), .inr (false, 7), .inr (false, 56)]
def tb_78 : List Shp := [.inl (5, [.inl 1, .inl 8, .inr false, .inl 15, .inl 17, .inl 21, .inl 27, .inl 31, .inr false, .inl 32, .inr false, .inl 33]), .inl (0, [.inl 2, .inl 3, .inl 4, .inr false, .inl 5, .inl 6, .inl 7, .inr false]), .inr (false, 7), .inr (false, 7), .inr (false, 24), .inr (false, 4), .inr (false, 6), .inr (false, 6), .inl (0, [.inl 9, .inl 10, .inl 11, .inr false, .inl 12, .inl 13, .inl 14, .inr false]), .inr (false, 7), .inr (false, 7), .inr (false, 24), .inr (false, 4), .inr (false, 6), .inr (false, 6), .inl (1, [.inl 16]), .inr (true, 80), .inl (4, [.inl 15, .inl 18, .inl 19, .inl 20, .inr false]), .inr (true, 25), .inr (false, 25), .inr (false, 24), .inl (2, [.inl 1, .inl 15, .inl 17, .inl 22, .inl 23, .inl 24, .inr false, .inl 25, .inl 26, .inr false]), .inr (true, 1000), .inr (false, 1000), .inr (false, 1024), .inr (false, 6), .inr (false, 7), .inl (3, [.inl 1, .inl 15, .inl 28, .inl 29, .inl 30, .inr false, .inr true, .inr true]), .inr (false, 7), .inr (false, 6), .inr (false, 6), .inr (false, 24), .inr (false, 6), .inr (false, 7), .inl (6, [.inl 35, .inl 36, .inl 999, .inr false, .inl 999, .inr false, .inl 999, .inl 999, .inr false, .inr false, .inr false, .inl 999, .inl 999, .inl 999, .inl 999, .inr false, .inr false, .inr false, .inr false, .inr false, .inr false, .inr false, .inr false, .inr false]), .inr (false, 7), .inr (false, 56), .inr (false, 56)]
def tb_79 : List Shp := [.inl (5, [.inl 1, .inl 8, .inr false, .inl 15, .inl 17, .inl 21, .inl 27, .inl 31, .inr false, .inl 32, .inr false, .inl 33]), .inl (0, [.inl 2, .inl 3, .inl 4, .inr false, .inl 5, .inl 6, .inl 7, .inr false]), .inr (false, 7), .inr (false, 7), .inr (false, 24), .inr (false, 4), .inr (false, 6), .inr (false, 6), .inl (0, [.inl 9, .inl 10, .inl 11, .inr false, .inl 12, .inl 13, .inl 14, .inr false]), .inr (false, 7), .inr (false, 7), .inr (false, 24), .inr (false, 4), .inr (false, 6), .inr (false, 6), .inl (1, [.inl 16]), .inr (true, 80), .inl (4, [.inl 15, .inl 18, .inl 19, .inl 20, .inr false]), .inr (true, 25), .inr (false, 25), .inr (false, 24), .inl (2, [.inl 1, .inl 15, .inl 17, .inl 22, .inl 23, .inl 24, .inr false, .inl 25, .inl 26, .inr false]), .inr (true, 1000), .inr (false, 1000), .inr (false, 1024), .inr (false, 6), .inr (false, 7), .inl (3, [.inl 1, .inl 15, .inl 28, .inl 29, .inl 30, .inr false, .inr true, .inr true]), .inr (false, 7), .inr (false, 6), .inr (false, 6), .inr (false, 24), .inr (false, 6), .inr (false, 7), .inl (6, [.inl 35, .inl 36, .inl 37, .inr false, .inl 999, .inr false, .inl 999, .inl 999, .inr false, .inr false, .inr false, .inl 999, .inl 999, .inl 999, .inl 999, .inr false, .inr false, .inr false, .inr false, .inr false, .inr false, .inr false, .inr false, .inr false]), .inr (false, 7), .inr (false, 56), .inr (false, 56)]
def tb_80 : List Shp := [.inl (5, [.inl 1, .inl 8, .inr false, .inl 15, .inl 17, .inl 21, .inl 27, .inl 31, .inr false, .inl 32, .inr false, .inl 33]), .inl (0, [.inl 2, .inl 3, .inl 4, .inr false, .inl 5, .inl 6, .inl 7, .inr false]), .inr (false, 7), .inr (false, 7), .inr (false, 24), .inr (false, 4), .inr (false, 6), .inr (false, 6), .inl (0, [.inl 9, .inl 10, .inl 11, .inr false, .inl 12, .inl 13, .inl 14, .inr false]), .inr (false, 7), .inr (false, 7), .inr (false, 24), .inr (false, 4), .inr (false, 6), .inr (false, 6), .inl (1, [.inl 16]), .inr (true, 80), .inl (4, [.inl 15, .inl 18, .inl 19, .inl 20, .inr false]), .inr (true, 25), .inr (false, 25), .inr (false, 24), .inl (2, [.inl 1, .inl 15, .inl 17, .inl 22, .inl 23, .inl 24, .inr false, .inl 25, .inl 26, .inr false]), .inr (true, 1000), .inr (false, 1000), .inr (false, 1024), .inr (false, 6), .inr (false, 7), .inl (3, [.inl 1, .inl 15, .inl 28, .inl 29, .inl 30, .inr false, .inr true, .inr true]), .inr (false, 7), .inr (false, 6), .inr (false, 6), .inr (false, 24), .inr (false, 6), .inr (false, 7), .inl (6, [.inl 35, .inl 36, .inl 37, .inr false, .inl 999, .inr false, .inl 999, .inl 999, .inr false, .inr false, .inr false, .inl 999, .inl 999, .inl 999, .inl 999, .inr false, .inr false, .inr false, .inr false, .inr false, .inr false, .inr false, .inr false, .inr false]), .inr (false, 7), .inr (false, 56), .inr (false, 56), .inr (false, 24)]
def tb_81 : List Shp := [.inl (5, [.inl 1, .inl 8, .inr false, .inl 15, .inl 17, .inl 21, .inl 27, .inl 31, .inr false, .inl 32, .inr false, .inl 33]), .inl (0, [.inl 2, .inl 3, .inl 4, .inr false, .inl 5, .inl 6, .inl 7, .inr false]), .inr (false, 7), .inr (false, 7), .inr (false, 24), .inr (false, 4), .inr (false, 6), .inr (false, 6), .inl (0, [.inl 9, .inl 10, .inl 11, .inr false, .inl 12, .inl 13, .inl 14, .inr false]), .inr (false, 7), .inr (false, 7), .inr (false, 24), .inr (false, 4), .inr (false, 6), .inr (false, 6), .inl (1, [.inl 16]), .inr (true, 80), .inl (4, [.inl 15, .inl 18, .inl 19, .inl 20, .inr false]), .inr (true, 25), .inr (false, 25), .inr (false, 24), .inl (2, [.inl 1, .inl 15, .inl 17, .inl 22, .inl 23, .inl 24, .inr false, .inl 25, .inl 26, .inr false]), .inr (true, 1000), .inr (false, 1000), .inr (false, 1024), .inr (false, 6), .inr (false, 7), .inl (3, [.inl 1, .inl 15, .inl 28, .inl 29, .inl 30, .inr false, .inr true, .inr true]), .inr (false, 7), .inr (false, 6), .inr (false, 6), .inr (false, 24), .inr (false, 6), .inr (false, 7), .inl (6, [.inl 35, .inl 36, .inl 37, .inr false, .inl 38, .inr false, .inl 999, .inl 999, .inr false, .inr false, .inr false, .inl 999, .inl 999, .inl 999, .inl 999, .inr false, .inr false, .inr false, .inr false, .inr false, .inr false, .inr false, .inr false, .inr false]), .inr (false, 7), .inr (false, 56), .inr (false, 56), .inr (false, 24)]
def tb_82 : List Shp := [.inl (5, [.inl 1, .inl 8, .inr false, .inl 15, .inl 17, .inl 21, .inl 27, .inl 31, .inr false, .inl 32, .inr false, .inl 33]), .inl (0, [.inl 2, .inl 3, .inl 4, .inr false, .inl 5, .inl 6, .inl 7, .inr false]), .inr (false, 7), .inr (false, 7), .inr (false, 24), .inr (false, 4), .inr (false, 6), .inr (false, 6), .inl (0, [.inl 9, .inl 10, .inl 11, .inr false, .inl 12, .inl 13, .inl 14, .inr false]), .inr (false, 7), .inr (false, 7), .inr (false, 24), .inr (false, 4), .inr (false, 6), .inr (false, 6), .inl (1, [.inl 16]), .inr (true, 80), .inl (4, [.inl 15, .inl 18, .inl 19, .inl 20, .inr false]), .inr (true, 25), .inr (false, 25), .inr (false, 24), .inl (2, [.inl 1, .inl 15, .inl 17, .inl 22, .inl 23, .inl 24, .inr false, .inl 25, .inl 26, .inr false]), .inr (true, 1000), .inr (false, 1000), .inr (false, 1024), .inr (false, 6), .inr (false, 7), .inl (3, [.inl 1, .inl 15, .inl 28, .inl 29, .inl 30, .inr false, .inr true, .inr true]), .inr (false, 7), .inr (false, 6), .inr (false, 6), .inr (false, 24), .inr (false, 6), .inr (false, 7), .inl (6, [.inl 35, .inl 36, .inl 37, .inr false, .inl 38, .inr false, .inl 999, .inl 999, .inr false, .inr false, .inr false, .inl 999, .inl 999, .inl 999, .inl 999, .inr false, .inr false, .inr false, .inr false, .inr false, .inr false, .inr false, .inr false, .inr false]), .inr (false, 7), .inr (false, 56), .inr (false, 56), .inr (false, 24), .inr (false, 125)]
def tb_83 : List Shp := [.inl (5, [.inl 1, .inl 8, .inr false, .inl 15, .inl 17, .inl 21, .inl 27, .inl 31, .inr false, .inl 32, .inr false, .inl 33]), .inl (0, [.inl 2, .inl 3, .inl 4, .inr false, .inl 5, .inl 6, .inl 7, .inr false]), .inr (false, 7), .inr (false, 7), .inr (false, 24), .inr (false, 4), .inr (false, 6), .inr (false, 6), .inl (0, [.inl 9, .inl 10, .inl 11, .inr false, .inl 12, .inl 13, .inl 14, .inr false]), .inr (false, 7), .inr (false, 7), .inr (false, 24), .inr (false, 4), .inr (false, 6), .inr (false, 6), .inl (1, [.inl 16]), .inr (true, 80), .inl (4, [.inl 15, .inl 18, .inl 19, .inl 20, .inr false]), .inr (true, 25), .inr (false, 25), .inr (false, 24), .inl (2, [.inl 1, .inl 15, .inl 17, .inl 22, .inl 23, .inl 24, .inr false, .inl 25, .inl 26, .inr false]), .inr (true, 1000), .inr (false, 1000), .inr (false, 1024), .inr (false, 6), .inr (false, 7), .inl (3, [.inl 1, .inl 15, .inl 28, .inl 29, .inl 30, .inr false, .inr true, .inr true]), .inr (false, 7), .inr (false, 6), .inr (false, 6), .inr (false, 24), .inr (false, 6), .inr (false, 7), .inl (6, [.inl 35, .inl 36, .inl 37, .inr false, .inl 38, .inr false, .inl 39, .inl 999, .inr false, .inr false, .inr false, .inl 999, .inl 999, .inl 999, .inl 999, .inr false, .inr false, .inr false, .inr false, .inr false, .inr false, .inr false, .inr false, .inr false]), .inr (false, 7), .inr (false, 56), .inr (false, 56), .inr (false, 24), .inr (false, 125)]
def tb_84 : List Shp := [.inl (5, [.inl 1, .inl 8, .inr false, .inl 15, .inl 17, .inl 21, .inl 27, .inl 31, .inr false, .inl 32, .inr false, .inl 33]), .inl (0, [.inl 2, .inl 3, .inl 4, .inr false, .inl 5, .inl 6, .inl 7, .inr false]), .inr (false, 7), .inr (false, 7), .inr (false, 24), .inr (false, 4), .inr (false, 6), .inr (false, 6), .inl (0, [.inl 9, .inl 10, .inl 11, .inr false, .inl 12, .inl 13, .inl 14, .inr false]), .inr (false, 7), .inr (false, 7), .inr (false, 24), .inr (false, 4), .inr (false, 6), .inr (false, 6), .inl (1, [.inl 16]), .inr (true, 80), .inl (4, [.inl 15, .inl 18, .inl 19, .inl 20, .inr false]), .inr (true, 25), .inr (false, 25), .inr (false, 24), .inl (2, [.inl 1, .inl 15, .inl 17, .inl 22, .inl 23, .inl 24, .inr false, .inl 25, .inl 26, .inr false]), .inr (true, 1000), .inr (false, 1000), .inr (false, 1024), .inr (false, 6), .inr (false, 7), .inl (3, [.inl 1, .inl 15, .inl 28, .inl 29, .inl 30, .inr false, .inr true, .inr true]), .inr (false, 7), .inr (false, 6), .inr (false, 6), .inr (false, 24), .inr (false, 6), .inr (false, 7), .inl (6, [.inl 35, .inl 36, .inl 37, .inr false, .inl 38, .inr false, .inl 39, .inl 999, .inr false, .inr false, .inr false, .inl 999, .inl 999, .inl 999, .inl 999, .inr false, .inr false, .inr false, .inr false, .inr false, .inr false, .inr false, .inr false, .inr false]), .inr (false, 7), .inr (false, 56), .inr (false, 56), .inr (false, 24), .inr (false, 125), .inr (false, 24)]
def tb_85 : List Shp := [.inl (5, [.inl 1, .inl 8, .inr false, .inl 15, .inl 17, .inl 21, .inl 27, .inl 31, .inr false, .inl 32, .inr false, .inl 33]), .inl (0, [.inl 2, .inl 3, .inl 4, .inr false, .inl 5, .inl 6, .inl 7, .inr false]), .inr (false, 7), .inr (false, 7), .inr (false, 24), .inr (false, 4), .inr (false, 6), .inr (false, 6), .inl (0, [.inl 9, .inl 10, .inl 11, .inr false, .inl 12, .inl 13, .inl 14, .inr false]), .inr (false, 7), .inr (false, 7), .inr (false, 24), .inr (false, 4), .inr (false, 6), .inr (false, 6), .inl (1, [.inl 16]), .inr (true, 80), .inl (4, [.inl 15, .inl 18, .inl 19, .inl 20, .inr false]), .inr (true, 25), .inr (false, 25), .inr (false, 24), .inl (2, [.inl 1, .inl 15, .inl 17, .inl 22, .inl 23, .inl 24, .inr false, .inl 25, .inl 26, .inr false]), .inr (true, 1000), .inr (false, 1000), .inr (false, 1024), .inr (false, 6), .inr (false, 7), .inl (3, [.inl 1, .inl 15, .inl 28, .inl 29, .inl 30, .inr false, .inr true, .inr true]), .inr (false, 7), .inr (false, 6), .inr (false, 6), .inr (false, 24), .inr (false, 6), .inr (false, 7), .inl (6, [.inl 35, .inl 36, .inl 37, .inr false, .inl 38, .inr false, .inl 39, .inl 40, .inr false, .inr false, .inr false, .inl 999, .inl 999, .inl 999, .inl 999, .inr false, .inr false, .inr false, .inr false, .inr false, .inr false, .inr false, .inr false, .inr false]), .inr (false, 7), .inr (false, 56), .inr (false, 56), .inr (false, 24), .inr (false, 125), .inr (false, 24)]
def tb_86 : List Shp := [.inl (5, [.inl 1, .inl 8, .inr false, .inl 15, .inl 17, .inl 21, .inl 27, .inl 31, .inr false, .inl 32, .inr false, .inl 33]), .inl (0, [.inl 2, .inl 3, .inl 4, .inr false, .inl 5, .inl 6, .inl 7, .inr false]), .inr (false, 7), .inr (false, 7), .inr (false, 24), .inr (false, 4), .inr (false, 6), .inr (false, 6), .inl (0, [.inl 9, .inl 10, .inl 11, .inr false, .inl 12, .inl 13, .inl 14, .inr false]), .inr (false, 7), .inr (false, 7), .inr (false, 24), .inr (false, 4), .inr (false, 6), .inr (false, 6), .inl (1, [.inl 16]), .inr (true, 80), .inl (4, [.inl 15, .inl 18, .inl 19, .inl 20, .inr false]), .inr (true, 25), .inr (false, 25), .inr (false, 24), .inl (2, [.inl 1, .inl 15, .inl 17, .inl 22, .inl 23, .inl 24, .inr false, .inl 25, .inl 26, .inr false]), .inr (true, 1000), .inr (false, 1000), .inr (false, 1024), .inr (false, 6), .inr (false, 7), .inl (3, [.inl 1, .inl 15, .inl 28, .inl 29, .inl 30, .inr false, .inr true, .inr true]), .inr (false, 7), .inr (false, 6), .inr (false, 6), .inr (false, 24), .inr (false, 6), .inr (false, 7), .inl (6, [.inl 35, .inl 36, .inl 37, .inr false, .inl 38, .inr false, .inl 39, .inl 40, .inr false, .inr false, .inr false, .inl 999, .inl 999, .inl 999, .inl 999, .inr false, .inr false, .inr false, .inr false, .inr false, .inr false, .inr false, .inr false, .inr false]), .inr (false, 7), .inr (false, 56), .inr (false, 56), .inr (false, 24), .inr (false, 125), .inr (false, 24), .inr (false, 7)]
def tb_87 : List Shp := [.inl (5, [.inl 1, .inl 8, .inr false, .inl 15, .inl 17, .inl 21, .inl 27, .inl 31, .inr false, .inl 32, .inr false, .inl 33]), .inl (0, [.inl 2, .inl 3, .inl 4, .inr false, .inl 5, .inl 6, .inl 7, .inr false]), .inr (false, 7), .inr (false, 7), .inr (false, 24), .inr (false, 4), .inr (false, 6), .inr (false, 6), .inl (0, [.inl 9, .inl 10, .inl 11, .inr false, .inl 12, .inl 13, .inl 14, .inr false]), .inr (false, 7), .inr (false, 7), .inr (false, 24), .inr (false, 4), .inr (false, 6), .inr (false, 6), .inl (1, [.inl 16]), .inr (true, 80), .inl (4, [.inl 15, .inl 18, .inl 19, .inl 20, .inr false]), .inr (true, 25), .inr (false, 25), .inr (false, 24), .inl (2, [.inl 1, .inl 15, .inl 17, .inl 22, .inl 23, .inl 24, .inr false, .inl 25, .inl 26, .inr false]), .inr (true, 1000), .inr (false, 1000), .inr (false, 1024), .inr (false, 6), .inr (false, 7), .inl (3, [.inl 1, .inl 15, .inl 28, .inl 29, .inl 30, .inr false, .inr true, .inr true]), .inr (false, 7), .inr (false, 6), .inr (false, 6), .inr (false, 24), .inr (false, 6), .inr (false, 7), .inl (6, [.inl 35, .inl 36, .inl 37, .inr false, .inl 38, .inr false, .inl 39, .inl 40, .inr false, .inr false, .inr false, .inl 41, .inl 999, .inl 999, .inl 999, .inr false, .inr false, .inr false, .inr false, .inr false, .inr false, .inr false, .inr false, .inr false]), .inr (false, 7), .inr (false, 56), .inr (false, 56), .inr (false, 24), .inr (false, 125), .inr (false, 24), .inr (false, 7)]
def tb_88 : List Shp := [.inl (5, [.inl 1, .inl 8, .inr false, .inl 15, .inl 17, .inl 21, .inl 27, .inl 31, .inr false, .inl 32, .inr false, .inl 33]), .inl (0, [.inl 2, .inl 3, .inl 4, .inr false, .inl 5, .inl 6, .inl 7, .inr false]), .inr (false, 7), .inr (false, 7), .inr (false, 24), .inr (false, 4), .inr (false, 6), .inr (false, 6), .inl (0, [.inl 9, .inl 10, .inl 11, .inr false, .inl 12, .inl 13, .inl 14, .inr false]), .inr (false, 7), .inr (false, 7), .inr (false, 24), .inr (false, 4), .inr (false, 6), .inr (false, 6), .inl (1, [.inl 16]), .inr (true, 80), .inl (4, [.inl 15, .inl 18, .inl 19, .inl 20, .inr false]), .inr (true, 25), .inr (false, 25), .inr (false, 24), .inl (2, [.inl 1, .inl 15, .inl 17, .inl 22, .inl 23, .inl 24, .inr false, .inl 25, .inl 26, .inr false]), .inr (true, 1000), .inr (false, 1000), .inr (false, 1024), .inr (false, 6), .inr (false, 7), .inl (3, [.inl 1, .inl 15, .inl 28, .inl 29, .inl 30, .inr false, .inr true, .inr true]), .inr (false, 7), .inr (false, 6), .inr (false, 6), .inr (false, 24), .inr (false, 6), .inr (false, 7), .inl (6, [.inl 35, .inl 36, .inl 37, .inr false, .inl 38, .inr false, .inl 39, .inl 40, .inr false, .inr false, .inr false, .inl 41, .inl 999, .inl 999, .inl 999, .inr false, .inr false, .inr false, .inr false, .inr false, .inr false, .inr false, .inr false, .inr false]), .inr (false, 7), .inr (false, 56), .inr (false, 56), .inr (false, 24), .inr (false, 125), .inr (false, 24), .inr (false, 7), .inr (false, 6)]
def tb_89 : List Shp := [.inl (5, [.inl 1, .inl 8, .inr false, .inl 15, .inl 17, .inl 21, .inl 27, .inl 31, .inr false, .inl 32, .inr false, .inl 33]), .inl (0, [.inl 2, .inl 3, .inl 4, .inr false, .inl 5, .inl 6, .inl 7, .inr false]), .inr (false, 7), .inr (false, 7), .inr (false, 24), .inr (false, 4), .inr (false, 6), .inr (false, 6), .inl (0, [.inl 9, .inl 10, .inl 11, .inr false, .inl 12, .inl 13, .inl 14, .inr false]), .inr (false, 7), .inr (false, 7), .inr (false, 24), .inr (false, 4), .inr (false, 6), .inr (false, 6), .inl (1, [.inl 16]), .inr (true, 80), .inl (4, [.inl 15, .inl 18, .inl 19, .inl 20, .inr false]), .inr (true, 25), .inr (false, 25), .inr (false, 24), .inl (2, [.inl 1, .inl 15, .inl 17, .inl 22, .inl 23, .inl 24, .inr false, .inl 25, .inl 26, .inr false]), .inr (true, 1000), .inr (false, 1000), .inr (false, 1024), .inr (false, 6), .inr (false, 7), .inl (3, [.inl 1, .inl 15, .inl 28, .inl 29, .inl 30, .inr false, .inr true, .inr true]), .inr (false, 7), .inr (false, 6), .inr (false, 6), .inr (false, 24), .inr (false, 6), .inr (false, 7), .inl (6, [.inl 35, .inl 36, .inl 37, .inr false, .inl 38, .inr false, .inl 39, .inl 40, .inr false, .inr false, .inr false, .inl 41, .inl 42, .inl 999, .inl 999, .inr false, .inr false, .inr false, .inr false, .inr false, .inr false, .inr false, .inr false, .inr false]), .inr (false, 7), .inr (false, 56), .inr (false, 56), .inr (false, 24), .inr (false, 125), .inr (false, 24), .inr (false, 7), .inr (false, 6)]
def tb_90 : List Shp := [.inl (5, [.inl 1, .inl 8, .inr false, .inl 15, .inl 17, .inl 21, .inl 27, .inl 31, .inr false, .inl 32, .inr false, .inl 33]), .inl (0, [.inl 2, .inl 3, .inl 4, .inr false, .inl 5, .inl 6, .inl 7, .inr false]), .inr (false, 7), .inr (false, 7), .inr (false, 24), .inr (false, 4), .inr (false, 6), .inr (false, 6), .inl (0, [.inl 9, .inl 10, .inl 11, .inr false, .inl 12, .inl 13, .inl 14, .inr false]), .inr (false, 7), .inr (false, 7), .inr (false, 24), .inr (false, 4), .inr (false, 6), .inr (false, 6), .inl (1, [.inl 16]), .inr (true, 80), .inl (4, [.inl 15, .inl 18, .inl 19, .inl 20, .inr false]), .inr (true, 25), .inr (false, 25), .inr (false, 24), .inl (2, [.inl 1, .inl 15, .inl 17, .inl 22, .inl 23, .inl 24, .inr false, .inl 25, .inl 26, .inr false]), .inr (true, 1000), .inr (false, 1000), .inr (false, 1024), .inr (false, 6), .inr (false, 7), .inl (3, [.inl 1, .inl 15, .inl 28, .inl 29, .inl 30, .inr false, .inr true, .inr true]), .inr (false, 7), .inr (false, 6), .inr (false, 6), .inr (false, 24), .inr (false, 6), .inr (false, 7), .inl (6, [.inl 35, .inl 36, .inl 37, .inr false, .inl 38, .inr false, .inl 39, .inl 40, .inr false, .inr false, .inr false, .inl 41, .inl 42, .inl 999, .inl 999, .inr false, .inr false, .inr false, .inr false, .inr false, .inr false, .inr false, .inr false, .inr false]), .inr (false, 7), .inr (false, 56), .inr (false, 56), .inr (false, 24), .inr (false, 125), .inr (false, 24), .inr (false, 7), .inr (false, 6), .inr (false, 6)]
def tb_91 : List Shp := [.inl (5, [.inl 1, .inl 8, .inr false, .inl 15, .inl 17, .inl 21, .inl 27, .inl 31, .inr false, .inl 32, .inr false, .inl 33]), .inl (0, [.inl 2, .inl 3, .inl 4, .inr false, .inl 5, .inl 6, .inl 7, .inr false]), .inr (false, 7), .inr (false, 7), .inr (false, 24), .inr (false, 4), .inr (false, 6), .inr (false, 6), .inl (0, [.inl 9, .inl 10, .inl 11, .inr false, .inl 12, .inl 13, .inl 14, .inr false]), .inr (false, 7), .inr (false, 7), .inr (false, 24), .inr (false, 4), .inr (false, 6), .inr (false, 6), .inl (1, [.inl 16]), .inr (true, 80), .inl (4, [.inl 15, .inl 18, .inl 19, .inl 20, .inr false]), .inr (true, 25), .inr (false, 25), .inr (false, 24), .inl (2, [.inl 1, .inl 15, .inl 17, .inl 22, .inl 23, .inl 24, .inr false, .inl 25, .inl 26, .inr false]), .inr (true, 1000), .inr (false, 1000), .inr (false, 1024), .inr (false, 6), .inr (false, 7), .inl (3, [.inl 1, .inl 15, .inl 28, .inl 29, .inl 30, .inr false, .inr true, .inr true]), .inr (false, 7), .inr (false, 6), .inr (false, 6), .inr (false, 24), .inr (false, 6), .inr (false, 7), .inl (6, [.inl 35, .inl 36, .inl 37, .inr false, .inl 38, .inr false, .inl 39, .inl 40, .inr false, .inr false, .inr false, .inl 41, .inl 42, .inl 43, .inl 999, .inr false, .inr false, .inr false, .inr false, .inr false, .inr false, .inr false, .inr false, .inr false]), .inr (false, 7), .inr (false, 56), .inr (false, 56), .inr (false, 24), .inr (false, 125), .inr (false, 24), .inr (false, 7), .inr (false, 6), .inr (false, 6)]
def tb_92 : List Shp := [.inl (5, [.inl 1, .inl 8, .inr false, .inl 15, .inl 17, .inl 21, .inl 27, .inl 31, .inr false, .inl 32, .inr false, .inl 33]), .inl (0, [.inl 2, .inl 3, .inl 4, .inr false, .inl 5, .inl 6, .inl 7, .inr false]), .inr (false, 7), .inr (false, 7), .inr (false, 24), .inr (false, 4), .inr (false, 6), .inr (false, 6), .inl (0, [.inl 9, .inl 10, .inl 11, .inr false, .inl 12, .inl 13, .inl 14, .inr false]), .inr (false, 7), .inr (false, 7), .inr (false, 24), .inr (false, 4), .inr (false, 6), .inr (false, 6), .inl (1, [.inl 16]), .inr (true, 80), .inl (4, [.inl 15, .inl 18, .inl 19, .inl 20, .inr false]), .inr (true, 25), .inr (false, 25), .inr (false, 24), .inl (2, [.inl 1, .inl 15, .inl 17, .inl 22, .inl 23, .inl 24, .inr false, .inl 25, .inl 26, .inr false]), .inr (true, 1000), .inr (false, 1000), .inr (false, 1024), .inr (false, 6), .inr (false, 7), .inl (3, [.inl 1, .inl 15, .inl 28, .inl 29, .inl 30, .inr false, .inr true, .inr true]), .inr (false, 7), .inr (false, 6), .inr (false, 6), .inr (false, 24), .inr (false, 6), .inr (false, 7), .inl (6, [.inl 35, .inl 36, .inl 37, .inr false, .inl 38, .inr false, .inl 39, .inl 40, .inr false, .inr false, .inr false, .inl 41, .inl 42, .inl 43, .inl 999, .inr false, .inr false, .inr false, .inr false, .inr false, .inr false, .inr false, .inr false, .inr false]), .inr (false, 7), .inr (false, 56), .inr (false, 56), .inr (false, 24), .inr (false, 125), .inr (false, 24), .inr (false, 7), .inr (false, 6), .inr (false, 6), .inr (false, 6)]
def tb_93 : List Shp := [.inl (5, [.inl 1, .inl 8, .inr false, .inl 15, .inl 17, .inl 21, .inl 27, .inl 31, .inr false, .inl 32, .inr false, .inl 33]), .inl (0, [.inl 2, .inl 3, .inl 4, .inr false, .inl 5, .inl 6, .inl 7, .inr false]), .inr (false, 7), .inr (false, 7), .inr (false, 24), .inr (false, 4), .inr (false, 6), .inr (false, 6), .inl (0, [.inl 9, .inl 10, .inl 11, .inr false, .inl 12, .inl 13, .inl 14, .inr false]), .inr (false, 7), .inr (false, 7), .inr (false, 24), .inr (false, 4), .inr (false, 6), .inr (false, 6), .inl (1, [.inl 16]), .inr (true, 80), .inl (4, [.inl 15, .inl 18, .inl 19, .inl 20, .inr false]), .inr (true, 25), .inr (false, 25), .inr (false, 24), .inl (2, [.inl 1, .inl 15, .inl 17, .inl 22, .inl 23, .inl 24, .inr false, .inl 25, .inl 26, .inr false]), .inr (true, 1000), .inr (false, 1000), .inr (false, 1024), .inr (false, 6), .inr (false, 7), .inl (3, [.inl 1, .inl 15, .inl 28, .inl 29, .inl 30, .inr false, .inr true, .inr true]), .inr (false, 7), .inr (false, 6), .inr (false, 6), .inr (false, 24), .inr (false, 6), .inr (false, 7), .inl (6, [.inl 35, .inl 36, .inl 37, .inr false, .inl 38, .inr false, .inl 39, .inl 40, .inr false, .inr false, .inr false, .inl 41, .inl 42, .inl 43, .inl 44, .inr false, .inr false, .inr false, .inr false, .inr false, .inr false, .inr false, .inr false, .inr false]), .inr (false, 7), .inr (false, 56), .inr (false, 56), .inr (false, 24), .inr (false, 125), .inr (false, 24), .inr (false, 7), .inr (false, 6), .inr (false, 6), .inr (false, 6)]
def f_X0_init_1 (N : Nat) (M : Mem) : Option Mem :=
  nm (clr M 2) fun M1 =>
  nm (clr M1 3) fun M2 =>
  nm (clr M2 4) fun M3 =>
  nm (clr M3 5) fun M4 =>
  nm (clr M4 6) fun M5 =>
  nm (clr M5 7) fun M6 =>
  bd (f_X6_copyAll (shT tb_13) N M6 49 3) fun M7 =>
  bd (f_X6_copyAll (shT tb_13) N M7 50 5) fun M9 =>
  some M9
set_option maxRecDepth 100000 in
set_option maxHeartbeats 4000000 in
theorem k_X0_init_1 (l : Launch) (N : Nat) (M M' : Mem) (h : f_X0_init_1 N M = some M') (d : Nat) (hd : 2 ≤ d) : Cg l d yX0_init cX0_init 1 6 54 tb_1 2 [.ref 1] M (shT tb_13) 8 M' := by
  obtain ⟨d, rfl⟩ : ∃ q, d = q + 1 := ⟨d - 1, by omega⟩
  unfold f_X0_init_1 at h
  refine Cg.of (by decide +kernel) rfl (Nat.le_of_ble_eq_true rfl) ?_
  intro p e s m args below meth c A ad D cI cJ X hr hnm0 hA hAI hAJ
  have had : ∀ k, k < 2 ∨ 45 ≤ k → ad k = ad k := fun _ _ => rfl
  refine r_sub (ls' := [(0, .ref 1)]) [0] rfl ?_
  refine r_aload_n X 0 dX0_init_0 rfl rfl ?_
  refine r_obj X w_63 w_56 w_57 (Nat.succ_le_succ (Nat.zero_le _)) (room21g _ _ _) (Nat.le_of_ble_eq_true rfl) dX0_init_1 ?_
  refine r_aload_n X 0 dX0_init_4 rfl rfl ?_
  refine r_bipush X 7 dX0_init_5 rfl ?_
  obtain ⟨M1, eM1, h⟩ := nm_ex h
  refine r_newa X hA (atype := .int) (N := 7) tb_1 tb_2 false cI ⟨rfl, rfl⟩ hAI rfl (Nat.le_of_ble_eq_true rfl) rfl rfl (by decide) rfl (Nat.le_of_ble_eq_true rfl) (Nat.le_of_ble_eq_true rfl) (Nat.le_of_ble_eq_true rfl) rfl rfl dX0_init_7 (fun ad had1 X => ?_)
  replace had := had_step (Nat.le_of_ble_eq_true rfl) had had1
  clear had1
  refine r_mem eM1 ?_
  refine r_putr X hnm0 (ci := 0) (fs := [.inl 999, .inl 999, .inl 999, .inr false, .inl 999, .inl 999, .inl 999, .inr false]) tb_2 tb_3 0 rfl in_X0 rfl tyX0_ok nmX0 rfl (Nat.le_of_ble_eq_true rfl) (Nat.le_of_ble_eq_true rfl) (Nat.le_of_ble_eq_true rfl) (by decide) w_74 rfl rfl (ty := .array .int) rfl rfl rfl dX0_init_9 ?_
  refine r_aload_n X 0 dX0_init_12 rfl rfl ?_
  refine r_bipush X 7 dX0_init_13 rfl ?_
  obtain ⟨M2, eM2, h⟩ := nm_ex h
  refine r_newa X hA (atype := .int) (N := 7) tb_3 tb_4 false cI ⟨rfl, rfl⟩ hAI rfl (Nat.le_of_ble_eq_true rfl) rfl rfl (by decide) rfl (Nat.le_of_ble_eq_true rfl) (Nat.le_of_ble_eq_true rfl) (Nat.le_of_ble_eq_true rfl) rfl rfl dX0_init_15 (fun ad had1 X => ?_)
  replace had := had_step (Nat.le_of_ble_eq_true rfl) had had1
  clear had1
  refine r_mem eM2 ?_
  refine r_putr X hnm0 (ci := 0) (fs := [.inl 2, .inl 999, .inl 999, .inr false, .inl 999, .inl 999, .inl 999, .inr false]) tb_4 tb_5 1 rfl in_X0 rfl tyX0_ok nmX0 rfl (Nat.le_of_ble_eq_true rfl) (Nat.le_of_ble_eq_true rfl) (Nat.le_of_ble_eq_true rfl) (by decide) w_77 rfl rfl (ty := .array .int) rfl rfl rfl dX0_init_17 ?_
  refine r_aload_n X 0 dX0_init_20 rfl rfl ?_
  refine r_bipush X 24 dX0_init_21 rfl ?_
  obtain ⟨M3, eM3, h⟩ := nm_ex h
  refine r_newa X hA (atype := .int) (N := 24) tb_5 tb_6 false cI ⟨rfl, rfl⟩ hAI rfl (Nat.le_of_ble_eq_true rfl) rfl rfl (by decide) rfl (Nat.le_of_ble_eq_true rfl) (Nat.le_of_ble_eq_true rfl) (Nat.le_of_ble_eq_true rfl) rfl rfl dX0_init_23 (fun ad had1 X => ?_)
  replace had := had_step (Nat.le_of_ble_eq_true rfl) had had1
  clear had1
  refine r_mem eM3 ?_
  refine r_putr X hnm0 (ci := 0) (fs := [.inl 2, .inl 3, .inl 999, .inr false, .inl 999, .inl 999, .inl 999, .inr false]) tb_6 tb_7 2 rfl in_X0 rfl tyX0_ok nmX0 rfl (Nat.le_of_ble_eq_true rfl) (Nat.le_of_ble_eq_true rfl) (Nat.le_of_ble_eq_true rfl) (by decide) w_79 rfl rfl (ty := .array .int) rfl rfl rfl dX0_init_25 ?_
  refine r_aload_n X 0 dX0_init_28 rfl rfl ?_
  refine r_iconst X 4 dX0_init_29 rfl ?_
  obtain ⟨M4, eM4, h⟩ := nm_ex h
  refine r_newa X hA (atype := .int) (N := 4) tb_7 tb_8 false cI ⟨rfl, rfl⟩ hAI rfl (Nat.le_of_ble_eq_true rfl) rfl rfl (by decide) rfl (Nat.le_of_ble_eq_true rfl) (Nat.le_of_ble_eq_true rfl) (Nat.le_of_ble_eq_true rfl) rfl rfl dX0_init_30 (fun ad had1 X => ?_)
  replace had := had_step (Nat.le_of_ble_eq_true rfl) had had1
  clear had1
  refine r_mem eM4 ?_
  refine r_putr X hnm0 (ci := 0) (fs := [.inl 2, .inl 3, .inl 4, .inr false, .inl 999, .inl 999, .inl 999, .inr false]) tb_8 tb_9 4 rfl in_X0 rfl tyX0_ok nmX0 rfl (Nat.le_of_ble_eq_true rfl) (Nat.le_of_ble_eq_true rfl) (Nat.le_of_ble_eq_true rfl) (by decide) w_83 rfl rfl (ty := .array .int) rfl rfl rfl dX0_init_32 ?_
  refine r_aload_n X 0 dX0_init_35 rfl rfl ?_
  refine r_bipush X 6 dX0_init_36 rfl ?_
  obtain ⟨M5, eM5, h⟩ := nm_ex h
  refine r_newa X hA (atype := .int) (N := 6) tb_9 tb_10 false cI ⟨rfl, rfl⟩ hAI rfl (Nat.le_of_ble_eq_true rfl) rfl rfl (by decide) rfl (Nat.le_of_ble_eq_true rfl) (Nat.le_of_ble_eq_true rfl) (Nat.le_of_ble_eq_true rfl) rfl rfl dX0_init_38 (fun ad had1 X => ?_)
  replace had := had_step (Nat.le_of_ble_eq_true rfl) had had1
  clear had1
  refine r_mem eM5 ?_
  refine r_putr X hnm0 (ci := 0) (fs := [.inl 2, .inl 3, .inl 4, .inr false, .inl 5, .inl 999, .inl 999, .inr false]) tb_10 tb_11 5 rfl in_X0 rfl tyX0_ok nmX0 rfl (Nat.le_of_ble_eq_true rfl) (Nat.le_of_ble_eq_true rfl) (Nat.le_of_ble_eq_true rfl) (by decide) w_85 rfl rfl (ty := .array .int) rfl rfl rfl dX0_init_40 ?_
  refine r_aload_n X 0 dX0_init_43 rfl rfl ?_
  refine r_bipush X 6 dX0_init_44 rfl ?_
  obtain ⟨M6, eM6, h⟩ := nm_ex h
  refine r_newa X hA (atype := .int) (N := 6) tb_11 tb_12 false cI ⟨rfl, rfl⟩ hAI rfl (Nat.le_of_ble_eq_true rfl) rfl rfl (by decide) rfl (Nat.le_of_ble_eq_true rfl) (Nat.le_of_ble_eq_true rfl) (Nat.le_of_ble_eq_true rfl) rfl rfl dX0_init_46 (fun ad had1 X => ?_)
  replace had := had_step (Nat.le_of_ble_eq_true rfl) had had1
  clear had1
  refine r_mem eM6 ?_
  refine r_putr X hnm0 (ci := 0) (fs := [.inl 2, .inl 3, .inl 4, .inr false, .inl 5, .inl 6, .inl 999, .inr false]) tb_12 tb_13 6 rfl in_X0 rfl tyX0_ok nmX0 rfl (Nat.le_of_ble_eq_true rfl) (Nat.le_of_ble_eq_true rfl) (Nat.le_of_ble_eq_true rfl) (by decide) w_87 rfl rfl (ty := .array .int) rfl rfl rfl dX0_init_48 ?_
  refine r_getsN X 4 (Nat.le_of_ble_eq_true rfl) w_64 dX0_init_51 ?_
  refine r_aload_n X 0 dX0_init_54 rfl rfl ?_
  refine r_getr X 1 3 in_X0 (ci := 0) rfl rfl (Nat.le_of_ble_eq_true rfl) (Nat.le_of_ble_eq_true rfl) rfl w_77 dX0_init_55 (by decide) ?_
  obtain ⟨M7, h8, h⟩ := bd_ex h
  refine r_callSN X (st := []) (av := [.ref 49, .ref 3]) (k_X6_copyAll l N _ _ _ _ _ (Or.inr (Nat.le_of_ble_eq_true rfl)) (Or.inl (Nat.le_of_ble_eq_true rfl)) _ h8 d (by omega)) (fitR_g (Nat.le_of_ble_eq_true rfl)) ⟨Nat.le_of_ble_eq_true rfl, Nat.le_of_ble_eq_true rfl⟩ w_68 w_39 w_67 w_66 hy_X6_copyAll rfl (Nat.le_of_ble_eq_true rfl) dX0_init_58 ?_
  refine r_getsN X 5 (Nat.le_of_ble_eq_true rfl) w_72 dX0_init_61 ?_
  refine r_aload_n X 0 dX0_init_64 rfl rfl ?_
  refine r_getr X 4 5 in_X0 (ci := 0) rfl rfl (Nat.le_of_ble_eq_true rfl) (Nat.le_of_ble_eq_true rfl) rfl w_83 dX0_init_65 (by decide) ?_
  obtain ⟨M9, h10, h⟩ := bd_ex h
  refine r_callSN X (st := []) (av := [.ref 50, .ref 5]) (k_X6_copyAll l N _ _ _ _ _ (Or.inr (Nat.le_of_ble_eq_true rfl)) (Or.inl (Nat.le_of_ble_eq_true rfl)) _ h10 d (by omega)) (fitR_g (Nat.le_of_ble_eq_true rfl)) ⟨Nat.le_of_ble_eq_true rfl, Nat.le_of_ble_eq_true rfl⟩ w_68 w_39 w_67 w_66 hy_X6_copyAll rfl (Nat.le_of_ble_eq_true rfl) dX0_init_68 ?_
  obtain rfl : M9 = M' := Option.some.inj h
  exact r_gret X had hr dX0_init_71

def f_X0_init_8 (N : Nat) (M : Mem) : Option Mem :=
  nm (clr M 9) fun M1 =>
  nm (clr M1 10) fun M2 =>
  nm (clr M2 11) fun M3 =>
  nm (clr M3 12) fun M4 =>
  nm (clr M4 13) fun M5 =>
  nm (clr M5 14) fun M6 =>
  bd (f_X6_copyAll (shT tb_27) N M6 49 10) fun M7 =>
  bd (f_X6_copyAll (shT tb_27) N M7 50 12) fun M9 =>
  some M9
set_option maxRecDepth 100000 in
set_option maxHeartbeats 4000000 in
theorem k_X0_init_8 (l : Launch) (N : Nat) (M M' : Mem) (h : f_X0_init_8 N M = some M') (d : Nat) (hd : 2 ≤ d) : Cg l d yX0_init cX0_init 1 6 54 tb_15 9 [.ref 8] M (shT tb_27) 15 M' := by
  obtain ⟨d, rfl⟩ : ∃ q, d = q + 1 := ⟨d - 1, by omega⟩
  unfold f_X0_init_8 at h
  refine Cg.of (by decide +kernel) rfl (Nat.le_of_ble_eq_true rfl) ?_
  intro p e s m args below meth c A ad D cI cJ X hr hnm0 hA hAI hAJ
  have had : ∀ k, k < 9 ∨ 45 ≤ k → ad k = ad k := fun _ _ => rfl
  refine r_sub (ls' := [(0, .ref 8)]) [0] rfl ?_
  refine r_aload_n X 0 dX0_init_0 rfl rfl ?_
  refine r_obj X w_63 w_56 w_57 (Nat.succ_le_succ (Nat.zero_le _)) (room21g _ _ _) (Nat.le_of_ble_eq_true rfl) dX0_init_1 ?_
  refine r_aload_n X 0 dX0_init_4 rfl rfl ?_
  refine r_bipush X 7 dX0_init_5 rfl ?_
  obtain ⟨M1, eM1, h⟩ := nm_ex h
  refine r_newa X hA (atype := .int) (N := 7) tb_15 tb_16 false cI ⟨rfl, rfl⟩ hAI rfl (Nat.le_of_ble_eq_true rfl) rfl rfl (by decide) rfl (Nat.le_of_ble_eq_true rfl) (Nat.le_of_ble_eq_true rfl) (Nat.le_of_ble_eq_true rfl) rfl rfl dX0_init_7 (fun ad had1 X => ?_)
  replace had := had_step (Nat.le_of_ble_eq_true rfl) had had1
  clear had1
  refine r_mem eM1 ?_
  refine r_putr X hnm0 (ci := 0) (fs := [.inl 999, .inl 999, .inl 999, .inr false, .inl 999, .inl 999, .inl 999, .inr false]) tb_16 tb_17 0 rfl in_X0 rfl tyX0_ok nmX0 rfl (Nat.le_of_ble_eq_true rfl) (Nat.le_of_ble_eq_true rfl) (Nat.le_of_ble_eq_true rfl) (by decide) w_74 rfl rfl (ty := .array .int) rfl rfl rfl dX0_init_9 ?_
  refine r_aload_n X 0 dX0_init_12 rfl rfl ?_
  refine r_bipush X 7 dX0_init_13 rfl ?_
  obtain ⟨M2, eM2, h⟩ := nm_ex h
  refine r_newa X hA (atype := .int) (N := 7) tb_17 tb_18 false cI ⟨rfl, rfl⟩ hAI rfl (Nat.le_of_ble_eq_true rfl) rfl rfl (by decide) rfl (Nat.le_of_ble_eq_true rfl) (Nat.le_of_ble_eq_true rfl) (Nat.le_of_ble_eq_true rfl) rfl rfl dX0_init_15 (fun ad had1 X => ?_)
  replace had := had_step (Nat.le_of_ble_eq_true rfl) had had1
  clear had1
  refine r_mem eM2 ?_
  refine r_putr X hnm0 (ci := 0) (fs := [.inl 9, .inl 999, .inl 999, .inr false, .inl 999, .inl 999, .inl 999, .inr false]) tb_18 tb_19 1 rfl in_X0 rfl tyX0_ok nmX0 rfl (Nat.le_of_ble_eq_true rfl) (Nat.le_of_ble_eq_true rfl) (Nat.le_of_ble_eq_true rfl) (by decide) w_77 rfl rfl (ty := .array .int) rfl rfl rfl dX0_init_17 ?_
  refine r_aload_n X 0 dX0_init_20 rfl rfl ?_
  refine r_bipush X 24 dX0_init_21 rfl ?_
  obtain ⟨M3, eM3, h⟩ := nm_ex h
  refine r_newa X hA (atype := .int) (N := 24) tb_19 tb_20 false cI ⟨rfl, rfl⟩ hAI rfl (Nat.le_of_ble_eq_true rfl) rfl rfl (by decide) rfl (Nat.le_of_ble_eq_true rfl) (Nat.le_of_ble_eq_true rfl) (Nat.le_of_ble_eq_true rfl) rfl rfl dX0_init_23 (fun ad had1 X => ?_)
  replace had := had_step (Nat.le_of_ble_eq_true rfl) had had1
  clear had1
  refine r_mem eM3 ?_
  refine r_putr X hnm0 (ci := 0) (fs := [.inl 9, .inl 10, .inl 999, .inr false, .inl 999, .inl 999, .inl 999, .inr false]) tb_20 tb_21 2 rfl in_X0 rfl tyX0_ok nmX0 rfl (Nat.le_of_ble_eq_true rfl) (Nat.le_of_ble_eq_true rfl) (Nat.le_of_ble_eq_true rfl) (by decide) w_79 rfl rfl (ty := .array .int) rfl rfl rfl dX0_init_25 ?_
  refine r_aload_n X 0 dX0_init_28 rfl rfl ?_
  refine r_iconst X 4 dX0_init_29 rfl ?_
  obtain ⟨M4, eM4, h⟩ := nm_ex h
  refine r_newa X hA (atype := .int) (N := 4) tb_21 tb_22 false cI ⟨rfl, rfl⟩ hAI rfl (Nat.le_of_ble_eq_true rfl) rfl rfl (by decide) rfl (Nat.le_of_ble_eq_true rfl) (Nat.le_of_ble_eq_true rfl) (Nat.le_of_ble_eq_true rfl) rfl rfl dX0_init_30 (fun ad had1 X => ?_)
  replace had := had_step (Nat.le_of_ble_eq_true rfl) had had1
  clear had1
  refine r_mem eM4 ?_
  refine r_putr X hnm0 (ci := 0) (fs := [.inl 9, .inl 10, .inl 11, .inr false, .inl 999, .inl 999, .inl 999, .inr false]) tb_22 tb_23 4 rfl in_X0 rfl tyX0_ok nmX0 rfl (Nat.le_of_ble_eq_true rfl) (Nat.le_of_ble_eq_true rfl) (Nat.le_of_ble_eq_true rfl) (by decide) w_83 rfl rfl (ty := .array .int) rfl rfl rfl dX0_init_32 ?_
  refine r_aload_n X 0 dX0_init_35 rfl rfl ?_
  refine r_bipush X 6 dX0_init_36 rfl ?_
  obtain ⟨M5, eM5, h⟩ := nm_ex h
  refine r_newa X hA (atype := .int) (N := 6) tb_23 tb_24 false cI ⟨rfl, rfl⟩ hAI rfl (Nat.le_of_ble_eq_true rfl) rfl rfl (by decide) rfl (Nat.le_of_ble_eq_true rfl) (Nat.le_of_ble_eq_true rfl) (Nat.le_of_ble_eq_true rfl) rfl rfl dX0_init_38 (fun ad had1 X => ?_)
  replace had := had_step (Nat.le_of_ble_eq_true rfl) had had1
  clear had1
  refine r_mem eM5 ?_
  refine r_putr X hnm0 (ci := 0) (fs := [.inl 9, .inl 10, .inl 11, .inr false, .inl 12, .inl 999, .inl 999, .inr false]) tb_24 tb_25 5 rfl in_X0 rfl tyX0_ok nmX0 rfl (Nat.le_of_ble_eq_true rfl) (Nat.le_of_ble_eq_true rfl) (Nat.le_of_ble_eq_true rfl) (by decide) w_85 rfl rfl (ty := .array .int) rfl rfl rfl dX0_init_40 ?_
  refine r_aload_n X 0 dX0_init_43 rfl rfl ?_
  refine r_bipush X 6 dX0_init_44 rfl ?_
  obtain ⟨M6, eM6, h⟩ := nm_ex h
  refine r_newa X hA (atype := .int) (N := 6) tb_25 tb_26 false cI ⟨rfl, rfl⟩ hAI rfl (Nat.le_of_ble_eq_true rfl) rfl rfl (by decide) rfl (Nat.le_of_ble_eq_true rfl) (Nat.le_of_ble_eq_true rfl) (Nat.le_of_ble_eq_true rfl) rfl rfl dX0_init_46 (fun ad had1 X => ?_)
  replace had := had_step (Nat.le_of_ble_eq_true rfl) had had1
  clear had1
  refine r_mem eM6 ?_
  refine r_putr X hnm0 (ci := 0) (fs := [.inl 9, .inl 10, .inl 11, .inr false, .inl 12, .inl 13, .inl 999, .inr false]) tb_26 tb_27 6 rfl in_X0 rfl tyX0_ok nmX0 rfl (Nat.le_of_ble_eq_true rfl) (Nat.le_of_ble_eq_true rfl) (Nat.le_of_ble_eq_true rfl) (by decide) w_87 rfl rfl (ty := .array .int) rfl rfl rfl dX0_init_48 ?_
  refine r_getsN X 4 (Nat.le_of_ble_eq_true rfl) w_64 dX0_init_51 ?_
  refine r_aload_n X 0 dX0_init_54 rfl rfl ?_
  refine r_getr X 1 10 in_X0 (ci := 0) rfl rfl (Nat.le_of_ble_eq_true rfl) (Nat.le_of_ble_eq_true rfl) rfl w_77 dX0_init_55 (by decide) ?_
  obtain ⟨M7, h8, h⟩ := bd_ex h
  refine r_callSN X (st := []) (av := [.ref 49, .ref 10]) (k_X6_copyAll l N _ _ _ _ _ (Or.inr (Nat.le_of_ble_eq_true rfl)) (Or.inl (Nat.le_of_ble_eq_true rfl)) _ h8 d (by omega)) (fitR_g (Nat.le_of_ble_eq_true rfl)) ⟨Nat.le_of_ble_eq_true rfl, Nat.le_of_ble_eq_true rfl⟩ w_68 w_39 w_67 w_66 hy_X6_copyAll rfl (Nat.le_of_ble_eq_true rfl) dX0_init_58 ?_
  refine r_getsN X 5 (Nat.le_of_ble_eq_true rfl) w_72 dX0_init_61 ?_
  refine r_aload_n X 0 dX0_init_64 rfl rfl ?_
  refine r_getr X 4 12 in_X0 (ci := 0) rfl rfl (Nat.le_of_ble_eq_true rfl) (Nat.le_of_ble_eq_true rfl) rfl w_83 dX0_init_65 (by decide) ?_
  obtain ⟨M9, h10, h⟩ := bd_ex h
  refine r_callSN X (st := []) (av := [.ref 50, .ref 12]) (k_X6_copyAll l N _ _ _ _ _ (Or.inr (Nat.le_of_ble_eq_true rfl)) (Or.inl (Nat.le_of_ble_eq_true rfl)) _ h10 d (by omega)) (fitR_g (Nat.le_of_ble_eq_true rfl)) ⟨Nat.le_of_ble_eq_true rfl, Nat.le_of_ble_eq_true rfl⟩ w_68 w_39 w_67 w_66 hy_X6_copyAll rfl (Nat.le_of_ble_eq_true rfl) dX0_init_68 ?_
  obtain rfl : M9 = M' := Option.some.inj h
  exact r_gret X had hr dX0_init_71

def f_X1_init_15 (N : Nat) (M : Mem) : Option Mem :=
  nm (clr M 16) fun M1 =>
  some M1
set_option maxRecDepth 100000 in
set_option maxHeartbeats 4000000 in
theorem k_X1_init_15 (l : Launch) (N : Nat) (M M' : Mem) (h : f_X1_init_15 N M = some M') (d : Nat) (hd : 1 ≤ d) : Cg l d yX1_init cX1_init 1 1 80 tb_29 16 [.ref 15] M (shT tb_31) 17 M' := by
  obtain ⟨d, rfl⟩ : ∃ q, d = q + 1 := ⟨d - 1, by omega⟩
  unfold f_X1_init_15 at h
  refine Cg.of (by decide +kernel) rfl (Nat.le_of_ble_eq_true rfl) ?_
  intro p e s m args below meth c A ad D cI cJ X hr hnm0 hA hAI hAJ
  have had : ∀ k, k < 16 ∨ 45 ≤ k → ad k = ad k := fun _ _ => rfl
  refine r_sub (ls' := [(0, .ref 15)]) [0] rfl ?_
  refine r_aload_n X 0 dX1_init_0 rfl rfl ?_
  refine r_obj X w_114 w_56 w_57 (Nat.succ_le_succ (Nat.zero_le _)) (room21g _ _ _) (Nat.le_of_ble_eq_true rfl) dX1_init_1 ?_
  refine r_aload_n X 0 dX1_init_4 rfl rfl ?_
  refine r_bipush X 80 dX1_init_5 rfl ?_
  obtain ⟨M1, eM1, h⟩ := nm_ex h
  refine r_newa X hA (atype := .long) (N := 80) tb_29 tb_30 true cJ ⟨rfl, rfl⟩ hAJ rfl (Nat.le_of_ble_eq_true rfl) rfl rfl (by decide) rfl (Nat.le_of_ble_eq_true rfl) (Nat.le_of_ble_eq_true rfl) (Nat.le_of_ble_eq_true rfl) rfl rfl dX1_init_7 (fun ad had1 X => ?_)
  replace had := had_step (Nat.le_of_ble_eq_true rfl) had had1
  clear had1
  refine r_mem eM1 ?_
  refine r_putr X hnm0 (ci := 1) (fs := [.inl 999]) tb_30 tb_31 0 rfl in_X1 rfl tyX1_ok nmX1 rfl (Nat.le_of_ble_eq_true rfl) (Nat.le_of_ble_eq_true rfl) (Nat.le_of_ble_eq_true rfl) (by decide) w_115 rfl rfl (ty := .array .long) rfl rfl rfl dX1_init_9 ?_
  obtain rfl : M1 = M' := Option.some.inj h
  exact r_gret X had hr dX1_init_12

def f_X5_init_17 (N : Nat) (M : Mem) : Option Mem :=
  nm (clr M 18) fun M1 =>
  nm (clr M1 19) fun M2 =>
  nm (clr M2 20) fun M3 =>
  some M3
set_option maxRecDepth 100000 in
set_option maxHeartbeats 4000000 in
theorem k_X5_init_17 (l : Launch) (N : Nat) (M M' : Mem) (h : f_X5_init_17 N M = some M') (d : Nat) (hd : 1 ≤ d) : Cg l d yX5_init cX5_init 2 3 74 tb_33 18 [.ref 17, .ref 15] M (shT tb_40) 21 M' := by
  obtain ⟨d, rfl⟩ : ∃ q, d = q + 1 := ⟨d - 1, by omega⟩
  unfold f_X5_init_17 at h
  refine Cg.of (by decide +kernel) rfl (Nat.le_of_ble_eq_true rfl) ?_
  intro p e s m args below meth c A ad D cI cJ X hr hnm0 hA hAI hAJ
  have had : ∀ k, k < 18 ∨ 45 ≤ k → ad k = ad k := fun _ _ => rfl
  refine r_sub (ls' := [(0, .ref 17), (1, .ref 15)]) [0, 1] rfl ?_
  refine r_aload_n X 0 dX5_init_0 rfl rfl ?_
  refine r_obj X w_125 w_56 w_57 (Nat.succ_le_succ (Nat.zero_le _)) (room21g _ _ _) (Nat.le_of_ble_eq_true rfl) dX5_init_1 ?_
  refine r_aload_n X 0 dX5_init_4 rfl rfl ?_
  refine r_bipush X 25 dX5_init_5 rfl ?_
  obtain ⟨M1, eM1, h⟩ := nm_ex h
  refine r_newa X hA (atype := .long) (N := 25) tb_33 tb_34 true cJ ⟨rfl, rfl⟩ hAJ rfl (Nat.le_of_ble_eq_true rfl) rfl rfl (by decide) rfl (Nat.le_of_ble_eq_true rfl) (Nat.le_of_ble_eq_true rfl) (Nat.le_of_ble_eq_true rfl) rfl rfl dX5_init_7 (fun ad had1 X => ?_)
  replace had := had_step (Nat.le_of_ble_eq_true rfl) had had1
  clear had1
  refine r_mem eM1 ?_
  refine r_putr X hnm0 (ci := 4) (fs := [.inl 999, .inl 999, .inl 999, .inl 999, .inr false]) tb_34 tb_35 1 rfl in_X5 rfl tyX5_ok nmX5 rfl (Nat.le_of_ble_eq_true rfl) (Nat.le_of_ble_eq_true rfl) (Nat.le_of_ble_eq_true rfl) (by decide) w_127 rfl rfl (ty := .array .long) rfl rfl rfl dX5_init_9 ?_
  refine r_aload_n X 0 dX5_init_12 rfl rfl ?_
  refine r_bipush X 25 dX5_init_13 rfl ?_
  obtain ⟨M2, eM2, h⟩ := nm_ex h
  refine r_newa X hA (atype := .int) (N := 25) tb_35 tb_36 false cI ⟨rfl, rfl⟩ hAI rfl (Nat.le_of_ble_eq_true rfl) rfl rfl (by decide) rfl (Nat.le_of_ble_eq_true rfl) (Nat.le_of_ble_eq_true rfl) (Nat.le_of_ble_eq_true rfl) rfl rfl dX5_init_15 (fun ad had1 X => ?_)
  replace had := had_step (Nat.le_of_ble_eq_true rfl) had had1
  clear had1
  refine r_mem eM2 ?_
  refine r_putr X hnm0 (ci := 4) (fs := [.inl 999, .inl 18, .inl 999, .inl 999, .inr false]) tb_36 tb_37 2 rfl in_X5 rfl tyX5_ok nmX5 rfl (Nat.le_of_ble_eq_true rfl) (Nat.le_of_ble_eq_true rfl) (Nat.le_of_ble_eq_true rfl) (by decide) w_130 rfl rfl (ty := .array .int) rfl rfl rfl dX5_init_17 ?_
  refine r_aload_n X 0 dX5_init_20 rfl rfl ?_
  refine r_bipush X 24 dX5_init_21 rfl ?_
  obtain ⟨M3, eM3, h⟩ := nm_ex h
  refine r_newa X hA (atype := .int) (N := 24) tb_37 tb_38 false cI ⟨rfl, rfl⟩ hAI rfl (Nat.le_of_ble_eq_true rfl) rfl rfl (by decide) rfl (Nat.le_of_ble_eq_true rfl) (Nat.le_of_ble_eq_true rfl) (Nat.le_of_ble_eq_true rfl) rfl rfl dX5_init_23 (fun ad had1 X => ?_)
  replace had := had_step (Nat.le_of_ble_eq_true rfl) had had1
  clear had1
  refine r_mem eM3 ?_
  refine r_putr X hnm0 (ci := 4) (fs := [.inl 999, .inl 18, .inl 19, .inl 999, .inr false]) tb_38 tb_39 3 rfl in_X5 rfl tyX5_ok nmX5 rfl (Nat.le_of_ble_eq_true rfl) (Nat.le_of_ble_eq_true rfl) (Nat.le_of_ble_eq_true rfl) (by decide) w_132 rfl rfl (ty := .array .int) rfl rfl rfl dX5_init_25 ?_
  refine r_aload_n X 0 dX5_init_28 rfl rfl ?_
  refine r_aload_n X 1 dX5_init_29 rfl rfl ?_
  refine r_putr X hnm0 (ci := 4) (fs := [.inl 999, .inl 18, .inl 19, .inl 20, .inr false]) tb_39 tb_40 0 rfl in_X5 rfl tyX5_ok nmX5 rfl (Nat.le_of_ble_eq_true rfl) (Nat.le_of_ble_eq_true rfl) (Nat.le_of_ble_eq_true rfl) (by decide) w_126 rfl rfl (ty := .object "TrackBox$Moves") rfl rfl rfl dX5_init_30 ?_
  obtain rfl : M3 = M' := Option.some.inj h
  exact r_gret X had hr dX5_init_33

def f_X3_init_21 (N : Nat) (M : Mem) : Option Mem :=
  nm (clr M 22) fun M1 =>
  nm (clr M1 23) fun M2 =>
  nm (clr M2 24) fun M3 =>
  nm (clr M3 25) fun M4 =>
  nm (clr M4 26) fun M5 =>
  some M5
set_option maxRecDepth 100000 in
set_option maxHeartbeats 4000000 in
theorem k_X3_init_21 (l : Launch) (N : Nat) (M M' : Mem) (h : f_X3_init_21 N M = some M') (d : Nat) (hd : 1 ≤ d) : Cg l d yX3_init cX3_init 4 5 3037 tb_42 22 [.ref 21, .ref 1, .ref 15, .ref 17] M (shT tb_55) 27 M' := by
  obtain ⟨d, rfl⟩ : ∃ q, d = q + 1 := ⟨d - 1, by omega⟩
  unfold f_X3_init_21 at h
  refine Cg.of (by decide +kernel) rfl (Nat.le_of_ble_eq_true rfl) ?_
  intro p e s m args below meth c A ad D cI cJ X hr hnm0 hA hAI hAJ
  have had : ∀ k, k < 22 ∨ 45 ≤ k → ad k = ad k := fun _ _ => rfl
  refine r_sub (ls' := [(0, .ref 21), (1, .ref 1), (2, .ref 15), (3, .ref 17)]) [0, 1, 2, 3] rfl ?_
  refine r_aload_n X 0 dX3_init_0 rfl rfl ?_
  refine r_obj X w_151 w_56 w_57 (Nat.succ_le_succ (Nat.zero_le _)) (room21g _ _ _) (Nat.le_of_ble_eq_true rfl) dX3_init_1 ?_
  refine r_aload_n X 0 dX3_init_4 rfl rfl ?_
  refine r_sipush X 1000 dX3_init_5 rfl ?_
  obtain ⟨M1, eM1, h⟩ := nm_ex h
  refine r_newa X hA (atype := .long) (N := 1000) tb_42 tb_43 true cJ ⟨rfl, rfl⟩ hAJ rfl (Nat.le_of_ble_eq_true rfl) rfl rfl (by decide) rfl (Nat.le_of_ble_eq_true rfl) (Nat.le_of_ble_eq_true rfl) (Nat.le_of_ble_eq_true rfl) rfl rfl dX3_init_8 (fun ad had1 X => ?_)
  replace had := had_step (Nat.le_of_ble_eq_true rfl) had had1
  clear had1
  refine r_mem eM1 ?_
  refine r_putr X hnm0 (ci := 2) (fs := [.inl 999, .inl 999, .inl 999, .inl 999, .inl 999, .inl 999, .inr false, .inl 999, .inl 999, .inr false]) tb_43 tb_44 3 rfl in_X3 rfl tyX3_ok nmX3 rfl (Nat.le_of_ble_eq_true rfl) (Nat.le_of_ble_eq_true rfl) (Nat.le_of_ble_eq_true rfl) (by decide) w_155 rfl rfl (ty := .array .long) rfl rfl rfl dX3_init_10 ?_
  refine r_aload_n X 0 dX3_init_13 rfl rfl ?_
  refine r_sipush X 1000 dX3_init_14 rfl ?_
  obtain ⟨M2, eM2, h⟩ := nm_ex h
  refine r_newa X hA (atype := .int) (N := 1000) tb_44 tb_45 false cI ⟨rfl, rfl⟩ hAI rfl (Nat.le_of_ble_eq_true rfl) rfl rfl (by decide) rfl (Nat.le_of_ble_eq_true rfl) (Nat.le_of_ble_eq_true rfl) (Nat.le_of_ble_eq_true rfl) rfl rfl dX3_init_17 (fun ad had1 X => ?_)
  replace had := had_step (Nat.le_of_ble_eq_true rfl) had had1
  clear had1
  refine r_mem eM2 ?_
  refine r_putr X hnm0 (ci := 2) (fs := [.inl 999, .inl 999, .inl 999, .inl 22, .inl 999, .inl 999, .inr false, .inl 999, .inl 999, .inr false]) tb_45 tb_46 4 rfl in_X3 rfl tyX3_ok nmX3 rfl (Nat.le_of_ble_eq_true rfl) (Nat.le_of_ble_eq_true rfl) (Nat.le_of_ble_eq_true rfl) (by decide) w_156 rfl rfl (ty := .array .int) rfl rfl rfl dX3_init_19 ?_
  refine r_aload_n X 0 dX3_init_22 rfl rfl ?_
  refine r_sipush X 1024 dX3_init_23 rfl ?_
  obtain ⟨M3, eM3, h⟩ := nm_ex h
  refine r_newa X hA (atype := .int) (N := 1024) tb_46 tb_47 false cI ⟨rfl, rfl⟩ hAI rfl (Nat.le_of_ble_eq_true rfl) rfl rfl (by decide) rfl (Nat.le_of_ble_eq_true rfl) (Nat.le_of_ble_eq_true rfl) (Nat.le_of_ble_eq_true rfl) rfl rfl dX3_init_26 (fun ad had1 X => ?_)
  replace had := had_step (Nat.le_of_ble_eq_true rfl) had had1
  clear had1
  refine r_mem eM3 ?_
  refine r_putr X hnm0 (ci := 2) (fs := [.inl 999, .inl 999, .inl 999, .inl 22, .inl 23, .inl 999, .inr false, .inl 999, .inl 999, .inr false]) tb_47 tb_48 5 rfl in_X3 rfl tyX3_ok nmX3 rfl (Nat.le_of_ble_eq_true rfl) (Nat.le_of_ble_eq_true rfl) (Nat.le_of_ble_eq_true rfl) (by decide) w_157 rfl rfl (ty := .array .int) rfl rfl rfl dX3_init_28 ?_
  refine r_aload_n X 0 dX3_init_31 rfl rfl ?_
  refine r_bipush X 6 dX3_init_32 rfl ?_
  obtain ⟨M4, eM4, h⟩ := nm_ex h
  refine r_newa X hA (atype := .int) (N := 6) tb_48 tb_49 false cI ⟨rfl, rfl⟩ hAI rfl (Nat.le_of_ble_eq_true rfl) rfl rfl (by decide) rfl (Nat.le_of_ble_eq_true rfl) (Nat.le_of_ble_eq_true rfl) (Nat.le_of_ble_eq_true rfl) rfl rfl dX3_init_34 (fun ad had1 X => ?_)
  replace had := had_step (Nat.le_of_ble_eq_true rfl) had had1
  clear had1
  refine r_mem eM4 ?_
  refine r_putr X hnm0 (ci := 2) (fs := [.inl 999, .inl 999, .inl 999, .inl 22, .inl 23, .inl 24, .inr false, .inl 999, .inl 999, .inr false]) tb_49 tb_50 7 rfl in_X3 rfl tyX3_ok nmX3 rfl (Nat.le_of_ble_eq_true rfl) (Nat.le_of_ble_eq_true rfl) (Nat.le_of_ble_eq_true rfl) (by decide) w_159 rfl rfl (ty := .array .int) rfl rfl rfl dX3_init_36 ?_
  refine r_aload_n X 0 dX3_init_39 rfl rfl ?_
  refine r_bipush X 7 dX3_init_40 rfl ?_
  obtain ⟨M5, eM5, h⟩ := nm_ex h
  refine r_newa X hA (atype := .int) (N := 7) tb_50 tb_51 false cI ⟨rfl, rfl⟩ hAI rfl (Nat.le_of_ble_eq_true rfl) rfl rfl (by decide) rfl (Nat.le_of_ble_eq_true rfl) (Nat.le_of_ble_eq_true rfl) (Nat.le_of_ble_eq_true rfl) rfl rfl dX3_init_42 (fun ad had1 X => ?_)
  replace had := had_step (Nat.le_of_ble_eq_true rfl) had had1
  clear had1
  refine r_mem eM5 ?_
  refine r_putr X hnm0 (ci := 2) (fs := [.inl 999, .inl 999, .inl 999, .inl 22, .inl 23, .inl 24, .inr false, .inl 25, .inl 999, .inr false]) tb_51 tb_52 8 rfl in_X3 rfl tyX3_ok nmX3 rfl (Nat.le_of_ble_eq_true rfl) (Nat.le_of_ble_eq_true rfl) (Nat.le_of_ble_eq_true rfl) (by decide) w_161 rfl rfl (ty := .array .int) rfl rfl rfl dX3_init_44 ?_
  refine r_aload_n X 0 dX3_init_47 rfl rfl ?_
  refine r_aload_n X 1 dX3_init_48 rfl rfl ?_
  refine r_putr X hnm0 (ci := 2) (fs := [.inl 999, .inl 999, .inl 999, .inl 22, .inl 23, .inl 24, .inr false, .inl 25, .inl 26, .inr false]) tb_52 tb_53 0 rfl in_X3 rfl tyX3_ok nmX3 rfl (Nat.le_of_ble_eq_true rfl) (Nat.le_of_ble_eq_true rfl) (Nat.le_of_ble_eq_true rfl) (by decide) w_152 rfl rfl (ty := .object "TrackBox$Layout") rfl rfl rfl dX3_init_49 ?_
  refine r_aload_n X 0 dX3_init_52 rfl rfl ?_
  refine r_aload_n X 2 dX3_init_53 rfl rfl ?_
  refine r_putr X hnm0 (ci := 2) (fs := [.inl 1, .inl 999, .inl 999, .inl 22, .inl 23, .inl 24, .inr false, .inl 25, .inl 26, .inr false]) tb_53 tb_54 1 rfl in_X3 rfl tyX3_ok nmX3 rfl (Nat.le_of_ble_eq_true rfl) (Nat.le_of_ble_eq_true rfl) (Nat.le_of_ble_eq_true rfl) (by decide) w_153 rfl rfl (ty := .object "TrackBox$Moves") rfl rfl rfl dX3_init_54 ?_
  refine r_aload_n X 0 dX3_init_57 rfl rfl ?_
  refine r_aload_n X 3 dX3_init_58 rfl rfl ?_
  refine r_putr X hnm0 (ci := 2) (fs := [.inl 1, .inl 15, .inl 999, .inl 22, .inl 23, .inl 24, .inr false, .inl 25, .inl 26, .inr false]) tb_54 tb_55 2 rfl in_X3 rfl tyX3_ok nmX3 rfl (Nat.le_of_ble_eq_true rfl) (Nat.le_of_ble_eq_true rfl) (Nat.le_of_ble_eq_true rfl) (by decide) w_154 rfl rfl (ty := .object "TrackBox$Walk") rfl rfl rfl dX3_init_59 ?_
  obtain rfl : M5 = M' := Option.some.inj h
  exact r_gret X had hr dX3_init_62

def f_X4_init_27 (N : Nat) (M : Mem) : Option Mem :=
  nm (clr M 28) fun M1 =>
  nm (clr M1 29) fun M2 =>
  nm (clr M2 30) fun M3 =>
  some M3
set_option maxRecDepth 100000 in
set_option maxHeartbeats 4000000 in
theorem k_X4_init_27 (l : Launch) (N : Nat) (M M' : Mem) (h : f_X4_init_27 N M = some M') (d : Nat) (hd : 1 ≤ d) : Cg l d yX4_init cX4_init 3 3 19 tb_57 28 [.ref 27, .ref 1, .ref 15] M (shT tb_65) 31 M' := by
  obtain ⟨d, rfl⟩ : ∃ q, d = q + 1 := ⟨d - 1, by omega⟩
  unfold f_X4_init_27 at h
  refine Cg.of (by decide +kernel) rfl (Nat.le_of_ble_eq_true rfl) ?_
  intro p e s m args below meth c A ad D cI cJ X hr hnm0 hA hAI hAJ
  have had : ∀ k, k < 28 ∨ 45 ≤ k → ad k = ad k := fun _ _ => rfl
  refine r_sub (ls' := [(0, .ref 27), (1, .ref 1), (2, .ref 15)]) [0, 1, 2] rfl ?_
  refine r_aload_n X 0 dX4_init_0 rfl rfl ?_
  refine r_obj X w_191 w_56 w_57 (Nat.succ_le_succ (Nat.zero_le _)) (room21g _ _ _) (Nat.le_of_ble_eq_true rfl) dX4_init_1 ?_
  refine r_aload_n X 0 dX4_init_4 rfl rfl ?_
  refine r_bipush X 7 dX4_init_5 rfl ?_
  obtain ⟨M1, eM1, h⟩ := nm_ex h
  refine r_newa X hA (atype := .int) (N := 7) tb_57 tb_58 false cI ⟨rfl, rfl⟩ hAI rfl (Nat.le_of_ble_eq_true rfl) rfl rfl (by decide) rfl (Nat.le_of_ble_eq_true rfl) (Nat.le_of_ble_eq_true rfl) (Nat.le_of_ble_eq_true rfl) rfl rfl dX4_init_7 (fun ad had1 X => ?_)
  replace had := had_step (Nat.le_of_ble_eq_true rfl) had had1
  clear had1
  refine r_mem eM1 ?_
  refine r_putr X hnm0 (ci := 3) (fs := [.inl 999, .inl 999, .inl 999, .inl 999, .inl 999, .inr false, .inr true, .inr true]) tb_58 tb_59 2 rfl in_X4 rfl tyX4_ok nmX4 rfl (Nat.le_of_ble_eq_true rfl) (Nat.le_of_ble_eq_true rfl) (Nat.le_of_ble_eq_true rfl) (by decide) w_194 rfl rfl (ty := .array .int) rfl rfl rfl dX4_init_9 ?_
  refine r_aload_n X 0 dX4_init_12 rfl rfl ?_
  refine r_bipush X 6 dX4_init_13 rfl ?_
  obtain ⟨M2, eM2, h⟩ := nm_ex h
  refine r_newa X hA (atype := .int) (N := 6) tb_59 tb_60 false cI ⟨rfl, rfl⟩ hAI rfl (Nat.le_of_ble_eq_true rfl) rfl rfl (by decide) rfl (Nat.le_of_ble_eq_true rfl) (Nat.le_of_ble_eq_true rfl) (Nat.le_of_ble_eq_true rfl) rfl rfl dX4_init_15 (fun ad had1 X => ?_)
  replace had := had_step (Nat.le_of_ble_eq_true rfl) had had1
  clear had1
  refine r_mem eM2 ?_
  refine r_putr X hnm0 (ci := 3) (fs := [.inl 999, .inl 999, .inl 28, .inl 999, .inl 999, .inr false, .inr true, .inr true]) tb_60 tb_61 3 rfl in_X4 rfl tyX4_ok nmX4 rfl (Nat.le_of_ble_eq_true rfl) (Nat.le_of_ble_eq_true rfl) (Nat.le_of_ble_eq_true rfl) (by decide) w_195 rfl rfl (ty := .array .int) rfl rfl rfl dX4_init_17 ?_
  refine r_aload_n X 0 dX4_init_20 rfl rfl ?_
  refine r_bipush X 6 dX4_init_21 rfl ?_
  obtain ⟨M3, eM3, h⟩ := nm_ex h
  refine r_newa X hA (atype := .int) (N := 6) tb_61 tb_62 false cI ⟨rfl, rfl⟩ hAI rfl (Nat.le_of_ble_eq_true rfl) rfl rfl (by decide) rfl (Nat.le_of_ble_eq_true rfl) (Nat.le_of_ble_eq_true rfl) (Nat.le_of_ble_eq_true rfl) rfl rfl dX4_init_23 (fun ad had1 X => ?_)
  replace had := had_step (Nat.le_of_ble_eq_true rfl) had had1
  clear had1
  refine r_mem eM3 ?_
  refine r_putr X hnm0 (ci := 3) (fs := [.inl 999, .inl 999, .inl 28, .inl 29, .inl 999, .inr false, .inr true, .inr true]) tb_62 tb_63 4 rfl in_X4 rfl tyX4_ok nmX4 rfl (Nat.le_of_ble_eq_true rfl) (Nat.le_of_ble_eq_true rfl) (Nat.le_of_ble_eq_true rfl) (by decide) w_196 rfl rfl (ty := .array .int) rfl rfl rfl dX4_init_25 ?_
  refine r_aload_n X 0 dX4_init_28 rfl rfl ?_
  refine r_aload_n X 1 dX4_init_29 rfl rfl ?_
  refine r_putr X hnm0 (ci := 3) (fs := [.inl 999, .inl 999, .inl 28, .inl 29, .inl 30, .inr false, .inr true, .inr true]) tb_63 tb_64 0 rfl in_X4 rfl tyX4_ok nmX4 rfl (Nat.le_of_ble_eq_true rfl) (Nat.le_of_ble_eq_true rfl) (Nat.le_of_ble_eq_true rfl) (by decide) w_192 rfl rfl (ty := .object "TrackBox$Layout") rfl rfl rfl dX4_init_30 ?_
  refine r_aload_n X 0 dX4_init_33 rfl rfl ?_
  refine r_aload_n X 2 dX4_init_34 rfl rfl ?_
  refine r_putr X hnm0 (ci := 3) (fs := [.inl 1, .inl 999, .inl 28, .inl 29, .inl 30, .inr false, .inr true, .inr true]) tb_64 tb_65 1 rfl in_X4 rfl tyX4_ok nmX4 rfl (Nat.le_of_ble_eq_true rfl) (Nat.le_of_ble_eq_true rfl) (Nat.le_of_ble_eq_true rfl) (by decide) w_193 rfl rfl (ty := .object "TrackBox$Moves") rfl rfl rfl dX4_init_35 ?_
  obtain rfl : M3 = M' := Option.some.inj h
  exact r_gret X had hr dX4_init_38

def f_X6_init_0 (N : Nat) (M : Mem) : Option Mem :=
  nm (clr M 1) fun M1 =>
  bd (f_X0_init_1 N M1) fun M2 =>
  nm (clr M2 8) fun M4 =>
  bd (f_X0_init_8 N M4) fun M5 =>
  nm (clr M5 15) fun M7 =>
  bd (f_X1_init_15 N M7) fun M8 =>
  nm (clr M8 17) fun M10 =>
  bd (f_X5_init_17 N M10) fun M11 =>
  nm (clr M11 21) fun M13 =>
  bd (f_X3_init_21 N M13) fun M14 =>
  nm (clr M14 27) fun M16 =>
  bd (f_X4_init_27 N M16) fun M17 =>
  nm (clr M17 31) fun M19 =>
  nm (clr M19 32) fun M20 =>
  nm (clr M20 33) fun M21 =>
  bd (f_X1_measure N M21 3) fun M22 =>
  some M22
set_option maxRecDepth 100000 in
set_option maxHeartbeats 4000000 in
theorem k_X6_init_0 (l : Launch) (N : Nat) (M M' : Mem) (h : f_X6_init_0 N M = some M') (d : Nat) (hd : 3 ≤ d) : Cg l d yX6_init cX6_init 1 33 3395 tb_0 1 [.ref 0] M shp 34 M' := by
  obtain ⟨d, rfl⟩ : ∃ q, d = q + 1 := ⟨d - 1, by omega⟩
  unfold f_X6_init_0 at h
  refine Cg.of (by decide +kernel) rfl (Nat.le_of_ble_eq_true rfl) ?_
  intro p e s m args below meth c A ad D cI cJ X hr hnm0 hA hAI hAJ
  have had : ∀ k, k < 1 ∨ 45 ≤ k → ad k = ad k := fun _ _ => rfl
  refine r_sub (ls' := [(0, .ref 0)]) [0] rfl ?_
  refine r_aload_n X 0 dX6_init_0 rfl rfl ?_
  refine r_obj X w_55 w_56 w_57 (Nat.succ_le_succ (Nat.zero_le _)) (room21g _ _ _) (Nat.le_of_ble_eq_true rfl) dX6_init_1 ?_
  refine r_aload_n X 0 dX6_init_4 rfl rfl ?_
  obtain ⟨M1, eM1, h⟩ := nm_ex h
  refine r_new X hA (ci := 0) (fs := [.inl 999, .inl 999, .inl 999, .inr false, .inl 999, .inl 999, .inl 999, .inr false]) tb_0 tb_1 rfl (Nat.le_of_ble_eq_true rfl) rfl rfl in_X0 rfl tyX0_ok (by decide +kernel) rfl w_58 w_59 w_40 (Nat.le_of_ble_eq_true rfl) (Nat.le_of_ble_eq_true rfl) rfl rfl dX6_init_5 (fun ad had1 X => ?_)
  replace had := had_step (Nat.le_of_ble_eq_true rfl) had had1
  clear had1
  refine r_mem eM1 ?_
  refine r_dup X dX6_init_8 rfl ?_
  obtain ⟨M2, h3, h⟩ := bd_ex h
  refine r_callI X hA hAI hAJ (st := [.ref 1, .ref 0]) (av := []) (k := 1) (k_X0_init_1 l N _ _ h3 d (by omega)) (fitG_s (Nat.le_of_ble_eq_true rfl) (Nat.le_of_ble_eq_true rfl) (Nat.le_of_ble_eq_true rfl)) w_62 w_40 w_61 w_60 rfl hy_X0_init rfl (Nat.le_of_ble_eq_true rfl) rfl rfl dX6_init_9 (fun ad had1 X => ?_)
  replace had := had_step (Nat.le_of_ble_eq_true rfl) had had1
  clear had1
  refine r_putr X hnm0 (ci := 5) (fs := [.inl 999, .inl 999, .inr false, .inl 999, .inl 999, .inl 999, .inl 999, .inl 999, .inr false, .inl 999, .inr false, .inl 999]) tb_13 tb_14 0 rfl in_X6 rfl tyX6_ok nmX6 rfl (Nat.le_of_ble_eq_true rfl) (Nat.le_of_ble_eq_true rfl) (Nat.le_of_ble_eq_true rfl) (by decide) w_240 rfl rfl (ty := .object "TrackBox$Layout") rfl rfl rfl dX6_init_12 ?_
  refine r_aload_n X 0 dX6_init_15 rfl rfl ?_
  obtain ⟨M4, eM4, h⟩ := nm_ex h
  refine r_new X hA (ci := 0) (fs := [.inl 999, .inl 999, .inl 999, .inr false, .inl 999, .inl 999, .inl 999, .inr false]) tb_14 tb_15 rfl (Nat.le_of_ble_eq_true rfl) rfl rfl in_X0 rfl tyX0_ok (by decide +kernel) rfl w_58 w_59 w_40 (Nat.le_of_ble_eq_true rfl) (Nat.le_of_ble_eq_true rfl) rfl rfl dX6_init_16 (fun ad had1 X => ?_)
  replace had := had_step (Nat.le_of_ble_eq_true rfl) had had1
  clear had1
  refine r_mem eM4 ?_
  refine r_dup X dX6_init_19 rfl ?_
  obtain ⟨M5, h6, h⟩ := bd_ex h
  refine r_callI X hA hAI hAJ (st := [.ref 8, .ref 0]) (av := []) (k := 8) (k_X0_init_8 l N _ _ h6 d (by omega)) (fitG_s (Nat.le_of_ble_eq_true rfl) (Nat.le_of_ble_eq_true rfl) (Nat.le_of_ble_eq_true rfl)) w_62 w_40 w_61 w_60 rfl hy_X0_init rfl (Nat.le_of_ble_eq_true rfl) rfl rfl dX6_init_20 (fun ad had1 X => ?_)
  replace had := had_step (Nat.le_of_ble_eq_true rfl) had had1
  clear had1
  refine r_putr X hnm0 (ci := 5) (fs := [.inl 1, .inl 999, .inr false, .inl 999, .inl 999, .inl 999, .inl 999, .inl 999, .inr false, .inl 999, .inr false, .inl 999]) tb_27 tb_28 1 rfl in_X6 rfl tyX6_ok nmX6 rfl (Nat.le_of_ble_eq_true rfl) (Nat.le_of_ble_eq_true rfl) (Nat.le_of_ble_eq_true rfl) (by decide) w_241 rfl rfl (ty := .object "TrackBox$Layout") rfl rfl rfl dX6_init_23 ?_
  refine r_aload_n X 0 dX6_init_26 rfl rfl ?_
  obtain ⟨M7, eM7, h⟩ := nm_ex h
  refine r_new X hA (ci := 1) (fs := [.inl 999]) tb_28 tb_29 rfl (Nat.le_of_ble_eq_true rfl) rfl rfl in_X1 rfl tyX1_ok (by decide +kernel) rfl w_109 w_110 w_41 (Nat.le_of_ble_eq_true rfl) (Nat.le_of_ble_eq_true rfl) rfl rfl dX6_init_27 (fun ad had1 X => ?_)
  replace had := had_step (Nat.le_of_ble_eq_true rfl) had had1
  clear had1
  refine r_mem eM7 ?_
  refine r_dup X dX6_init_30 rfl ?_
  obtain ⟨M8, h9, h⟩ := bd_ex h
  refine r_callIN X hA hAI hAJ (st := [.ref 15, .ref 0]) (av := []) (k := 15) (k_X1_init_15 l N _ _ h9 d (by omega)) (fitG_s (Nat.le_of_ble_eq_true rfl) (Nat.le_of_ble_eq_true rfl) (Nat.le_of_ble_eq_true rfl)) w_113 w_41 w_112 w_111 rfl hy_X1_init rfl (Nat.le_of_ble_eq_true rfl) rfl rfl dX6_init_31 (fun ad had1 X => ?_)
  replace had := had_step (Nat.le_of_ble_eq_true rfl) had had1
  clear had1
  refine r_putr X hnm0 (ci := 5) (fs := [.inl 1, .inl 8, .inr false, .inl 999, .inl 999, .inl 999, .inl 999, .inl 999, .inr false, .inl 999, .inr false, .inl 999]) tb_31 tb_32 3 rfl in_X6 rfl tyX6_ok nmX6 rfl (Nat.le_of_ble_eq_true rfl) (Nat.le_of_ble_eq_true rfl) (Nat.le_of_ble_eq_true rfl) (by decide) w_243 rfl rfl (ty := .object "TrackBox$Moves") rfl rfl rfl dX6_init_34 ?_
  refine r_aload_n X 0 dX6_init_37 rfl rfl ?_
  obtain ⟨M10, eM10, h⟩ := nm_ex h
  refine r_new X hA (ci := 4) (fs := [.inl 999, .inl 999, .inl 999, .inl 999, .inr false]) tb_32 tb_33 rfl (Nat.le_of_ble_eq_true rfl) rfl rfl in_X5 rfl tyX5_ok (by decide +kernel) rfl w_120 w_121 w_42 (Nat.le_of_ble_eq_true rfl) (Nat.le_of_ble_eq_true rfl) rfl rfl dX6_init_38 (fun ad had1 X => ?_)
  replace had := had_step (Nat.le_of_ble_eq_true rfl) had had1
  clear had1
  refine r_mem eM10 ?_
  refine r_dup X dX6_init_41 rfl ?_
  refine r_aload_n X 0 dX6_init_42 rfl rfl ?_
  refine r_getr X 3 15 in_X6 (ci := 5) rfl rfl (Nat.le_of_ble_eq_true rfl) (Nat.le_of_ble_eq_true rfl) rfl w_243 dX6_init_43 (by decide) ?_
  obtain ⟨M11, h12, h⟩ := bd_ex h
  refine r_callI X hA hAI hAJ (st := [.ref 17, .ref 0]) (av := [.ref 15]) (k := 17) (k_X5_init_17 l N _ _ h12 d (by omega)) (fitG_s (Nat.le_of_ble_eq_true rfl) (Nat.le_of_ble_eq_true rfl) (Nat.le_of_ble_eq_true rfl)) w_124 w_42 w_123 w_122 rfl hy_X5_init rfl (Nat.le_of_ble_eq_true rfl) rfl rfl dX6_init_46 (fun ad had1 X => ?_)
  replace had := had_step (Nat.le_of_ble_eq_true rfl) had had1
  clear had1
  refine r_putr X hnm0 (ci := 5) (fs := [.inl 1, .inl 8, .inr false, .inl 15, .inl 999, .inl 999, .inl 999, .inl 999, .inr false, .inl 999, .inr false, .inl 999]) tb_40 tb_41 4 rfl in_X6 rfl tyX6_ok nmX6 rfl (Nat.le_of_ble_eq_true rfl) (Nat.le_of_ble_eq_true rfl) (Nat.le_of_ble_eq_true rfl) (by decide) w_244 rfl rfl (ty := .object "TrackBox$Walk") rfl rfl rfl dX6_init_49 ?_
  refine r_aload_n X 0 dX6_init_52 rfl rfl ?_
  obtain ⟨M13, eM13, h⟩ := nm_ex h
  refine r_new X hA (ci := 2) (fs := [.inl 999, .inl 999, .inl 999, .inl 999, .inl 999, .inl 999, .inr false, .inl 999, .inl 999, .inr false]) tb_41 tb_42 rfl (Nat.le_of_ble_eq_true rfl) rfl rfl in_X3 rfl tyX3_ok (by decide +kernel) rfl w_146 w_147 w_43 (Nat.le_of_ble_eq_true rfl) (Nat.le_of_ble_eq_true rfl) rfl rfl dX6_init_53 (fun ad had1 X => ?_)
  replace had := had_step (Nat.le_of_ble_eq_true rfl) had had1
  clear had1
  refine r_mem eM13 ?_
  refine r_dup X dX6_init_56 rfl ?_
  refine r_aload_n X 0 dX6_init_57 rfl rfl ?_
  refine r_getr X 0 1 in_X6 (ci := 5) rfl rfl (Nat.le_of_ble_eq_true rfl) (Nat.le_of_ble_eq_true rfl) rfl w_240 dX6_init_58 (by decide) ?_
  refine r_aload_n X 0 dX6_init_61 rfl rfl ?_
  refine r_getr X 3 15 in_X6 (ci := 5) rfl rfl (Nat.le_of_ble_eq_true rfl) (Nat.le_of_ble_eq_true rfl) rfl w_243 dX6_init_62 (by decide) ?_
  refine r_aload_n X 0 dX6_init_65 rfl rfl ?_
  refine r_getr X 4 17 in_X6 (ci := 5) rfl rfl (Nat.le_of_ble_eq_true rfl) (Nat.le_of_ble_eq_true rfl) rfl w_244 dX6_init_66 (by decide) ?_
  obtain ⟨M14, h15, h⟩ := bd_ex h
  refine r_callI X hA hAI hAJ (st := [.ref 21, .ref 0]) (av := [.ref 1, .ref 15, .ref 17]) (k := 21) (k_X3_init_21 l N _ _ h15 d (by omega)) (fitG_s (Nat.le_of_ble_eq_true rfl) (Nat.le_of_ble_eq_true rfl) (Nat.le_of_ble_eq_true rfl)) w_150 w_43 w_149 w_148 rfl hy_X3_init rfl (Nat.le_of_ble_eq_true rfl) rfl rfl dX6_init_69 (fun ad had1 X => ?_)
  replace had := had_step (Nat.le_of_ble_eq_true rfl) had had1
  clear had1
  refine r_putr X hnm0 (ci := 5) (fs := [.inl 1, .inl 8, .inr false, .inl 15, .inl 17, .inl 999, .inl 999, .inl 999, .inr false, .inl 999, .inr false, .inl 999]) tb_55 tb_56 5 rfl in_X6 rfl tyX6_ok nmX6 rfl (Nat.le_of_ble_eq_true rfl) (Nat.le_of_ble_eq_true rfl) (Nat.le_of_ble_eq_true rfl) (by decide) w_245 rfl rfl (ty := .object "TrackBox$RingSearch") rfl rfl rfl dX6_init_72 ?_
  refine r_aload_n X 0 dX6_init_75 rfl rfl ?_
  obtain ⟨M16, eM16, h⟩ := nm_ex h
  refine r_new X hA (ci := 3) (fs := [.inl 999, .inl 999, .inl 999, .inl 999, .inl 999, .inr false, .inr true, .inr true]) tb_56 tb_57 rfl (Nat.le_of_ble_eq_true rfl) rfl rfl in_X4 rfl tyX4_ok (by decide +kernel) rfl w_186 w_187 w_44 (Nat.le_of_ble_eq_true rfl) (Nat.le_of_ble_eq_true rfl) rfl rfl dX6_init_76 (fun ad had1 X => ?_)
  replace had := had_step (Nat.le_of_ble_eq_true rfl) had had1
  clear had1
  refine r_mem eM16 ?_
  refine r_dup X dX6_init_79 rfl ?_
  refine r_aload_n X 0 dX6_init_80 rfl rfl ?_
  refine r_getr X 0 1 in_X6 (ci := 5) rfl rfl (Nat.le_of_ble_eq_true rfl) (Nat.le_of_ble_eq_true rfl) rfl w_240 dX6_init_81 (by decide) ?_
  refine r_aload_n X 0 dX6_init_84 rfl rfl ?_
  refine r_getr X 3 15 in_X6 (ci := 5) rfl rfl (Nat.le_of_ble_eq_true rfl) (Nat.le_of_ble_eq_true rfl) rfl w_243 dX6_init_85 (by decide) ?_
  obtain ⟨M17, h18, h⟩ := bd_ex h
  refine r_callI X hA hAI hAJ (st := [.ref 27, .ref 0]) (av := [.ref 1, .ref 15]) (k := 27) (k_X4_init_27 l N _ _ h18 d (by omega)) (fitG_s (Nat.le_of_ble_eq_true rfl) (Nat.le_of_ble_eq_true rfl) (Nat.le_of_ble_eq_true rfl)) w_190 w_44 w_189 w_188 rfl hy_X4_init rfl (Nat.le_of_ble_eq_true rfl) rfl rfl dX6_init_88 (fun ad had1 X => ?_)
  replace had := had_step (Nat.le_of_ble_eq_true rfl) had had1
  clear had1
  refine r_putr X hnm0 (ci := 5) (fs := [.inl 1, .inl 8, .inr false, .inl 15, .inl 17, .inl 21, .inl 999, .inl 999, .inr false, .inl 999, .inr false, .inl 999]) tb_65 tb_66 6 rfl in_X6 rfl tyX6_ok nmX6 rfl (Nat.le_of_ble_eq_true rfl) (Nat.le_of_ble_eq_true rfl) (Nat.le_of_ble_eq_true rfl) (by decide) w_246 rfl rfl (ty := .object "TrackBox$Trial") rfl rfl rfl dX6_init_91 ?_
  refine r_aload_n X 0 dX6_init_94 rfl rfl ?_
  refine r_bipush X 24 dX6_init_95 rfl ?_
  obtain ⟨M19, eM19, h⟩ := nm_ex h
  refine r_newa X hA (atype := .int) (N := 24) tb_66 tb_67 false cI ⟨rfl, rfl⟩ hAI rfl (Nat.le_of_ble_eq_true rfl) rfl rfl (by decide) rfl (Nat.le_of_ble_eq_true rfl) (Nat.le_of_ble_eq_true rfl) (Nat.le_of_ble_eq_true rfl) rfl rfl dX6_init_97 (fun ad had1 X => ?_)
  replace had := had_step (Nat.le_of_ble_eq_true rfl) had had1
  clear had1
  refine r_mem eM19 ?_
  refine r_putr X hnm0 (ci := 5) (fs := [.inl 1, .inl 8, .inr false, .inl 15, .inl 17, .inl 21, .inl 27, .inl 999, .inr false, .inl 999, .inr false, .inl 999]) tb_67 tb_68 7 rfl in_X6 rfl tyX6_ok nmX6 rfl (Nat.le_of_ble_eq_true rfl) (Nat.le_of_ble_eq_true rfl) (Nat.le_of_ble_eq_true rfl) (by decide) w_247 rfl rfl (ty := .array .int) rfl rfl rfl dX6_init_99 ?_
  refine r_aload_n X 0 dX6_init_102 rfl rfl ?_
  refine r_bipush X 6 dX6_init_103 rfl ?_
  obtain ⟨M20, eM20, h⟩ := nm_ex h
  refine r_newa X hA (atype := .int) (N := 6) tb_68 tb_69 false cI ⟨rfl, rfl⟩ hAI rfl (Nat.le_of_ble_eq_true rfl) rfl rfl (by decide) rfl (Nat.le_of_ble_eq_true rfl) (Nat.le_of_ble_eq_true rfl) (Nat.le_of_ble_eq_true rfl) rfl rfl dX6_init_105 (fun ad had1 X => ?_)
  replace had := had_step (Nat.le_of_ble_eq_true rfl) had had1
  clear had1
  refine r_mem eM20 ?_
  refine r_putr X hnm0 (ci := 5) (fs := [.inl 1, .inl 8, .inr false, .inl 15, .inl 17, .inl 21, .inl 27, .inl 31, .inr false, .inl 999, .inr false, .inl 999]) tb_69 tb_70 9 rfl in_X6 rfl tyX6_ok nmX6 rfl (Nat.le_of_ble_eq_true rfl) (Nat.le_of_ble_eq_true rfl) (Nat.le_of_ble_eq_true rfl) (by decide) w_249 rfl rfl (ty := .array .int) rfl rfl rfl dX6_init_107 ?_
  refine r_aload_n X 0 dX6_init_110 rfl rfl ?_
  refine r_bipush X 7 dX6_init_111 rfl ?_
  obtain ⟨M21, eM21, h⟩ := nm_ex h
  refine r_newa X hA (atype := .int) (N := 7) tb_70 tb_71 false cI ⟨rfl, rfl⟩ hAI rfl (Nat.le_of_ble_eq_true rfl) rfl rfl (by decide) rfl (Nat.le_of_ble_eq_true rfl) (Nat.le_of_ble_eq_true rfl) (Nat.le_of_ble_eq_true rfl) rfl rfl dX6_init_113 (fun ad had1 X => ?_)
  replace had := had_step (Nat.le_of_ble_eq_true rfl) had had1
  clear had1
  refine r_mem eM21 ?_
  refine r_putr X hnm0 (ci := 5) (fs := [.inl 1, .inl 8, .inr false, .inl 15, .inl 17, .inl 21, .inl 27, .inl 31, .inr false, .inl 32, .inr false, .inl 999]) tb_71 tb_72 11 rfl in_X6 rfl tyX6_ok nmX6 rfl (Nat.le_of_ble_eq_true rfl) (Nat.le_of_ble_eq_true rfl) (Nat.le_of_ble_eq_true rfl) (by decide) w_251 rfl rfl (ty := .array .int) rfl rfl rfl dX6_init_115 ?_
  refine r_aload_n X 0 dX6_init_118 rfl rfl ?_
  refine r_getr X 3 15 in_X6 (ci := 5) rfl rfl (Nat.le_of_ble_eq_true rfl) (Nat.le_of_ble_eq_true rfl) rfl w_243 dX6_init_119 (by decide) ?_
  refine r_aload_n X 0 dX6_init_122 rfl rfl ?_
  refine r_getr X 0 1 in_X6 (ci := 5) rfl rfl (Nat.le_of_ble_eq_true rfl) (Nat.le_of_ble_eq_true rfl) rfl w_240 dX6_init_123 (by decide) ?_
  refine r_getr X 1 3 in_X0 (ci := 0) rfl rfl (Nat.le_of_ble_eq_true rfl) (Nat.le_of_ble_eq_true rfl) rfl w_78 dX6_init_126 (by decide) ?_
  refine r_conv shp (by decide +kernel) ?_
  obtain ⟨M22, h23, h⟩ := bd_ex h
  refine r_callV X (st := []) (av := [.ref 3]) (k := 15) (ci := 1) (k_X1_measure l N _ (Nat.le_of_ble_eq_true rfl) _ _ (Or.inl (Nat.le_of_ble_eq_true rfl)) _ h23 d (by omega)) (fitR_g (Nat.le_of_ble_eq_true rfl)) ⟨Nat.le_of_ble_eq_true rfl, Nat.le_of_ble_eq_true rfl⟩ rfl (Nat.le_of_ble_eq_true rfl) rfl w_221 w_41 w_219 w_220 w_218 hy_X1_measure rfl (Nat.le_of_ble_eq_true rfl) dX6_init_129 ?_
  obtain rfl : M22 = M' := Option.some.inj h
  exact r_gret X had hr dX6_init_132

def f_X7_init_34 (N : Nat) (M : Mem) : Option Mem :=
  nm (clr M 35) fun M1 =>
  nm (clr M1 36) fun M2 =>
  nm (clr M2 37) fun M3 =>
  nm (clr M3 38) fun M4 =>
  nm (clr M4 39) fun M5 =>
  nm (clr M5 40) fun M6 =>
  nm (clr M6 41) fun M7 =>
  nm (clr M7 42) fun M8 =>
  nm (clr M8 43) fun M9 =>
  nm (clr M9 44) fun M10 =>
  bd (f_X7_sizes N M10 (4 : Int32) (2 : Int32) (1 : Int32) (4 : Int32)) fun M11 =>
  nm (seI M11 36 (ix (11 : Int32)) (6 : Int32)) fun M13 =>
  nm (seI M13 36 (ix (12 : Int32)) (4 : Int32)) fun M14 =>
  nm (seI M14 36 (ix (13 : Int32)) (4 : Int32)) fun M15 =>
  nm (seI M15 36 (ix (14 : Int32)) (-400 : Int32)) fun M16 =>
  nm (seI M16 36 (ix (15 : Int32)) (400 : Int32)) fun M17 =>
  nm (seI M17 36 (ix (16 : Int32)) (-400 : Int32)) fun M18 =>
  nm (seI M18 36 (ix (17 : Int32)) (400 : Int32)) fun M19 =>
  some M19
set_option maxRecDepth 100000 in
set_option maxHeartbeats 4000000 in
theorem k_X7_init_34 (l : Launch) (N : Nat) (M M' : Mem) (h : f_X7_init_34 N M = some M') (d : Nat) (hd : 1 ≤ d) : Cg l d yX7_init cX7_init 1 10 317 tb_73 35 [.ref 34] M shp 45 M' := by
  obtain ⟨d, rfl⟩ : ∃ q, d = q + 1 := ⟨d - 1, by omega⟩
  unfold f_X7_init_34 at h
  refine Cg.of (by decide +kernel) rfl (Nat.le_of_ble_eq_true rfl) ?_
  intro p e s m args below meth c A ad D cI cJ X hr hnm0 hA hAI hAJ
  have had : ∀ k, k < 35 ∨ 45 ≤ k → ad k = ad k := fun _ _ => rfl
  refine r_sub (ls' := [(0, .ref 34)]) [0] rfl ?_
  refine r_aload_n X 0 dX7_init_0 rfl rfl ?_
  refine r_obj X w_604 w_56 w_57 (Nat.succ_le_succ (Nat.zero_le _)) (room21g _ _ _) (Nat.le_of_ble_eq_true rfl) dX7_init_1 ?_
  refine r_aload_n X 0 dX7_init_4 rfl rfl ?_
  refine r_bipush X 7 dX7_init_5 rfl ?_
  obtain ⟨M1, eM1, h⟩ := nm_ex h
  refine r_newa X hA (atype := .int) (N := 7) tb_73 tb_74 false cI ⟨rfl, rfl⟩ hAI rfl (Nat.le_of_ble_eq_true rfl) rfl rfl (by decide) rfl (Nat.le_of_ble_eq_true rfl) (Nat.le_of_ble_eq_true rfl) (Nat.le_of_ble_eq_true rfl) rfl rfl dX7_init_7 (fun ad had1 X => ?_)
  replace had := had_step (Nat.le_of_ble_eq_true rfl) had had1
  clear had1
  refine r_mem eM1 ?_
  refine r_putr X hnm0 (ci := 6) (fs := [.inl 999, .inl 999, .inl 999, .inr false, .inl 999, .inr false, .inl 999, .inl 999, .inr false, .inr false, .inr false, .inl 999, .inl 999, .inl 999, .inl 999, .inr false, .inr false, .inr false, .inr false, .inr false, .inr false, .inr false, .inr false, .inr false]) tb_74 tb_75 0 rfl in_X7 rfl tyX7_ok nmX7 rfl (Nat.le_of_ble_eq_true rfl) (Nat.le_of_ble_eq_true rfl) (Nat.le_of_ble_eq_true rfl) (by decide) w_609 rfl rfl (ty := .array .int) rfl rfl rfl dX7_init_9 ?_
  refine r_aload_n X 0 dX7_init_12 rfl rfl ?_
  refine r_bipush X 56 dX7_init_13 rfl ?_
  obtain ⟨M2, eM2, h⟩ := nm_ex h
  refine r_newa X hA (atype := .int) (N := 56) tb_75 tb_76 false cI ⟨rfl, rfl⟩ hAI rfl (Nat.le_of_ble_eq_true rfl) rfl rfl (by decide) rfl (Nat.le_of_ble_eq_true rfl) (Nat.le_of_ble_eq_true rfl) (Nat.le_of_ble_eq_true rfl) rfl rfl dX7_init_15 (fun ad had1 X => ?_)
  replace had := had_step (Nat.le_of_ble_eq_true rfl) had had1
  clear had1
  refine r_mem eM2 ?_
  refine r_putr X hnm0 (ci := 6) (fs := [.inl 35, .inl 999, .inl 999, .inr false, .inl 999, .inr false, .inl 999, .inl 999, .inr false, .inr false, .inr false, .inl 999, .inl 999, .inl 999, .inl 999, .inr false, .inr false, .inr false, .inr false, .inr false, .inr false, .inr false, .inr false, .inr false]) tb_76 tb_77 1 rfl in_X7 rfl tyX7_ok nmX7 rfl (Nat.le_of_ble_eq_true rfl) (Nat.le_of_ble_eq_true rfl) (Nat.le_of_ble_eq_true rfl) (by decide) w_610 rfl rfl (ty := .array .int) rfl rfl rfl dX7_init_17 ?_
  refine r_aload_n X 0 dX7_init_20 rfl rfl ?_
  refine r_bipush X 56 dX7_init_21 rfl ?_
  obtain ⟨M3, eM3, h⟩ := nm_ex h
  refine r_newa X hA (atype := .int) (N := 56) tb_77 tb_78 false cI ⟨rfl, rfl⟩ hAI rfl (Nat.le_of_ble_eq_true rfl) rfl rfl (by decide) rfl (Nat.le_of_ble_eq_true rfl) (Nat.le_of_ble_eq_true rfl) (Nat.le_of_ble_eq_true rfl) rfl rfl dX7_init_23 (fun ad had1 X => ?_)
  replace had := had_step (Nat.le_of_ble_eq_true rfl) had had1
  clear had1
  refine r_mem eM3 ?_
  refine r_putr X hnm0 (ci := 6) (fs := [.inl 35, .inl 36, .inl 999, .inr false, .inl 999, .inr false, .inl 999, .inl 999, .inr false, .inr false, .inr false, .inl 999, .inl 999, .inl 999, .inl 999, .inr false, .inr false, .inr false, .inr false, .inr false, .inr false, .inr false, .inr false, .inr false]) tb_78 tb_79 2 rfl in_X7 rfl tyX7_ok nmX7 rfl (Nat.le_of_ble_eq_true rfl) (Nat.le_of_ble_eq_true rfl) (Nat.le_of_ble_eq_true rfl) (by decide) w_611 rfl rfl (ty := .array .int) rfl rfl rfl dX7_init_25 ?_
  refine r_aload_n X 0 dX7_init_28 rfl rfl ?_
  refine r_bipush X 24 dX7_init_29 rfl ?_
  obtain ⟨M4, eM4, h⟩ := nm_ex h
  refine r_newa X hA (atype := .int) (N := 24) tb_79 tb_80 false cI ⟨rfl, rfl⟩ hAI rfl (Nat.le_of_ble_eq_true rfl) rfl rfl (by decide) rfl (Nat.le_of_ble_eq_true rfl) (Nat.le_of_ble_eq_true rfl) (Nat.le_of_ble_eq_true rfl) rfl rfl dX7_init_31 (fun ad had1 X => ?_)
  replace had := had_step (Nat.le_of_ble_eq_true rfl) had had1
  clear had1
  refine r_mem eM4 ?_
  refine r_putr X hnm0 (ci := 6) (fs := [.inl 35, .inl 36, .inl 37, .inr false, .inl 999, .inr false, .inl 999, .inl 999, .inr false, .inr false, .inr false, .inl 999, .inl 999, .inl 999, .inl 999, .inr false, .inr false, .inr false, .inr false, .inr false, .inr false, .inr false, .inr false, .inr false]) tb_80 tb_81 4 rfl in_X7 rfl tyX7_ok nmX7 rfl (Nat.le_of_ble_eq_true rfl) (Nat.le_of_ble_eq_true rfl) (Nat.le_of_ble_eq_true rfl) (by decide) w_613 rfl rfl (ty := .array .int) rfl rfl rfl dX7_init_33 ?_
  refine r_aload_n X 0 dX7_init_36 rfl rfl ?_
  refine r_bipush X 125 dX7_init_37 rfl ?_
  obtain ⟨M5, eM5, h⟩ := nm_ex h
  refine r_newa X hA (atype := .int) (N := 125) tb_81 tb_82 false cI ⟨rfl, rfl⟩ hAI rfl (Nat.le_of_ble_eq_true rfl) rfl rfl (by decide) rfl (Nat.le_of_ble_eq_true rfl) (Nat.le_of_ble_eq_true rfl) (Nat.le_of_ble_eq_true rfl) rfl rfl dX7_init_39 (fun ad had1 X => ?_)
  replace had := had_step (Nat.le_of_ble_eq_true rfl) had had1
  clear had1
  refine r_mem eM5 ?_
  refine r_putr X hnm0 (ci := 6) (fs := [.inl 35, .inl 36, .inl 37, .inr false, .inl 38, .inr false, .inl 999, .inl 999, .inr false, .inr false, .inr false, .inl 999, .inl 999, .inl 999, .inl 999, .inr false, .inr false, .inr false, .inr false, .inr false, .inr false, .inr false, .inr false, .inr false]) tb_82 tb_83 6 rfl in_X7 rfl tyX7_ok nmX7 rfl (Nat.le_of_ble_eq_true rfl) (Nat.le_of_ble_eq_true rfl) (Nat.le_of_ble_eq_true rfl) (by decide) w_615 rfl rfl (ty := .array .int) rfl rfl rfl dX7_init_41 ?_
  refine r_aload_n X 0 dX7_init_44 rfl rfl ?_
  refine r_bipush X 24 dX7_init_45 rfl ?_
  obtain ⟨M6, eM6, h⟩ := nm_ex h
  refine r_newa X hA (atype := .int) (N := 24) tb_83 tb_84 false cI ⟨rfl, rfl⟩ hAI rfl (Nat.le_of_ble_eq_true rfl) rfl rfl (by decide) rfl (Nat.le_of_ble_eq_true rfl) (Nat.le_of_ble_eq_true rfl) (Nat.le_of_ble_eq_true rfl) rfl rfl dX7_init_47 (fun ad had1 X => ?_)
  replace had := had_step (Nat.le_of_ble_eq_true rfl) had had1
  clear had1
  refine r_mem eM6 ?_
  refine r_putr X hnm0 (ci := 6) (fs := [.inl 35, .inl 36, .inl 37, .inr false, .inl 38, .inr false, .inl 39, .inl 999, .inr false, .inr false, .inr false, .inl 999, .inl 999, .inl 999, .inl 999, .inr false, .inr false, .inr false, .inr false, .inr false, .inr false, .inr false, .inr false, .inr false]) tb_84 tb_85 7 rfl in_X7 rfl tyX7_ok nmX7 rfl (Nat.le_of_ble_eq_true rfl) (Nat.le_of_ble_eq_true rfl) (Nat.le_of_ble_eq_true rfl) (by decide) w_616 rfl rfl (ty := .array .int) rfl rfl rfl dX7_init_49 ?_
  refine r_aload_n X 0 dX7_init_52 rfl rfl ?_
  refine r_bipush X 7 dX7_init_53 rfl ?_
  obtain ⟨M7, eM7, h⟩ := nm_ex h
  refine r_newa X hA (atype := .int) (N := 7) tb_85 tb_86 false cI ⟨rfl, rfl⟩ hAI rfl (Nat.le_of_ble_eq_true rfl) rfl rfl (by decide) rfl (Nat.le_of_ble_eq_true rfl) (Nat.le_of_ble_eq_true rfl) (Nat.le_of_ble_eq_true rfl) rfl rfl dX7_init_55 (fun ad had1 X => ?_)
  replace had := had_step (Nat.le_of_ble_eq_true rfl) had had1
  clear had1
  refine r_mem eM7 ?_
  refine r_putr X hnm0 (ci := 6) (fs := [.inl 35, .inl 36, .inl 37, .inr false, .inl 38, .inr false, .inl 39, .inl 40, .inr false, .inr false, .inr false, .inl 999, .inl 999, .inl 999, .inl 999, .inr false, .inr false, .inr false, .inr false, .inr false, .inr false, .inr false, .inr false, .inr false]) tb_86 tb_87 11 rfl in_X7 rfl tyX7_ok nmX7 rfl (Nat.le_of_ble_eq_true rfl) (Nat.le_of_ble_eq_true rfl) (Nat.le_of_ble_eq_true rfl) (by decide) w_620 rfl rfl (ty := .array .int) rfl rfl rfl dX7_init_57 ?_
  refine r_aload_n X 0 dX7_init_60 rfl rfl ?_
  refine r_bipush X 6 dX7_init_61 rfl ?_
  obtain ⟨M8, eM8, h⟩ := nm_ex h
  refine r_newa X hA (atype := .int) (N := 6) tb_87 tb_88 false cI ⟨rfl, rfl⟩ hAI rfl (Nat.le_of_ble_eq_true rfl) rfl rfl (by decide) rfl (Nat.le_of_ble_eq_true rfl) (Nat.le_of_ble_eq_true rfl) (Nat.le_of_ble_eq_true rfl) rfl rfl dX7_init_63 (fun ad had1 X => ?_)
  replace had := had_step (Nat.le_of_ble_eq_true rfl) had had1
  clear had1
  refine r_mem eM8 ?_
  refine r_putr X hnm0 (ci := 6) (fs := [.inl 35, .inl 36, .inl 37, .inr false, .inl 38, .inr false, .inl 39, .inl 40, .inr false, .inr false, .inr false, .inl 41, .inl 999, .inl 999, .inl 999, .inr false, .inr false, .inr false, .inr false, .inr false, .inr false, .inr false, .inr false, .inr false]) tb_88 tb_89 12 rfl in_X7 rfl tyX7_ok nmX7 rfl (Nat.le_of_ble_eq_true rfl) (Nat.le_of_ble_eq_true rfl) (Nat.le_of_ble_eq_true rfl) (by decide) w_621 rfl rfl (ty := .array .int) rfl rfl rfl dX7_init_65 ?_
  refine r_aload_n X 0 dX7_init_68 rfl rfl ?_
  refine r_bipush X 6 dX7_init_69 rfl ?_
  obtain ⟨M9, eM9, h⟩ := nm_ex h
  refine r_newa X hA (atype := .int) (N := 6) tb_89 tb_90 false cI ⟨rfl, rfl⟩ hAI rfl (Nat.le_of_ble_eq_true rfl) rfl rfl (by decide) rfl (Nat.le_of_ble_eq_true rfl) (Nat.le_of_ble_eq_true rfl) (Nat.le_of_ble_eq_true rfl) rfl rfl dX7_init_71 (fun ad had1 X => ?_)
  replace had := had_step (Nat.le_of_ble_eq_true rfl) had had1
  clear had1
  refine r_mem eM9 ?_
  refine r_putr X hnm0 (ci := 6) (fs := [.inl 35, .inl 36, .inl 37, .inr false, .inl 38, .inr false, .inl 39, .inl 40, .inr false, .inr false, .inr false, .inl 41, .inl 42, .inl 999, .inl 999, .inr false, .inr false, .inr false, .inr false, .inr false, .inr false, .inr false, .inr false, .inr false]) tb_90 tb_91 13 rfl in_X7 rfl tyX7_ok nmX7 rfl (Nat.le_of_ble_eq_true rfl) (Nat.le_of_ble_eq_true rfl) (Nat.le_of_ble_eq_true rfl) (by decide) w_622 rfl rfl (ty := .array .int) rfl rfl rfl dX7_init_73 ?_
  refine r_aload_n X 0 dX7_init_76 rfl rfl ?_
  refine r_bipush X 6 dX7_init_77 rfl ?_
  obtain ⟨M10, eM10, h⟩ := nm_ex h
  refine r_newa X hA (atype := .int) (N := 6) tb_91 tb_92 false cI ⟨rfl, rfl⟩ hAI rfl (Nat.le_of_ble_eq_true rfl) rfl rfl (by decide) rfl (Nat.le_of_ble_eq_true rfl) (Nat.le_of_ble_eq_true rfl) (Nat.le_of_ble_eq_true rfl) rfl rfl dX7_init_79 (fun ad had1 X => ?_)
  replace had := had_step (Nat.le_of_ble_eq_true rfl) had had1
  clear had1
  refine r_mem eM10 ?_
  refine r_putr X hnm0 (ci := 6) (fs := [.inl 35, .inl 36, .inl 37, .inr false, .inl 38, .inr false, .inl 39, .inl 40, .inr false, .inr false, .inr false, .inl 41, .inl 42, .inl 43, .inl 999, .inr false, .inr false, .inr false, .inr false, .inr false, .inr false, .inr false, .inr false, .inr false]) tb_92 tb_93 14 rfl in_X7 rfl tyX7_ok nmX7 rfl (Nat.le_of_ble_eq_true rfl) (Nat.le_of_ble_eq_true rfl) (Nat.le_of_ble_eq_true rfl) (by decide) w_623 rfl rfl (ty := .array .int) rfl rfl rfl dX7_init_81 ?_
  refine r_aload_n X 0 dX7_init_84 rfl rfl ?_
  refine r_iconst X 4 dX7_init_85 rfl ?_
  refine r_iconst X 2 dX7_init_86 rfl ?_
  refine r_iconst X 1 dX7_init_87 rfl ?_
  refine r_iconst X 4 dX7_init_88 rfl ?_
  refine r_conv shp (by decide +kernel) ?_
  obtain ⟨M11, h12, h⟩ := bd_ex h
  refine r_callV X (st := []) (av := [.int (4 : Int32), .int (2 : Int32), .int (1 : Int32), .int (4 : Int32)]) (k := 34) (ci := 6) (k_X7_sizes l N _ (Nat.le_of_ble_eq_true rfl) _ _ _ _ _ _ h12 d (by omega)) (fitR_g (Nat.le_of_ble_eq_true rfl)) ⟨Nat.le_of_ble_eq_true rfl, Nat.le_of_ble_eq_true rfl⟩ rfl (Nat.le_of_ble_eq_true rfl) rfl w_608 w_47 w_607 w_17 w_605 hy_X7_sizes rfl (Nat.le_of_ble_eq_true rfl) dX7_init_89 ?_
  refine r_aload_n X 0 dX7_init_92 rfl rfl ?_
  refine r_getr X 1 36 in_X7 (ci := 6) rfl rfl (Nat.le_of_ble_eq_true rfl) (Nat.le_of_ble_eq_true rfl) rfl w_610 dX7_init_93 (by decide) ?_
  refine r_bipush X 11 dX7_init_96 rfl ?_
  refine r_bipush X 6 dX7_init_98 rfl ?_
  obtain ⟨M13, eM13, h⟩ := nm_ex h
  refine r_iast X (n := 56) rfl (Nat.le_of_ble_eq_true rfl) (by decide) dX7_init_100 ?_
  refine r_mem eM13 ?_
  refine r_aload_n X 0 dX7_init_101 rfl rfl ?_
  refine r_getr X 1 36 in_X7 (ci := 6) rfl rfl (Nat.le_of_ble_eq_true rfl) (Nat.le_of_ble_eq_true rfl) rfl w_610 dX7_init_102 (by decide) ?_
  refine r_bipush X 12 dX7_init_105 rfl ?_
  refine r_iconst X 4 dX7_init_107 rfl ?_
  obtain ⟨M14, eM14, h⟩ := nm_ex h
  refine r_iast X (n := 56) rfl (Nat.le_of_ble_eq_true rfl) (by decide) dX7_init_108 ?_
  refine r_mem eM14 ?_
  refine r_aload_n X 0 dX7_init_109 rfl rfl ?_
  refine r_getr X 1 36 in_X7 (ci := 6) rfl rfl (Nat.le_of_ble_eq_true rfl) (Nat.le_of_ble_eq_true rfl) rfl w_610 dX7_init_110 (by decide) ?_
  refine r_bipush X 13 dX7_init_113 rfl ?_
  refine r_iconst X 4 dX7_init_115 rfl ?_
  obtain ⟨M15, eM15, h⟩ := nm_ex h
  refine r_iast X (n := 56) rfl (Nat.le_of_ble_eq_true rfl) (by decide) dX7_init_116 ?_
  refine r_mem eM15 ?_
  refine r_aload_n X 0 dX7_init_117 rfl rfl ?_
  refine r_getr X 1 36 in_X7 (ci := 6) rfl rfl (Nat.le_of_ble_eq_true rfl) (Nat.le_of_ble_eq_true rfl) rfl w_610 dX7_init_118 (by decide) ?_
  refine r_bipush X 14 dX7_init_121 rfl ?_
  refine r_sipush X (-400) dX7_init_123 rfl ?_
  obtain ⟨M16, eM16, h⟩ := nm_ex h
  refine r_iast X (n := 56) rfl (Nat.le_of_ble_eq_true rfl) (by decide) dX7_init_126 ?_
  refine r_mem eM16 ?_
  refine r_aload_n X 0 dX7_init_127 rfl rfl ?_
  refine r_getr X 1 36 in_X7 (ci := 6) rfl rfl (Nat.le_of_ble_eq_true rfl) (Nat.le_of_ble_eq_true rfl) rfl w_610 dX7_init_128 (by decide) ?_
  refine r_bipush X 15 dX7_init_131 rfl ?_
  refine r_sipush X 400 dX7_init_133 rfl ?_
  obtain ⟨M17, eM17, h⟩ := nm_ex h
  refine r_iast X (n := 56) rfl (Nat.le_of_ble_eq_true rfl) (by decide) dX7_init_136 ?_
  refine r_mem eM17 ?_
  refine r_aload_n X 0 dX7_init_137 rfl rfl ?_
  refine r_getr X 1 36 in_X7 (ci := 6) rfl rfl (Nat.le_of_ble_eq_true rfl) (Nat.le_of_ble_eq_true rfl) rfl w_610 dX7_init_138 (by decide) ?_
  refine r_bipush X 16 dX7_init_141 rfl ?_
  refine r_sipush X (-400) dX7_init_143 rfl ?_
  obtain ⟨M18, eM18, h⟩ := nm_ex h
  refine r_iast X (n := 56) rfl (Nat.le_of_ble_eq_true rfl) (by decide) dX7_init_146 ?_
  refine r_mem eM18 ?_
  refine r_aload_n X 0 dX7_init_147 rfl rfl ?_
  refine r_getr X 1 36 in_X7 (ci := 6) rfl rfl (Nat.le_of_ble_eq_true rfl) (Nat.le_of_ble_eq_true rfl) rfl w_610 dX7_init_148 (by decide) ?_
  refine r_bipush X 17 dX7_init_151 rfl ?_
  refine r_sipush X 400 dX7_init_153 rfl ?_
  obtain ⟨M19, eM19, h⟩ := nm_ex h
  refine r_iast X (n := 56) rfl (Nat.le_of_ble_eq_true rfl) (by decide) dX7_init_156 ?_
  refine r_mem eM19 ?_
  obtain rfl : M19 = M' := Option.some.inj h
  exact r_gret X had hr dX7_init_157

