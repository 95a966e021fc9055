/-! Part 13: constructors: rows over a world that grows -/
def clr (M : Mem) (k : Nat) : Mem := (fun a b => if a = k then 0 else M.1 a b, fun a b => if a = k then 0 else M.2 a b)
def dfk (f : Fk) : Value := match f with
  | .inl _ => .null
  | .inr false => .int 0
  | .inr true => .long 0
/-- references of a shape lie below n, or are null -/
def wfS (n : Nat) (x : Shp) : Bool := match x with
  | .inl (_, fs) => fs.all (fun f => match f with | .inl q => Nat.blt q n || q == 999 | .inr _ => true)
  | .inr _ => true
def wfT (n : Nat) (T : List Shp) : Bool := T.all (wfS n)
def rok (n : Nat) (v : Value) : Bool := match v with
  | .ref k => Nat.blt k n || Nat.ble 45 k
  | _ => true
theorem rok_cv {ad ad' : Nat → Nat} {n : Nat} {v : Value} (h : rok n v = true) (had : ∀ k, k < n ∨ 45 ≤ k → ad' k = ad k) : cv ad' v = cv ad v := by
  cases v with
  | ref k =>
    simp only [rok, Bool.or_eq_true, Nat.blt_eq, Nat.ble_eq] at h
    simp only [cv, had k h]
  | _ => rfl
theorem rok_st {ad ad' : Nat → Nat} {n : Nat} {st : List Value} (h : st.all (rok n) = true) (had : ∀ k, k < n ∨ 45 ≤ k → ad' k = ad k) : st.map (cv ad') = st.map (cv ad) :=
  List.map_congr_left fun v hv => rok_cv (List.all_eq_true.mp h v hv) had
theorem rok_ls {ad ad' : Nat → Nat} {n : Nat} {ls : List (Nat × Value)} (h : ls.all (fun q => rok n q.2) = true) (had : ∀ k, k < n ∨ 45 ≤ k → ad' k = ad k) : ls.map (fun q => (q.1, cv ad' q.2)) = ls.map (fun q => (q.1, cv ad q.2)) :=
  List.map_congr_left fun v hv => by
    have h1 : rok n v.2 = true := List.all_eq_true.mp h v hv
    rw [rok_cv h1 had]
theorem cellE_ext {ad ad' : Nat → Nat} {cI cJ : ClassId} {sh sh' : Nat → Shp} {M M' : Mem} {k n : Nat} (hs : sh' k = sh k) (hw : wfS n (sh k) = true) (had : ∀ q, q < n → ad' q = ad q) (h1 : M'.1 k = M.1 k) (h2 : M'.2 k = M.2 k) : cellE ad' cI cJ sh' M' k = cellE ad cI cJ sh M k := by
  unfold cellE
  rw [hs]
  generalize sh k = x at hw
  rcases x with ⟨ci, fs⟩ | ⟨b, N⟩
  · have : fs.mapIdx (fun j f => cv ad' (fvA M' k j f)) = fs.mapIdx (fun j f => cv ad (fvA M k j f)) := by
      apply List.ext_getElem?
      intro i
      rw [List.getElem?_mapIdx, List.getElem?_mapIdx]
      cases hf : fs[i]? with
      | none => rfl
      | some f =>
        simp only [Option.map_some]
        have hf1 := List.all_eq_true.mp hw f (List.mem_of_getElem? hf)
        rcases f with q | b
        · simp only [Bool.or_eq_true, Nat.blt_eq, beq_iff_eq] at hf1
          by_cases h9 : q = 999
          · simp [fvA, h9, cv]
          · have hq : q < n := hf1.resolve_right h9
            simp [fvA, h9, cv, had q hq]
        · cases b
          · simp [fvA, cv, h1]
          · simp [fvA, cv, h2]
    simp only [this]
  · cases b
    · simp only [h1]
    · simp only [h2]
theorem shT_app_l {T : List Shp} {x : Shp} {k : Nat} (h : k < T.length) : shT (T ++ [x]) k = shT T k := by
  unfold shT
  rw [List.getD_eq_getElem?_getD, List.getD_eq_getElem?_getD, List.getElem?_append_left h]
theorem shT_app_r {T : List Shp} {x : Shp} {n : Nat} (h : T.length = n) : shT (T ++ [x]) n = x := by
  unfold shT
  rw [List.getD_eq_getElem?_getD, List.getElem?_append_right (by omega), h, Nat.sub_self]
  rfl
theorem wfT_at {n k : Nat} {T : List Shp} (h : wfT n T = true) : wfS n (shT T k) = true := by
  unfold shT
  rw [List.getD_eq_getElem?_getD]
  cases hk : T[k]? with
  | none => rfl
  | some x => exact List.all_eq_true.mp h x (List.mem_of_getElem? hk)
theorem cells_push {ad ad' : Nat → Nat} {cI cJ : ClassId} {T : List Shp} {x : Shp} {n : Nat} {M : Mem} (hn : T.length = n) (hw : wfT n T = true) (had : ∀ q, q ≠ n → ad' q = ad q) : cells ad' cI cJ (shT (T ++ [x])) (n + 1) (clr M n) = cells ad cI cJ (shT T) n M ++ [(ad' n, cellE ad' cI cJ (shT (T ++ [x])) (clr M n) n)] := by
  unfold cells
  rw [List.range_succ, List.map_append]
  congr 1
  apply List.map_congr_left
  intro k hk
  have hk := List.mem_range.mp hk
  rw [had k (Nat.ne_of_lt hk), cellE_ext (sh := shT T) (M := M) (shT_app_l (by omega)) (wfT_at hw) (fun q hq => had q (Nat.ne_of_lt hq))]
  · funext j; simp [clr, Nat.ne_of_lt hk]
  · funext j; simp [clr, Nat.ne_of_lt hk]
theorem cells_sh {ad : Nat → Nat} {cI cJ : ClassId} {sh sh' : Nat → Shp} {n : Nat} {M : Mem} (h : ∀ k, k < n → sh k = sh' k) : cells ad cI cJ sh n M = cells ad cI cJ sh' n M := by
  unfold cells
  apply List.map_congr_left
  intro k hk
  unfold cellE
  rw [h k (List.mem_range.mp hk)]
theorem Evn.ad {A : Nat → Prop} {ad ad' : Nat → Nat} {D : va_G} {cI cJ : ClassId} {s : State} {H : Heap} (h : Evn A ad D cI cJ s H) (had : ∀ k, 45 ≤ k → ad' k = ad k) : Evn A ad' D cI cJ s H :=
  ⟨h.1, h.2.1, fun k hk => by rw [had (45 + k) (by omega)]; exact h.2.2 k hk⟩
def rmg (d mc ms : Nat) : Room := { frames := d, cells := mc, slots := ms, locals := 40 * d }
def Pg (A : Nat → Prop) (ad : Nat → Nat) (D : va_G) (cI cJ : ClassId) (T : List Shp) (n : Nat) (av : List Value) (M : Mem) : Array Value → State → Prop := fun v U => Pq A ad D cI cJ (shT T) n av M v U ∧ ∀ q, U.heap.size ≤ q → A q
def Qg (A : Nat → Prop) (ad : Nat → Nat) (D : va_G) (cI cJ : ClassId) (n : Nat) (sh' : Nat → Shp) (n' : Nat) (M' : Mem) : Array Value → State → Outcome → State → Prop := fun _ st o t => o = .returned none ∧ (∃ ad', (∀ k, k < n ∨ 45 ≤ k → ad' k = ad k) ∧ Dy A ad' D cI cJ sh' n' M' t.heap) ∧ va_F A st t
def wsG (y : MethodName) (cc : ByteArray) (nL : Nat) : List Cond := [.code y cc nL none, .arrayClass .int, .arrayClass .long]
/-- a constructor's contract: the world grows from the shapes T to those of sh' -/
def Cg (l : Launch) (d : Nat) (y : MethodName) (cc : ByteArray) (nL : Nat) (mc ms : Nat) (T : List Shp) (n : Nat) (av : List Value) (M : Mem) (sh' : Nat → Shp) (n' : Nat) (M' : Mem) : Prop :=
  ∀ (A : Nat → Prop) (ad : Nat → Nat) (D : va_G) (cI cJ : ClassId), Met l y (wsG y cc nL) (rmg d mc ms) (Pg A ad D cI cJ T n av M) (Qg A ad D cI cJ n sh' n' M') mc ms A
theorem Pg_blind {A : Nat → Prop} {ad : Nat → Nat} {D : va_G} {cI cJ : ClassId} {T : List Shp} {n : Nat} {av : List Value} {M : Mem} : FrameBlind (Pg A ad D cI cJ T n av M) := by
  intro a U g mk h
  exact ⟨Pq_blind a U g mk h.1, h.2⟩
section GROW
variable {p : Program} {l : Launch} {e : Env} {R : Room} {s : State} {m : MethodId} {args : Array Value} {below : List Frame} {meth : Method} {c : Code} {cc : ByteArray} {nL : Nat} {own : String} {A : Nat → Prop} {ad : Nat → Nat} {D : va_G} {cI cJ : ClassId} {sh : Nat → Shp} {n : Nat} {kc ks : Nat} {Q : State → Prop}
variable {M : Mem} {pc : Nat} {ls : List (Nat × Value)} {st : List Value}
theorem r_conv (sh' : Nat → Shp) (h : ∀ k, k < n → sh k = sh' k) (k : AW p l e R s m args below meth c nL A ad D cI cJ sh' n kc ks Q M pc ls st) : AW p l e R s m args below meth c nL A ad D cI cJ sh n kc ks Q M pc ls st := by
  intro H locs lsA hD hS hl
  refine k H locs lsA ?_ hS hl
  unfold Dy at hD ⊢
  rw [← cells_sh h]
  exact hD
theorem clr_st {M : Mem} {k : Nat} (hk : k < 45) (h : ∀ k j, k < 6 → j < sln k → M.1 (45 + k) j = sdt k j) : ∀ k' j, k' < 6 → j < sln k' → (clr M k).1 (45 + k') j = sdt k' j := by
  intro k' j h1 h2
  have : ¬ (45 + k' = k) := by omega
  simp only [clr, if_neg this]
  exact h k' j h1 h2
theorem r_new (X : Cx p s m meth c cc nL own A ad D cI cJ) (hA : ∀ q, s.heap.size ≤ q → A q) {ix ci N : Nat} {C : String} {T0 : u_T} {ty0 : Nat → FieldType} {fs : List Fk} (T T' : List Shp) (hn : T.length = n) (hn45 : n < 45) (hT' : T ++ [.inl (ci, fs)] = T') (hwf : wfT n T = true) (hin : ∀ w ∈ u_ws C T0 N, w ∈ lw_tbl ∧ okw w = true) (hc : vwCl[ci]? = some (C, T0, N)) (hty : ∀ k, k < N → parseFieldDescriptor (T0 k).2.2.1 = some (ty0 k)) (hdf : ∀ j, j < N → defaultValue (ty0 j) = vp_V (fs.map dfk) j) (h999 : wfS 0 (.inl (ci, fs)) = true) (hcl : Cond.classLink own ix C ∈ lw_tbl) (hinst : Cond.instantiable C N ∈ lw_tbl) (hini : Cond.initialized C ∈ lw_tbl) (hcells : kc + 1 ≤ R.cells) (hslots : ks + N ≤ R.slots) (hls : ls.all (fun q => rok n q.2) = true) (hst : st.all (rok n) = true) (hd : decode cc pc = .ok (.new ix, 3))
    (kk : ∀ ad' : Nat → Nat, (∀ k, k < n ∨ 45 ≤ k → ad' k = ad k) → Cx p s m meth c cc nL own A ad' D cI cJ → AW p l e R s m args below meth c nL A ad' D cI cJ (shT T') (n + 1) (kc + 1) (ks + N) Q (clr M n) (pc + 3) ls (.ref n :: st)) : AW p l e R s m args below meth c nL A ad D cI cJ (shT T) n kc ks Q M pc ls st := by
  intro H locs lsA hD hS hl
  subst hT'
  refine va_new (ci := ci) (fs := fs.map dfk) (Ts := u_ws C T0 N) X.1 X.2.1 (fun w hw => X.2.2.2.2.1.1 w (hin w hw).1 (hin w hw).2 args) (fun w hw => hw) ty0 hty X.2.2.2.1 (X.2.2.2.2.1.1 _ hcl rfl args) (X.2.2.2.2.1.1 _ hinst rfl args) (X.2.2.2.2.1.1 _ hini rfl args) X.2.2.2.2.1.2.1 hD.1 hD.2.1 hS hA hc hdf hcells hslots hd (fun q H1 hP1 hD1 hS1 => ?_)
  obtain ⟨ad', hq, had⟩ : ∃ ad' : Nat → Nat, ad' n = q ∧ ∀ k, k ≠ n → ad' k = ad k := ⟨fun k => if k = n then q else ad k, if_pos rfl, fun k hk => if_neg hk⟩
  have had2 : ∀ k, k < n ∨ 45 ≤ k → ad' k = ad k := fun k hk => had k (by omega)
  have e : cells ad' cI cJ (shT (T ++ [.inl (ci, fs)])) (n + 1) (clr M n) = cells ad cI cJ (shT T) n M ++ [(q, .inr (ci, fs.map dfk))] := by
    rw [cells_push hn hwf had, hq, cellE_o (shT_app_r hn)]
    congr 3
    apply congrArg
    congr 1
    apply List.ext_getElem?
    intro i
    rw [List.getElem?_mapIdx, List.getElem?_map]
    cases hf : fs[i]? with
    | none => rfl
    | some f =>
      have hf1 := List.all_eq_true.mp h999 f (List.mem_of_getElem? hf)
      rcases f with q | b
      · simp only [Bool.or_eq_true, Nat.blt_eq, beq_iff_eq] at hf1
        have : q = 999 := hf1.resolve_left (Nat.not_lt_zero _)
        simp [fvA, this, cv, dfk]
      · cases b <;> simp [fvA, cv, dfk, clr]
  rw [← e] at hP1 hD1
  have h2 := kk ad' had2 ⟨X.1, X.2.1, X.2.2.1, X.2.2.2.1, X.2.2.2.2.1.ad (fun k hk => had2 k (Or.inr hk)), X.2.2.2.2.2⟩ H1 locs lsA ⟨hP1, hD1, by omega, clr_st hn45 hD.2.2.2⟩ hS1 (by rw [rok_ls hls had2]; exact hl)
  rw [show (Value.ref n :: st).map (cv ad') = .ref q :: st.map (cv ad) by rw [List.map_cons, rok_st hst had2]; simp only [cv, hq]] at h2
  exact h2
theorem r_newa (X : Cx p s m meth c cc nL own A ad D cI cJ) (hA : ∀ q, s.heap.size ≤ q → A q) (T T' : List Shp) {atype : ArrayType} (b : Bool) (cX : ClassId) (hX : (if b then (cX = cJ ∧ newarray.typeOf atype = .long) else (cX = cI ∧ newarray.typeOf atype = .int))) (harr : (Cond.arrayClass (newarray.typeOf atype)).before args s = true) {v : Int32} {N : Nat} (hn : T.length = n) (hn45 : n < 45) (hT' : T ++ [.inr (b, N)] = T') (hwf : wfT n T = true) (hv : ¬ v < 0) (hN : v.toNatClampNeg = N) (hbytes : N * 8 ≤ 536870912) (hcells : kc + 1 ≤ R.cells) (hslots : ks + N ≤ R.slots) (hls : ls.all (fun q => rok n q.2) = true) (hst : st.all (rok n) = true) (hd : decode cc pc = .ok (.newarray atype, 2))
    (kk : ∀ ad' : Nat → Nat, (∀ k, k < n ∨ 45 ≤ k → ad' k = ad k) → Cx p s m meth c cc nL own A ad' D cI cJ → AW p l e R s m args below meth c nL A ad' D cI cJ (shT T') (n + 1) (kc + 1) (ks + N) Q (clr M n) (pc + 2) ls (.ref n :: st)) : AW p l e R s m args below meth c nL A ad D cI cJ (shT T) n kc ks Q M pc ls (.int v :: st) := by
  intro H locs lsA hD hS hl
  subst hT'
  have fin : ∀ (q : Nat) (H1 : Heap), va_P D vwCl (cells ad cI cJ (shT T) n M ++ [(q, if b then .inl (cJ, N, .inr (.inl (fun _ => 0))) else .inl (cI, N, .inl (fun _ => 0)))]) H1 → va_D A (cells ad cI cJ (shT T) n M ++ [(q, if b then .inl (cJ, N, .inr (.inl (fun _ => 0))) else .inl (cI, N, .inl (fun _ => 0)))]) → va_S A s.heap H1 locs → W p l e R s m args below meth c H1 locs (kc + 1) (ks + N) Q (F0 m (pc + 2) lsA (.ref q :: st.map (cv ad))) := by
    intro q H1 hP1 hD1 hS1
    obtain ⟨ad', hq, had⟩ : ∃ ad' : Nat → Nat, ad' n = q ∧ ∀ k, k ≠ n → ad' k = ad k := ⟨fun k => if k = n then q else ad k, if_pos rfl, fun k hk => if_neg hk⟩
    have had2 : ∀ k, k < n ∨ 45 ≤ k → ad' k = ad k := fun k hk => had k (by omega)
    have e : cells ad' cI cJ (shT (T ++ [.inr (b, N)])) (n + 1) (clr M n) = cells ad cI cJ (shT T) n M ++ [(q, if b then .inl (cJ, N, .inr (.inl (fun _ => 0))) else .inl (cI, N, .inl (fun _ => 0)))] := by
      rw [cells_push hn hwf had, hq]
      cases b
      · have e9 : (clr M n).1 n = fun _ => 0 := by funext j; simp [clr]
        rw [cellE_i (shT_app_r hn), e9]
        rfl
      · have e9 : (clr M n).2 n = fun _ => 0 := by funext j; simp [clr]
        rw [cellE_l (shT_app_r hn), e9]
        rfl
    rw [← e] at hP1 hD1
    have h2 := kk ad' had2 ⟨X.1, X.2.1, X.2.2.1, X.2.2.2.1, X.2.2.2.2.1.ad (fun k hk => had2 k (Or.inr hk)), X.2.2.2.2.2⟩ H1 locs lsA ⟨hP1, hD1, by omega, clr_st hn45 hD.2.2.2⟩ hS1 (by rw [rok_ls hls had2]; exact hl)
    rw [show (Value.ref n :: st).map (cv ad') = .ref q :: st.map (cv ad) by rw [List.map_cons, rok_st hst had2]; simp only [cv, hq]] at h2
    exact h2
  have hK := X.2.2.2.2.1.2.1
  cases b
  · simp only [Bool.false_eq_true, if_false] at hX fin
    obtain ⟨rfl, hty⟩ := hX
    refine va_newa (a0 := (N, .inl (fun _ => 0))) X.1 X.2.1 harr hty hK hD.1 hD.2.1 hS hA (fun cA => rfl) hv hN (Nat.le_trans (Nat.mul_le_mul_left _ (by decide)) hbytes) hcells hslots hd (fun q cA H1 hK1 hP1 hD1 hS1 => ?_)
    have e1 : s.vm.findClass ("[" ++ FieldType.int.toString) = some cA := (hK1.2 2 (cA, .int) rfl).2
    have e2 : s.vm.findClass ("[" ++ FieldType.int.toString) = some cX := (hK.2 0 (cX, .int) rfl).2
    have e3 : cA = cX := Option.some.inj (e1.symm.trans e2)
    subst e3
    exact fin q H1 hP1 hD1 hS1
  · simp only [if_true] at hX fin
    obtain ⟨rfl, hty⟩ := hX
    refine va_newa (a0 := (N, .inr (.inl (fun _ => 0)))) X.1 X.2.1 harr hty hK hD.1 hD.2.1 hS hA (fun cA => rfl) hv hN (Nat.le_trans (Nat.mul_le_mul_left _ (by decide)) hbytes) hcells hslots hd (fun q cA H1 hK1 hP1 hD1 hS1 => ?_)
    have e1 : s.vm.findClass ("[" ++ FieldType.long.toString) = some cA := (hK1.2 2 (cA, .long) rfl).2
    have e2 : s.vm.findClass ("[" ++ FieldType.long.toString) = some cX := (hK.2 1 (cX, .long) rfl).2
    have e3 : cA = cX := Option.some.inj (e1.symm.trans e2)
    subst e3
    exact fin q H1 hP1 hD1 hS1
theorem catS {ad : Nat → Nat} {st : List Value} : ((st.map (cv ad)).map fun v => v.category) = st.map Value.category := by
  rw [List.map_map]
  apply List.map_congr_left
  intro v _
  exact cv_cat ad v
theorem r_obj (X : Cx p s m meth c cc nL own A ad D cI cJ) {k ix : Nat} (hw : Cond.methodLink own ix Lib.objectInit ∈ lw_tbl) (h1 : Cond.instanceMethod Lib.objectInit ∈ lw_tbl) (h2 : Cond.code Lib.objectInit ⟨#[0xb1]⟩ 1 none ∈ lw_tbl) (hf : 1 ≤ R.frames) (hR : 21 ≤ R.locals) (hW : (st.map Value.category).sum ≤ 8) (hd : decode cc pc = .ok (.invokespecial ix, 3)) (kk : AW p l e R s m args below meth c nL A ad D cI cJ sh n kc ks Q M (pc + 3) ls st) : AW p l e R s m args below meth c nL A ad D cI cJ sh n kc ks Q M pc ls (.ref k :: st) := by
  intro H locs lsA hD hS hl
  refine W.objInit (rest := st.map (cv ad)) X.1 X.2.1 X.2.2.2.1 (X.2.2.2.2.1.1 _ hw rfl args) (X.2.2.2.2.1.1 _ h1 rfl args) (X.2.2.2.2.1.1 _ h2 rfl args) rfl (hl.1.trans X.2.2.1.symm) rfl hd hf ?_ (kk H locs lsA hD hS hl)
  rw [catS]
  show 2 * 0 + _ + 12 ≤ _
  omega
theorem r_putr (X : Cx p s m meth c cc nL own A ad D cI cJ) (hnm0 : meth.name = "<init>") {C : String} {T0 : u_T} {N ci : Nat} {fs : List Fk} {ix k q : Nat} {ty : FieldType} {ty0 : Nat → FieldType} (T T' : List Shp) (j : Nat) (hT' : T.set k (.inl (ci, fs.set j (.inl q))) = T') (hin : ∀ w ∈ u_ws C T0 N, w ∈ lw_tbl ∧ okw w = true) (hc : vwCl[ci]? = some (C, T0, N)) (hty : ∀ k, k < N → parseFieldDescriptor (T0 k).2.2.1 = some (ty0 k)) (hnm : ∀ a, a < N → ∀ b, b < N → a ≠ b → (T0 a).2.1 ≠ (T0 b).2.1) (hsh : T[k]? = some (.inl (ci, fs))) (hk : k < n) (hj : j < N) (hjl : j < fs.length) (hq : ¬ q = 999) (hw : Cond.fieldLink own ix (T0 j).1 (T0 j).2.1 (T0 j).2.2.1 ∈ lw_tbl) (hfin : (T0 j).2.2.2 = true) (hdecl : (T0 j).1 = own) (ht : ty0 j = ty) (hn : narrow ty (.ref (ad q)) = .ref (ad q)) (hfit : fits ty (.ref (ad q)) = true) (hd : decode cc pc = .ok (.putfield ix, 3)) (kk : AW p l e R s m args below meth c nL A ad D cI cJ (shT T') n kc ks Q M (pc + 3) ls st) : AW p l e R s m args below meth c nL A ad D cI cJ (shT T) n kc ks Q M pc ls (.ref q :: .ref k :: st) := by
  intro H locs lsA hD hS hl
  have hshk : shT T k = .inl (ci, fs) := by unfold shT; rw [List.getD_eq_getElem?_getD, hsh]; rfl
  have hkl : k < T.length := (List.getElem?_eq_some_iff.mp hsh).1
  have he := (cells_at (ad := ad) (cI := cI) (cJ := cJ) (sh := shT T) (M := M) hk).trans (by rw [cellE_o hshk])
  refine va_putF (Ts := u_ws C T0 N) X.1 X.2.1 (fun w hw => X.2.2.2.2.1.1 w (hin w hw).1 (hin w hw).2 args) (fun w hw => hw) ty0 hty hnm X.2.2.2.1 X.2.2.2.2.1.2.1 hD.1 hD.2.1 hS k he hc j hj (X.2.2.2.2.1.1 _ hw rfl args) (fun _ h => h) hfin hnm0 hdecl (ht ▸ hty j hj) hn hfit (by simpa using hjl) hd (fun H1 locs1 hP1 hD1 hS1 => ?_)
  have e : (cells ad cI cJ (shT T) n M).set k (ad k, .inr (ci, (fs.mapIdx (fun j f => cv ad (fvA M k j f))).set j (.ref (ad q)))) = cells ad cI cJ (shT T') n M := by
    subst hT'
    apply List.ext_getElem?
    intro i
    by_cases hi : i = k
    · subst hi
      rw [List.getElem?_set_self (by rw [cells_len]; exact hk), cells_at hk]
      have h1 : shT (T.set i (.inl (ci, fs.set j (.inl q)))) i = .inl (ci, fs.set j (.inl q)) := by
        unfold shT
        rw [List.getD_eq_getElem?_getD, List.getElem?_set_self hkl]
        rfl
      rw [cellE_o h1]
      congr 4
      apply List.ext_getElem?
      intro x
      by_cases hx : x = j
      · subst hx
        rw [List.getElem?_set_self (by simpa using hjl), List.getElem?_mapIdx, List.getElem?_set_self hjl]
        simp [fvA, hq, cv]
      · rw [List.getElem?_set_ne (Ne.symm hx), List.getElem?_mapIdx, List.getElem?_mapIdx, List.getElem?_set_ne (Ne.symm hx)]
    · rw [List.getElem?_set_ne (Ne.symm hi)]
      by_cases hin : i < n
      · rw [cells_at hin, cells_at hin]
        unfold cellE
        have h1 : shT (T.set k (.inl (ci, fs.set j (.inl q)))) i = shT T i := by
          unfold shT
          rw [List.getD_eq_getElem?_getD, List.getD_eq_getElem?_getD, List.getElem?_set_ne (Ne.symm hi)]
        rw [h1]
      · rw [List.getElem?_eq_none (by rw [cells_len]; omega), List.getElem?_eq_none (by rw [cells_len]; omega)]
  have hP1 : va_P D vwCl (cells ad cI cJ (shT T') n M) H1 := by rw [← e]; exact hP1
  have hD1 : va_D A (cells ad cI cJ (shT T') n M) := by rw [← e]; exact hD1
  exact kk H1 locs1 lsA ⟨hP1, hD1, hD.2.2⟩ hS1 hl
theorem r_gret (X : Cx p s m meth c cc nL own A ad D cI cJ) {ad0 : Nat → Nat} {n0 : Nat} (had : ∀ k, k < n0 ∨ 45 ≤ k → ad k = ad0 k) (hr : meth.sig.returnType = none) (hd : decode cc pc = .ok (.return_, 1)) : AW p l e R s m args below meth c nL A ad D cI cJ sh n kc ks (MQ below (Qg A ad0 D cI cJ n0 sh n M) args s kc ks A) M pc ls [] := fun H locs lsA hD hS hl => W.vret X.1 X.2.1 hr (fun t ht hW => ⟨rfl, ⟨ad, had, by rw [ht]; exact hD⟩, hS.F ht⟩) hS.2.2 hd X.2.2.2.2.2
theorem ai_runG {mc ms n' : Nat} {T : List Shp} {sh' : Nat → Shp} {av : Array Value} {M' : Mem} {H : Heap} {locs : List Loc} {lsA : Array Slot} {stk : List Value} (X : Cx p s m meth c cc nL own A ad D cI cJ) (hls : ls.all (fun q => rok n q.2) = true) (hst : st.all (rok n) = true) (hS : va_S A s.heap H locs) (hl : lv_has lsA nL (ls.map (fun q => (q.1, cv ad q.2)))) (hr : va_Run p l e R s m args below meth c H locs kc ks mc ms (F0 m pc lsA stk) (st.map (cv ad)) (Qg A ad D cI cJ n sh' n' M' av) A)
    (kk : ∀ ad' : Nat → Nat, (∀ k, k < n ∨ 45 ≤ k → ad' k = ad k) → Cx p s m meth c cc nL own A ad' D cI cJ → AW p l e R s m args below meth c nL A ad' D cI cJ sh' n' (kc + mc) (ks + ms) Q M' (pc + 3) ls st) : W p l e R s m args below meth c H locs kc ks Q (F0 m pc lsA stk) := by
  intro T hT XX
  obtain ⟨v, st₀, t, T', L, h0, X', hL, e1, e2, ⟨hv, ⟨ad', had, hdy⟩, hz, hkp⟩, stp⟩ := hr T hT XX
  rw [h0] at hz hkp
  obtain rfl : v = none := by cases hv; rfl
  obtain ⟨t2, a1, b1⟩ := kk ad' had ⟨X.1, X.2.1, X.2.2.1, X.2.2.2.1, X.2.2.2.2.1.ad (fun k hk => had k (Or.inr hk)), X.2.2.2.2.2⟩ T'.heap (locs ++ L) lsA (by rw [e1]; exact hdy) ⟨Nat.le_trans hS.1 (by rw [e1]; exact hz), fun q h1 h2 => by rw [e1, hkp q (Nat.lt_of_lt_of_le h1 hS.1) h2]; exact hS.2.1 q h1 h2, fun q hq => by
      rcases List.mem_append.mp hq with h | h
      · exact hS.2.2 q h
      · exact hL q h⟩ (by rw [rok_ls hls had]; exact hl) T' rfl X'
  refine ⟨t2, stp t2 ?_, b1⟩
  rw [rok_st hst had] at a1
  exact a1
def fitG (R : Room) (d nL mc ms kc ks : Nat) : Prop := d + 1 ≤ R.frames ∧ 8 + (nL + 11) + 40 * d ≤ R.locals ∧ kc + mc ≤ R.cells ∧ ks + ms ≤ R.slots
theorem ai_wordG {y : MethodName} {cy : ByteArray} {k : Nat} (X : Cx p s m meth c cc nL own A ad D cI cJ) (hAI : (Cond.arrayClass .int).before args s = true) (hAJ : (Cond.arrayClass .long).before args s = true) (hw : Cond.code y cy k none ∈ lw_tbl) : ∀ w ∈ wsG y cy k, ∀ (a' : Array Value) (U : State), s.WarmedH U.vm → w.before a' U = true := by
  intro w h a' U hW
  simp only [wsG, List.mem_cons, List.not_mem_nil, or_false] at h
  rcases h with rfl | rfl | rfl
  · exact X.2.2.2.2.1.1.warm hW _ hw rfl a'
  · exact word_at hW (Or.inr ⟨_, rfl⟩) hAI
  · exact word_at hW (Or.inr ⟨_, rfl⟩) hAJ
theorem ai_preG {T : List Shp} {H : Heap} {locs : List Loc} {av : List Value} (X : Cx p s m meth c cc nL own A ad D cI cJ) (hA : ∀ q, s.heap.size ≤ q → A q) (hD : Dy A ad D cI cJ (shT T) n M H) (hS : va_S A s.heap H locs) : PreS s H (Pg A ad D cI cJ T n av M) (av.map (cv ad)) :=
  ⟨Pg_blind, fun U hU hW => ⟨⟨rfl, by
    have h1 := (X.2.2.2.2.1.kept (H1 := H) (fun a h1 h2 => hS.2.1 a h1 h2)).moved hW
    rw [hU]; exact h1, by rw [hU]; exact hD⟩, fun q hq => hA q (Nat.le_trans hS.1 (by rw [← hU]; exact hq))⟩⟩
theorem r_callI (X : Cx p s m meth c cc nL own A ad D cI cJ) (hA : ∀ q, s.heap.size ≤ q → A q) (hAI : (Cond.arrayClass .int).before args s = true) (hAJ : (Cond.arrayClass .long).before args s = true) {y : MethodName} {cy : ByteArray} {nL' ix d k mc ms n' : Nat}  {T : List Shp} {sh' : Nat → Shp} {av : List Value} {M' : Mem} {stk : List Value} (hC : Cg l d y cy nL' mc ms T n (.ref k :: av) M sh' n' M') (hR : fitG R d nL' mc ms kc ks) (hc : Cond.code y cy nL' none ∈ lw_tbl) (hi : Cond.initialized y.cls ∈ lw_tbl) (hin : Cond.instanceMethod y ∈ lw_tbl) (hw : Cond.methodLink own ix y ∈ lw_tbl) (hy1 : y.name = "<init>") (hy : y.cls ≠ "java/lang/invoke/MethodHandle" ∧ y.cls ≠ "java/lang/invoke/VarHandle" ∧ (parseMethodDescriptor y.desc).map (fun d => d.parameters.length) = some av.length) (hst9 : stk = av.reverse ++ .ref k :: st) (hW : (st.map Value.category).sum ≤ 8) (hls : ls.all (fun q => rok n q.2) = true) (hst : st.all (rok n) = true) (hd : decode cc pc = .ok (.invokespecial ix, 3))
    (kk : ∀ ad' : Nat → Nat, (∀ k, k < n ∨ 45 ≤ k → ad' k = ad k) → Cx p s m meth c cc nL own A ad' D cI cJ → AW p l e R s m args below meth c nL A ad' D cI cJ sh' n' (kc + mc) (ks + ms) Q M' (pc + 3) ls st) : AW p l e R s m args below meth c nL A ad D cI cJ (shT T) n kc ks Q M pc ls stk := by
  intro H locs lsA hD hS hl
  subst hst9
  have hlen : ∀ sig, parseMethodDescriptor y.desc = some sig → av.length = sig.parameters.length := fun sig h => by
    have h2 := hy.2.2
    rw [h] at h2
    exact (Option.some.inj h2).symm
  exact ai_runG (T := T) X hls hst hS hl (va_runI (Ts := []) (As := av.map (cv ad)) (rest := st.map (cv ad)) (n := av.length) (b := ad k) (maxL := nL') ⟨X.1, X.2.1, X.2.2.1, X.2.2.2.1, fun w h => absurd h List.not_mem_nil⟩ (hC A ad D cI cJ) ⟨⟨rfl, rfl, hR.1, hR.2.1, ai_wordG X hAI hAJ hc, List.mem_cons_self, X.2.2.2.2.1.1 _ hc rfl args, X.2.2.2.2.1.1 _ hi rfl args, ⟨hy.1, hy.2.1⟩, hlen, X.2.2.2.2.1.1 _ hw rfl args⟩, hy1, X.2.2.2.2.1.1 _ hin rfl args⟩ (ai_preG (av := .ref k :: av) X hA hD hS) rfl (List.length_map ..) hl.1 (by simp [cv]) (ai_catR hW) hd ⟨hR.2.2.1, hR.2.2.2⟩) kk
theorem r_callIN (X : Cx p s m meth c cc nL own A ad D cI cJ) (hA : ∀ q, s.heap.size ≤ q → A q) (hAI : (Cond.arrayClass .int).before args s = true) (hAJ : (Cond.arrayClass .long).before args s = true) {y : MethodName} {cy : ByteArray} {nL' ix d k mc ms n' : Nat} {host : String} {T : List Shp} {sh' : Nat → Shp} {av : List Value} {M' : Mem} {stk : List Value} (hC : Cg l d y cy nL' mc ms T n (.ref k :: av) M sh' n' M') (hR : fitG R d nL' mc ms kc ks) (hc : Cond.code y cy nL' none ∈ lw_tbl) (hi : Cond.initialized y.cls ∈ lw_tbl) (hin : Cond.instanceMethod y ∈ lw_tbl) (hw : Cond.methodLinkNest own ix y host ∈ lw_tbl) (hy1 : y.name = "<init>") (hy : y.cls ≠ "java/lang/invoke/MethodHandle" ∧ y.cls ≠ "java/lang/invoke/VarHandle" ∧ (parseMethodDescriptor y.desc).map (fun d => d.parameters.length) = some av.length) (hst9 : stk = av.reverse ++ .ref k :: st) (hW : (st.map Value.category).sum ≤ 8) (hls : ls.all (fun q => rok n q.2) = true) (hst : st.all (rok n) = true) (hd : decode cc pc = .ok (.invokespecial ix, 3))
    (kk : ∀ ad' : Nat → Nat, (∀ k, k < n ∨ 45 ≤ k → ad' k = ad k) → Cx p s m meth c cc nL own A ad' D cI cJ → AW p l e R s m args below meth c nL A ad' D cI cJ sh' n' (kc + mc) (ks + ms) Q M' (pc + 3) ls st) : AW p l e R s m args below meth c nL A ad D cI cJ (shT T) n kc ks Q M pc ls stk := by
  intro H locs lsA hD hS hl
  subst hst9
  have hlen : ∀ sig, parseMethodDescriptor y.desc = some sig → av.length = sig.parameters.length := fun sig h => by
    have h2 := hy.2.2
    rw [h] at h2
    exact (Option.some.inj h2).symm
  exact ai_runG (T := T) X hls hst hS hl (va_runIN (Ts := []) (As := av.map (cv ad)) (rest := st.map (cv ad)) (n := av.length) (b := ad k) (maxL := nL') ⟨X.1, X.2.1, X.2.2.1, X.2.2.2.1, fun w h => absurd h List.not_mem_nil⟩ (hC A ad D cI cJ) ⟨⟨⟨rfl, rfl, hR.1, hR.2.1, ai_wordG X hAI hAJ hc, List.mem_cons_self⟩, X.2.2.2.2.1.1 _ hc rfl args, X.2.2.2.2.1.1 _ hi rfl args, ⟨hy.1, hy.2.1⟩, hlen, X.2.2.2.2.1.1 _ hw rfl args⟩, hy1, X.2.2.2.2.1.1 _ hin rfl args⟩ (ai_preG (av := .ref k :: av) X hA hD hS) rfl (List.length_map ..) hl.1 (by simp [cv]) (ai_catR hW) hd ⟨hR.2.2.1, hR.2.2.2⟩) kk
end GROW
theorem Cg.of {l : Launch} {d : Nat} {y : MethodName} {cc : ByteArray} {nL mc ms n n' : Nat} {T : List Shp} {av : List Value} {M : Mem} {sh' : Nat → Shp} {M' : Mem} (hy : plainName y.cls = true) (hnm : y.name = "<init>") (hn : (lg_sl av).length ≤ nL)
    (body : ∀ (p : Program) (e : Env) (s : State) (m : MethodId) (args : Array Value) (below : List Frame) (meth : Method) (c : Code) (A : Nat → Prop) (ad : Nat → Nat) (D : va_G) (cI cJ : ClassId), Cx p s m meth c cc nL y.cls A ad D cI cJ → meth.sig.returnType = none → meth.name = "<init>" → (∀ q, s.heap.size ≤ q → A q) → (Cond.arrayClass .int).before args s = true → (Cond.arrayClass .long).before args s = true →
      AW p l e (rmg d mc ms) s m args below meth c nL A ad D cI cJ (shT T) n 0 0 (MQ below (Qg A ad D cI cJ n sh' n' M') args s mc ms A) M 0 (lv_args 0 av) []) : Cg l d y cc nL mc ms T n av M sh' n' M' := by
  intro A ad D cI cJ
  refine Met.ofW (cc := cc) (maxL := nL) (ret := none) hy rfl ?_
  intro p e s m args below meth c s₁ B hml hP
  obtain ⟨⟨rfl, hE, hD⟩, hA⟩ := hP
  have hts := atoms_spec (ws := wsG y cc nL) B.pre
  have hl := lv_entry (av.map (cv ad)) (n := nL) (by rw [lg_sl_map]; exact hn)
  rw [lv_args_map] at hl
  rw [lg_entry_eq]
  exact body p e s m _ below meth c A ad D cI cJ ⟨B.exec, B.bytes, hml, findClass_of_methodNamed B.named, hE, B.notSynchronized⟩ B.returns ((name_of_methodNamed B.named B.method).1.trans hnm) hA (hts _ (List.mem_cons_of_mem _ List.mem_cons_self)) (hts _ (List.mem_cons_of_mem _ (List.mem_cons_of_mem _ List.mem_cons_self))) s.heap [] _ hD va_S.rf hl
theorem fitG_s {d nL mc ms kc ks mc' ms' : Nat} (h : nL ≤ 21) (h1 : kc + mc ≤ mc') (h2 : ks + ms ≤ ms') : fitG (rmg (d + 1) mc' ms') d nL mc ms kc ks := ⟨Nat.le_refl _, by show 8 + (nL + 11) + 40 * d ≤ 40 * (d + 1); omega, h1, h2⟩
theorem fitR_g {d n mc ms : Nat} (h : n ≤ 21) : fitR (rmg (d + 1) mc ms) d n := ⟨Nat.le_refl _, by show 8 + (n + 11) + 40 * d ≤ 40 * (d + 1); omega⟩
theorem room21g (d mc ms : Nat) : 21 ≤ (rmg (d + 1) mc ms).locals := by show 21 ≤ 40 * (d + 1); omega
