/-! Part 02: the fixed world of the class's and the reference's cells; abstract frames; a row an instruction -/
abbrev Mem : Type := (Nat → Nat → Int32) × (Nat → Nat → Int64)
def seI (M : Mem) (k i : Nat) (v : Int32) : Mem := (fun a b => if a = k ∧ b = i then v else M.1 a b, M.2)
def seL (M : Mem) (k i : Nat) (v : Int64) : Mem := (M.1, fun a b => if a = k ∧ b = i then v else M.2 a b)
def cv (ad : Nat → Nat) (v : Value) : Value := match v with
  | .ref k => .ref (ad k)
  | .int x => .int x
  | .long x => .long x
  | w => w
theorem cv_cat (ad : Nat → Nat) (v : Value) : (cv ad v).category = v.category := by cases v <;> rfl
/-- a field: a reference that stays (to a cell by its number), an int (false), a long (true) -/
abbrev Fk : Type := Nat ⊕ Bool
/-- a cell: an object (its class's place in vwCl, its fields), an array (long?, length) -/
abbrev Shp : Type := (Nat × List Fk) ⊕ (Bool × Nat)
def lay0 (k : Nat) : List Fk := [.inl (k + 1), .inl (k + 2), .inl (k + 3), .inr false, .inl (k + 4), .inl (k + 5), .inl (k + 6), .inr false]
def shL : List Shp := [.inl (5, [.inl 1, .inl 8, .inr false, .inl 15, .inl 17, .inl 21, .inl 27, .inl 31, .inr false, .inl 32, .inr false, .inl 33]),
  .inl (0, lay0 1), .inr (false, 7), .inr (false, 7), .inr (false, 24), .inr (false, 4), .inr (false, 6), .inr (false, 6),
  .inl (0, lay0 8), .inr (false, 7), .inr (false, 7), .inr (false, 24), .inr (false, 4), .inr (false, 6), .inr (false, 6),
  .inl (1, [.inl 16]), .inr (true, 80),
  .inl (4, [.inl 15, .inl 18, .inl 19, .inl 20, .inr false]), .inr (true, 25), .inr (false, 25), .inr (false, 24),
  .inl (2, [.inl 1, .inl 15, .inl 17, .inl 22, .inl 23, .inl 24, .inr false, .inl 25, .inl 26, .inr false]), .inr (true, 1000), .inr (false, 1000), .inr (false, 1024), .inr (false, 6), .inr (false, 7),
  .inl (3, [.inl 1, .inl 15, .inl 28, .inl 29, .inl 30, .inr false, .inr true, .inr true]), .inr (false, 7), .inr (false, 6), .inr (false, 6),
  .inr (false, 24), .inr (false, 6), .inr (false, 7),
  .inl (6, [.inl 35, .inl 36, .inl 37, .inr false, .inl 38, .inr false, .inl 39, .inl 40, .inr false, .inr false, .inr false, .inl 41, .inl 42, .inl 43, .inl 44, .inr false, .inr false, .inr false, .inr false, .inr false, .inr false, .inr false, .inr false, .inr false]),
  .inr (false, 7), .inr (false, 56), .inr (false, 56), .inr (false, 24), .inr (false, 125), .inr (false, 24), .inr (false, 7), .inr (false, 6), .inr (false, 6), .inr (false, 6)]
/-- cells by a list of shapes; the field reference 999 is null -/
def shT (T : List Shp) (k : Nat) : Shp := T.getD k (.inr (false, 0))
def shp (k : Nat) : Shp := shT shL k
def fvA (M : Mem) (k j : Nat) (f : Fk) : Value := match f with
  | .inl q => if q = 999 then .null else .ref q
  | .inr false => .int (M.1 k j)
  | .inr true => .long (M.2 k j)
def cellE (ad : Nat → Nat) (cI cJ : ClassId) (sh : Nat → Shp) (M : Mem) (k : Nat) : va_E := match sh k with
  | .inl (ci, fs) => .inr (ci, fs.mapIdx (fun j f => cv ad (fvA M k j f)))
  | .inr (false, n) => .inl (cI, n, .inl (M.1 k))
  | .inr (true, n) => .inl (cJ, n, .inr (.inl (M.2 k)))
def cells (ad : Nat → Nat) (cI cJ : ClassId) (sh : Nat → Shp) (nc : Nat) (M : Mem) : va_W := (List.range nc).map fun k => (ad k, cellE ad cI cJ sh M k)
theorem cells_at {ad : Nat → Nat} {cI cJ : ClassId} {sh : Nat → Shp} {nc : Nat} {M : Mem} {k : Nat} (h : k < nc) : (cells ad cI cJ sh nc M)[k]? = some (ad k, cellE ad cI cJ sh M k) := by simp [cells, h]
theorem cells_len {ad : Nat → Nat} {cI cJ : ClassId} {sh : Nat → Shp} {nc : Nat} {M : Mem} : (cells ad cI cJ sh nc M).length = nc := by simp [cells]
theorem cellE_o {ad : Nat → Nat} {cI cJ : ClassId} {sh : Nat → Shp} {M : Mem} {k ci : Nat} {fs : List Fk} (h : sh k = .inl (ci, fs)) : cellE ad cI cJ sh M k = .inr (ci, fs.mapIdx (fun j f => cv ad (fvA M k j f))) := by simp only [cellE, h]
theorem cellE_i {ad : Nat → Nat} {cI cJ : ClassId} {sh : Nat → Shp} {M : Mem} {k n : Nat} (h : sh k = .inr (false, n)) : cellE ad cI cJ sh M k = .inl (cI, n, .inl (M.1 k)) := by simp only [cellE, h]
theorem cellE_l {ad : Nat → Nat} {cI cJ : ClassId} {sh : Nat → Shp} {M : Mem} {k n : Nat} (h : sh k = .inr (true, n)) : cellE ad cI cJ sh M k = .inl (cJ, n, .inr (.inl (M.2 k))) := by simp only [cellE, h]
theorem cells_set {ad : Nat → Nat} {cI cJ : ClassId} {sh : Nat → Shp} {nc : Nat} {M M' : Mem} {k : Nat} {x : va_E} (hk : k < nc) (hx : x = cellE ad cI cJ sh M' k) (h : ∀ q, q ≠ k → cellE ad cI cJ sh M' q = cellE ad cI cJ sh M q) : (cells ad cI cJ sh nc M).set k (ad k, x) = cells ad cI cJ sh nc M' := by
  apply List.ext_getElem?
  intro i
  by_cases hi : i = k
  · subst hi
    rw [List.getElem?_set_self (by rw [cells_len]; exact hk), cells_at hk, hx]
  · rw [List.getElem?_set_ne (Ne.symm hi)]
    by_cases hnc : i < nc
    · rw [cells_at hnc, cells_at hnc, h i hi]
    · rw [List.getElem?_eq_none (by rw [cells_len]; omega), List.getElem?_eq_none (by rw [cells_len]; omega)]
theorem fvA_seI {M : Mem} {k i a j : Nat} {v : Int32} {f : Fk} (h : a ≠ k ∨ j ≠ i ∨ f ≠ .inr false) : fvA (seI M k i v) a j f = fvA M a j f := by
  rcases f with q | b
  · rfl
  · cases b
    · have : ¬ (a = k ∧ j = i) := by
        rintro ⟨h1, h2⟩
        rcases h with h | h | h
        · exact h h1
        · exact h h2
        · exact h rfl
      simp only [fvA, seI, if_neg this]
    · rfl
theorem fvA_seL {M : Mem} {k i a j : Nat} {v : Int64} {f : Fk} (h : a ≠ k ∨ j ≠ i ∨ f ≠ .inr true) : fvA (seL M k i v) a j f = fvA M a j f := by
  rcases f with q | b
  · rfl
  · cases b
    · rfl
    · have : ¬ (a = k ∧ j = i) := by
        rintro ⟨h1, h2⟩
        rcases h with h | h | h
        · exact h h1
        · exact h h2
        · exact h rfl
      simp only [fvA, seL, if_neg this]
theorem cellE_seI {ad : Nat → Nat} {cI cJ : ClassId} {sh : Nat → Shp} {M : Mem} {k i q : Nat} {v : Int32} (h : q ≠ k) : cellE ad cI cJ sh (seI M k i v) q = cellE ad cI cJ sh M q := by
  have e1 : (seI M k i v).1 q = M.1 q := by funext j; simp [seI, h]
  unfold cellE
  rcases sh q with ⟨ci, fs⟩ | ⟨b, n⟩
  · simp only [fvA_seI (Or.inl h)]
  · cases b
    · simp only [e1]
    · rfl
theorem cellE_seL {ad : Nat → Nat} {cI cJ : ClassId} {sh : Nat → Shp} {M : Mem} {k i q : Nat} {v : Int64} (h : q ≠ k) : cellE ad cI cJ sh (seL M k i v) q = cellE ad cI cJ sh M q := by
  have e1 : (seL M k i v).2 q = M.2 q := by funext j; simp [seL, h]
  unfold cellE
  rcases sh q with ⟨ci, fs⟩ | ⟨b, n⟩
  · simp only [fvA_seL (Or.inl h)]
  · cases b
    · rfl
    · simp only [e1]
theorem cells_seI_a {ad : Nat → Nat} {cI cJ : ClassId} {sh : Nat → Shp} {nc : Nat} {M : Mem} {k n i : Nat} {v : Int32} (hk : k < nc) (h : sh k = .inr (false, n)) : (cells ad cI cJ sh nc M).set k (ad k, .inl (cI, n, .inl (upd (M.1 k) i v))) = cells ad cI cJ sh nc (seI M k i v) := by
  refine cells_set hk ?_ (fun q hq => cellE_seI hq)
  rw [cellE_i h]
  have : upd (M.1 k) i v = (seI M k i v).1 k := by funext j; simp [upd, seI]
  rw [this]
theorem cells_seL_a {ad : Nat → Nat} {cI cJ : ClassId} {sh : Nat → Shp} {nc : Nat} {M : Mem} {k n i : Nat} {v : Int64} (hk : k < nc) (h : sh k = .inr (true, n)) : (cells ad cI cJ sh nc M).set k (ad k, .inl (cJ, n, .inr (.inl (vp_updL (M.2 k) i v)))) = cells ad cI cJ sh nc (seL M k i v) := by
  refine cells_set hk ?_ (fun q hq => cellE_seL hq)
  rw [cellE_l h]
  have : vp_updL (M.2 k) i v = (seL M k i v).2 k := by funext j; simp [vp_updL, seL]
  rw [this]
theorem cells_seI_o {ad : Nat → Nat} {cI cJ : ClassId} {sh : Nat → Shp} {nc : Nat} {M : Mem} {k ci i : Nat} {fs : List Fk} {v : Int32} (hk : k < nc) (h : sh k = .inl (ci, fs)) (hf : fs[i]? = some (.inr false)) : (cells ad cI cJ sh nc M).set k (ad k, .inr (ci, (fs.mapIdx (fun j f => cv ad (fvA M k j f))).set i (.int v))) = cells ad cI cJ sh nc (seI M k i v) := by
  refine cells_set hk ?_ (fun q hq => cellE_seI hq)
  rw [cellE_o h]
  have hl : i < fs.length := (List.getElem?_eq_some_iff.mp hf).1
  congr 2
  apply List.ext_getElem?
  intro j
  by_cases hj : j = i
  · subst hj
    rw [List.getElem?_set_self (by simpa using hl), List.getElem?_mapIdx, hf]
    simp [fvA, seI, cv]
  · rw [List.getElem?_set_ne (Ne.symm hj), List.getElem?_mapIdx, List.getElem?_mapIdx]
    cases fs[j]? with
    | none => rfl
    | some f => simp only [Option.map_some, fvA_seI (Or.inr (Or.inl hj))]
theorem cells_seL_o {ad : Nat → Nat} {cI cJ : ClassId} {sh : Nat → Shp} {nc : Nat} {M : Mem} {k ci i : Nat} {fs : List Fk} {v : Int64} (hk : k < nc) (h : sh k = .inl (ci, fs)) (hf : fs[i]? = some (.inr true)) : (cells ad cI cJ sh nc M).set k (ad k, .inr (ci, (fs.mapIdx (fun j f => cv ad (fvA M k j f))).set i (.long v))) = cells ad cI cJ sh nc (seL M k i v) := by
  refine cells_set hk ?_ (fun q hq => cellE_seL hq)
  rw [cellE_o h]
  have hl : i < fs.length := (List.getElem?_eq_some_iff.mp hf).1
  congr 2
  apply List.ext_getElem?
  intro j
  by_cases hj : j = i
  · subst hj
    rw [List.getElem?_set_self (by simpa using hl), List.getElem?_mapIdx, hf]
    simp [fvA, seL, cv]
  · rw [List.getElem?_set_ne (Ne.symm hj), List.getElem?_mapIdx, List.getElem?_mapIdx]
    cases fs[j]? with
    | none => rfl
    | some f => simp only [Option.map_some, fvA_seL (Or.inr (Or.inl hj))]
/-- the static arrays, cells 45 .. 50 -/
def stL : List (String × List Int32) := [("SIGNS", [97, 98, 99, 108, 109, 114, 115, 113, 116, 120]), ("KIND_OF", [0, 1, 2, 3, 4, 3, 4, 5, 5, 6]), ("TURN_OF", [0, 0, 0, 1, 1, -1, -1, 2, -2, 0]), ("MIRROR_OF", [0, 1, 2, 5, 6, 3, 4, 8, 7, 9]), ("FIRST_SIZES", [4, 2, 1, 4, 6, 4, 4]), ("FIRST_SIDES", [-400, 400, -400, 400])]
def snm (k : Nat) : String := (stL.getD k ("", [])).1
def sdl (k : Nat) : List Int32 := (stL.getD k ("", [])).2
def sln (k : Nat) : Nat := (sdl k).length
def sdt (k j : Nat) : Int32 := (sdl k).getD j 0
/-- the length of an int array -/
def iaL (sh : Nat → Shp) (k : Nat) : Option Nat := if k < 45 then (match sh k with | .inr (false, n) => some n | _ => none) else if k < 51 then some (sln (k - 45)) else none
def okw (w : Cond) : Bool := w.onTables && (goodWord w || (match w with | .methodLinkNest _ _ _ _ => true | .fieldLinkNest _ _ _ _ _ _ => true | _ => false))
/-- the tables' words, but for those of arrays' classes -/
def Tb (U : State) : Prop := ∀ w ∈ lw_tbl, okw w = true → ∀ a : Array Value, w.before a U = true
theorem okw_on {w : Cond} (h : okw w = true) : w.onTables = true := by
  simp only [okw, Bool.and_eq_true] at h
  exact h.1
theorem Tb.of {a : Array Value} {U : State} (h : ∀ w ∈ lw_tbl, w.before a U = true) : Tb U := fun w hw h1 _ => va_Nw.use (okw_on h1) (va_Nw.of (okw_on h1) (h w hw))
theorem Tb.warm {s U : State} (hW : s.WarmedH U.vm) (h : Tb s) : Tb U := by
  intro w hw h0 a
  have h1 := h0
  simp only [okw, Bool.and_eq_true, Bool.or_eq_true] at h1
  rcases h1.2 with h1 | h1
  · exact word_at hW (good_of_word h1) (h w hw h0 #[])
  · cases w <;> first | exact va_Nw.use rfl (va_Nw.warmM hW (h _ hw h0 #[])) | exact va_Nw.use rfl (va_Nw.warmF hW (h _ hw h0 #[])) | (simp at h1; done)
section AIRW
variable (A : Nat → Prop) (ad : Nat → Nat) (D : va_G) (cI cJ : ClassId)
def Evn (U : State) (H : Heap) : Prop := Tb U ∧ va_K D vwCl [(cI, .int), (cJ, .long)] U ∧ ∀ k, k < 6 → va_Z "TrackBox" (snm k) "[I" (.ref (ad (45 + k))) A U H ∧ va_T .int (ad (45 + k)) (sln k) (fun j => .int (sdt k j)) A U H
def Dy (sh : Nat → Shp) (nc : Nat) (M : Mem) (H : Heap) : Prop := va_P D vwCl (cells ad cI cJ sh nc M) H ∧ va_D A (cells ad cI cJ sh nc M) ∧ nc ≤ 45 ∧ ∀ k j, k < 6 → j < sln k → M.1 (45 + k) j = sdt k j
def Pq (sh : Nat → Shp) (nc : Nat) (av : List Value) (M : Mem) : Array Value → State → Prop := fun v U => v = (av.map (cv ad)).toArray ∧ Evn A ad D cI cJ U U.heap ∧ Dy A ad D cI cJ sh nc M U.heap
def Qq (sh : Nat → Shp) (nc : Nat) (r : Option Value) (M' : Mem) : Array Value → State → Outcome → State → Prop := fun _ st o t => o = .returned (r.map (cv ad)) ∧ Dy A ad D cI cJ sh nc M' t.heap ∧ va_F A st t
end AIRW
def rmd (d : Nat) : Room := { frames := d, cells := 0, slots := 0, locals := 40 * d }
/-- a method's contract: from arguments and memory to its answer and the memory behind it -/
def Ct (l : Launch) (d : Nat) (y : MethodName) (cc : ByteArray) (nL : Nat) (ret : Option FieldType) (sh : Nat → Shp) (nc : Nat) (av : List Value) (M : Mem) (r : Option Value) (M' : Mem) : Prop :=
  ∀ (A : Nat → Prop) (ad : Nat → Nat) (D : va_G) (cI cJ : ClassId), Met l y [.code y cc nL ret] (rmd d) (Pq A ad D cI cJ sh nc av M) (Qq A ad D cI cJ sh nc r M') 0 0 A
theorem Evn.moved {A : Nat → Prop} {ad : Nat → Nat} {D : va_G} {cI cJ : ClassId} {s U : State} {H : Heap} (h : Evn A ad D cI cJ s H) (hW : s.WarmedH U.vm) : Evn A ad D cI cJ U H :=
  ⟨h.1.warm hW, h.2.1.moved hW.alike, fun k hk => ⟨(h.2.2 k hk).1.moved hW.alike, (h.2.2 k hk).2.moved hW.alike⟩⟩
theorem Evn.kept {A : Nat → Prop} {ad : Nat → Nat} {D : va_G} {cI cJ : ClassId} {s : State} {H H1 : Heap} (h : Evn A ad D cI cJ s H) (hq : ∀ a : Nat, a < H.size → ¬ A a → H1[a]? = H[a]?) : Evn A ad D cI cJ s H1 :=
  ⟨h.1, h.2.1, fun k hk => ⟨(h.2.2 k hk).1.kept hq, (h.2.2 k hk).2.kept hq⟩⟩
theorem Evn.same {A : Nat → Prop} {ad : Nat → Nat} {D : va_G} {cI cJ : ClassId} {s U : State} {H : Heap} (h : Evn A ad D cI cJ s H) (hv : s.vm = U.vm) : Evn A ad D cI cJ U H := by
  exact ⟨fun w hw h1 a => va_tabs (okw_on h1) hv (h.1 w hw h1 a), va_K.moved (by rw [← hv]; exact Vm.Alike.refl _) h.2.1, fun k hk => ⟨va_Z.moved (by rw [← hv]; exact Vm.Alike.refl _) (h.2.2 k hk).1, va_T.moved (by rw [← hv]; exact Vm.Alike.refl _) (h.2.2 k hk).2⟩⟩
theorem Pq_blind {A : Nat → Prop} {ad : Nat → Nat} {D : va_G} {cI cJ : ClassId} {sh : Nat → Shp} {nc : Nat} {av : List Value} {M : Mem} : FrameBlind (Pq A ad D cI cJ sh nc av M) := by
  intro a U g mk h
  exact ⟨h.1, h.2.1.same rfl, h.2.2⟩
theorem lv_args_map (ad : Nat → Nat) : ∀ (vs : List Value) (i : Nat), lv_args i (vs.map (cv ad)) = (lv_args i vs).map (fun q => (q.1, cv ad q.2))
  | [], _ => rfl
  | v :: vs, i => by
    simp only [List.map_cons, lv_args, cv_cat, lv_args_map ad vs]
theorem lg_sl_map (ad : Nat → Nat) : ∀ (vs : List Value), (lg_sl (vs.map (cv ad))).length = (lg_sl vs).length
  | [] => rfl
  | v :: vs => by
    have ih := lg_sl_map ad vs
    unfold lg_sl at ih ⊢
    simp only [List.map_cons, List.flatMap_cons, List.length_append, cv_cat, ih]
    split <;> rfl
section AW
variable (p : Program) (l : Launch) (e : Env) (R : Room) (s : State) (m : MethodId) (args : Array Value) (below : List Frame) (meth : Method) (c : Code) (cc : ByteArray) (nL : Nat) (own : String) (A : Nat → Prop) (ad : Nat → Nat) (D : va_G) (cI cJ : ClassId) (sh : Nat → Shp) (nc : Nat) (kc ks : Nat) (Q : State → Prop)
/-- what holds all through a method's walk -/
def Cx : Prop := p.tables.exec = Jvm.exec ∧ c.code = cc ∧ c.maxLocals = nL ∧ s.vm.findClass own = some m.cls ∧ Evn A ad D cI cJ s s.heap ∧ meth.locks = false
/-- the machine at an abstract frame comes to Q -/
def AW (M : Mem) (pc : Nat) (ls : List (Nat × Value)) (st : List Value) : Prop := ∀ (H : Heap) (locs : List Loc) (lsA : Array Slot), Dy A ad D cI cJ sh nc M H → va_S A s.heap H locs → lv_has lsA nL (ls.map (fun q => (q.1, cv ad q.2))) →
  W p l e R s m args below meth c H locs kc ks Q (F0 m pc lsA (st.map (cv ad)))
end AW
