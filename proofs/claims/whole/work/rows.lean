section
-- ===== PART A: goes FIRST, ahead of the names: the tables' words, and 'selects' of the private methods out of them =====
/-- a private method of a class that the tables say can be made, by its rows of tables_1 -/
def lw_okq (q : MethodName × Nat) : Prop := (q.1.cls ≠ "java/lang/invoke/MethodHandle" ∧ q.1.cls ≠ "java/lang/invoke/VarHandle") ∧ Cond.instantiable q.1.cls q.2 ∈ tables_1 ∧ Cond.privateMethod q.1 ∈ tables_1 ∧ Cond.instanceMethod q.1 ∈ tables_1
theorem lw_p0 : lw_okq (⟨"TrackBox$Moves", "measureLetter", "(III)V"⟩, 1) := ⟨⟨by decide +kernel, by decide +kernel⟩, List.mem_of_getElem? (i := 72) (by decide +kernel), List.mem_of_getElem? (i := 190) (by decide +kernel), List.mem_of_getElem? (i := 191) (by decide +kernel)⟩
theorem lw_p1 : lw_okq (⟨"TrackBox", "refuse", "(I)I"⟩, 12) := ⟨⟨by decide +kernel, by decide +kernel⟩, List.mem_of_getElem? (i := 13) (by decide +kernel), List.mem_of_getElem? (i := 244) (by decide +kernel), List.mem_of_getElem? (i := 245) (by decide +kernel)⟩
theorem lw_p2 : lw_okq (⟨"TrackBox", "measureAnew", "()V"⟩, 12) := ⟨⟨by decide +kernel, by decide +kernel⟩, List.mem_of_getElem? (i := 13) (by decide +kernel), List.mem_of_getElem? (i := 274) (by decide +kernel), List.mem_of_getElem? (i := 275) (by decide +kernel)⟩
theorem lw_p3 : lw_okq (⟨"TrackBox", "refuseFar", "(I)I"⟩, 12) := ⟨⟨by decide +kernel, by decide +kernel⟩, List.mem_of_getElem? (i := 13) (by decide +kernel), List.mem_of_getElem? (i := 290) (by decide +kernel), List.mem_of_getElem? (i := 291) (by decide +kernel)⟩
theorem lw_p4 : lw_okq (⟨"TrackBox$Layout", "isOnTable", "(J)Z"⟩, 8) := ⟨⟨by decide +kernel, by decide +kernel⟩, List.mem_of_getElem? (i := 21) (by decide +kernel), List.mem_of_getElem? (i := 390) (by decide +kernel), List.mem_of_getElem? (i := 391) (by decide +kernel)⟩
theorem lw_p5 : lw_okq (⟨"TrackBox$Layout", "isAtLeg", "(J)Z"⟩, 8) := ⟨⟨by decide +kernel, by decide +kernel⟩, List.mem_of_getElem? (i := 21) (by decide +kernel), List.mem_of_getElem? (i := 396) (by decide +kernel), List.mem_of_getElem? (i := 397) (by decide +kernel)⟩
theorem lw_p6 : lw_okq (⟨"TrackBox$Walk", "areCrossings", "(II)Z"⟩, 5) := ⟨⟨by decide +kernel, by decide +kernel⟩, List.mem_of_getElem? (i := 83) (by decide +kernel), List.mem_of_getElem? (i := 410) (by decide +kernel), List.mem_of_getElem? (i := 411) (by decide +kernel)⟩
theorem lw_p7 : lw_okq (⟨"TrackBox$RingSearch", "gather", "()V"⟩, 10) := ⟨⟨by decide +kernel, by decide +kernel⟩, List.mem_of_getElem? (i := 109) (by decide +kernel), List.mem_of_getElem? (i := 426) (by decide +kernel), List.mem_of_getElem? (i := 427) (by decide +kernel)⟩
theorem lw_p8 : lw_okq (⟨"TrackBox$RingSearch", "endOf", "(II)J"⟩, 10) := ⟨⟨by decide +kernel, by decide +kernel⟩, List.mem_of_getElem? (i := 109) (by decide +kernel), List.mem_of_getElem? (i := 437) (by decide +kernel), List.mem_of_getElem? (i := 438) (by decide +kernel)⟩
theorem lw_p9 : lw_okq (⟨"TrackBox$RingSearch", "layAt", "(III)V"⟩, 10) := ⟨⟨by decide +kernel, by decide +kernel⟩, List.mem_of_getElem? (i := 109) (by decide +kernel), List.mem_of_getElem? (i := 449) (by decide +kernel), List.mem_of_getElem? (i := 450) (by decide +kernel)⟩
theorem lw_p10 : lw_okq (⟨"TrackBox$RingSearch", "isFirstSoFar", "(I)Z"⟩, 10) := ⟨⟨by decide +kernel, by decide +kernel⟩, List.mem_of_getElem? (i := 109) (by decide +kernel), List.mem_of_getElem? (i := 453) (by decide +kernel), List.mem_of_getElem? (i := 454) (by decide +kernel)⟩
theorem lw_p11 : lw_okq (⟨"TrackBox$RingSearch", "lacks", "(IZ)I"⟩, 10) := ⟨⟨by decide +kernel, by decide +kernel⟩, List.mem_of_getElem? (i := 109) (by decide +kernel), List.mem_of_getElem? (i := 457) (by decide +kernel), List.mem_of_getElem? (i := 458) (by decide +kernel)⟩
theorem lw_p12 : lw_okq (⟨"TrackBox$RingSearch", "throughTails", "(IZZI)V"⟩, 10) := ⟨⟨by decide +kernel, by decide +kernel⟩, List.mem_of_getElem? (i := 109) (by decide +kernel), List.mem_of_getElem? (i := 462) (by decide +kernel), List.mem_of_getElem? (i := 463) (by decide +kernel)⟩
theorem lw_p13 : lw_okq (⟨"TrackBox$RingSearch", "countRing", "(IZI)V"⟩, 10) := ⟨⟨by decide +kernel, by decide +kernel⟩, List.mem_of_getElem? (i := 109) (by decide +kernel), List.mem_of_getElem? (i := 467) (by decide +kernel), List.mem_of_getElem? (i := 468) (by decide +kernel)⟩
theorem lw_p14 : lw_okq (⟨"TrackBox$RingSearch", "standsForAll", "(I)Z"⟩, 10) := ⟨⟨by decide +kernel, by decide +kernel⟩, List.mem_of_getElem? (i := 109) (by decide +kernel), List.mem_of_getElem? (i := 471) (by decide +kernel), List.mem_of_getElem? (i := 472) (by decide +kernel)⟩
theorem lw_p15 : lw_okq (⟨"TrackBox$RingSearch", "isBefore", "(IIIZ)Z"⟩, 10) := ⟨⟨by decide +kernel, by decide +kernel⟩, List.mem_of_getElem? (i := 109) (by decide +kernel), List.mem_of_getElem? (i := 475) (by decide +kernel), List.mem_of_getElem? (i := 476) (by decide +kernel)⟩
def lw_privs_1 : List (MethodName × Nat) := [(⟨"TrackBox$Moves", "measureLetter", "(III)V"⟩, 1), (⟨"TrackBox", "refuse", "(I)I"⟩, 12), (⟨"TrackBox", "measureAnew", "()V"⟩, 12), (⟨"TrackBox", "refuseFar", "(I)I"⟩, 12), (⟨"TrackBox$Layout", "isOnTable", "(J)Z"⟩, 8), (⟨"TrackBox$Layout", "isAtLeg", "(J)Z"⟩, 8), (⟨"TrackBox$Walk", "areCrossings", "(II)Z"⟩, 5), (⟨"TrackBox$RingSearch", "gather", "()V"⟩, 10), (⟨"TrackBox$RingSearch", "endOf", "(II)J"⟩, 10), (⟨"TrackBox$RingSearch", "layAt", "(III)V"⟩, 10), (⟨"TrackBox$RingSearch", "isFirstSoFar", "(I)Z"⟩, 10), (⟨"TrackBox$RingSearch", "lacks", "(IZ)I"⟩, 10), (⟨"TrackBox$RingSearch", "throughTails", "(IZZI)V"⟩, 10), (⟨"TrackBox$RingSearch", "countRing", "(IZI)V"⟩, 10), (⟨"TrackBox$RingSearch", "standsForAll", "(I)Z"⟩, 10), (⟨"TrackBox$RingSearch", "isBefore", "(IIIZ)Z"⟩, 10)]
theorem lw_r1 : ∀ q ∈ lw_privs_1, lw_okq q := List.forall_mem_cons.mpr ⟨lw_p0, List.forall_mem_cons.mpr ⟨lw_p1, List.forall_mem_cons.mpr ⟨lw_p2, List.forall_mem_cons.mpr ⟨lw_p3, List.forall_mem_cons.mpr ⟨lw_p4, List.forall_mem_cons.mpr ⟨lw_p5, List.forall_mem_cons.mpr ⟨lw_p6, List.forall_mem_cons.mpr ⟨lw_p7, List.forall_mem_cons.mpr ⟨lw_p8, List.forall_mem_cons.mpr ⟨lw_p9, List.forall_mem_cons.mpr ⟨lw_p10, List.forall_mem_cons.mpr ⟨lw_p11, List.forall_mem_cons.mpr ⟨lw_p12, List.forall_mem_cons.mpr ⟨lw_p13, List.forall_mem_cons.mpr ⟨lw_p14, List.forall_mem_cons.mpr ⟨lw_p15, fun _ h => absurd h List.not_mem_nil⟩⟩⟩⟩⟩⟩⟩⟩⟩⟩⟩⟩⟩⟩⟩⟩
theorem lw_p16 : lw_okq (⟨"TrackBox$Trial", "keepIfNearer", "(J)V"⟩, 8) := ⟨⟨by decide +kernel, by decide +kernel⟩, List.mem_of_getElem? (i := 149) (by decide +kernel), List.mem_of_getElem? (i := 519) (by decide +kernel), List.mem_of_getElem? (i := 520) (by decide +kernel)⟩
theorem lw_p17 : lw_okq (⟨"TrackBoxModel", "sizes", "(IIII)V"⟩, 24) := ⟨⟨by decide +kernel, by decide +kernel⟩, List.mem_of_getElem? (i := 562) (by decide +kernel), List.mem_of_getElem? (i := 568) (by decide +kernel), List.mem_of_getElem? (i := 569) (by decide +kernel)⟩
theorem lw_p18 : lw_okq (⟨"TrackBoxModel", "refuse", "(I)I"⟩, 24) := ⟨⟨by decide +kernel, by decide +kernel⟩, List.mem_of_getElem? (i := 562) (by decide +kernel), List.mem_of_getElem? (i := 649) (by decide +kernel), List.mem_of_getElem? (i := 650) (by decide +kernel)⟩
theorem lw_p19 : lw_okq (⟨"TrackBoxModel", "takes", "()V"⟩, 24) := ⟨⟨by decide +kernel, by decide +kernel⟩, List.mem_of_getElem? (i := 562) (by decide +kernel), List.mem_of_getElem? (i := 684) (by decide +kernel), List.mem_of_getElem? (i := 685) (by decide +kernel)⟩
theorem lw_p20 : lw_okq (⟨"TrackBoxModel", "lays", "(I)V"⟩, 24) := ⟨⟨by decide +kernel, by decide +kernel⟩, List.mem_of_getElem? (i := 562) (by decide +kernel), List.mem_of_getElem? (i := 688) (by decide +kernel), List.mem_of_getElem? (i := 689) (by decide +kernel)⟩
theorem lw_p21 : lw_okq (⟨"TrackBoxModel", "adds", "(IIII)V"⟩, 24) := ⟨⟨by decide +kernel, by decide +kernel⟩, List.mem_of_getElem? (i := 562) (by decide +kernel), List.mem_of_getElem? (i := 698) (by decide +kernel), List.mem_of_getElem? (i := 699) (by decide +kernel)⟩
theorem lw_p22 : lw_okq (⟨"TrackBoxModel", "along", "(III)V"⟩, 24) := ⟨⟨by decide +kernel, by decide +kernel⟩, List.mem_of_getElem? (i := 562) (by decide +kernel), List.mem_of_getElem? (i := 702) (by decide +kernel), List.mem_of_getElem? (i := 703) (by decide +kernel)⟩
theorem lw_p23 : lw_okq (⟨"TrackBoxModel", "isClosed", "()Z"⟩, 24) := ⟨⟨by decide +kernel, by decide +kernel⟩, List.mem_of_getElem? (i := 562) (by decide +kernel), List.mem_of_getElem? (i := 710) (by decide +kernel), List.mem_of_getElem? (i := 711) (by decide +kernel)⟩
theorem lw_p24 : lw_okq (⟨"TrackBoxModel", "isSame", "(II)Z"⟩, 24) := ⟨⟨by decide +kernel, by decide +kernel⟩, List.mem_of_getElem? (i := 562) (by decide +kernel), List.mem_of_getElem? (i := 714) (by decide +kernel), List.mem_of_getElem? (i := 715) (by decide +kernel)⟩
theorem lw_p25 : lw_okq (⟨"TrackBoxModel", "gapOf", "(I)I"⟩, 24) := ⟨⟨by decide +kernel, by decide +kernel⟩, List.mem_of_getElem? (i := 562) (by decide +kernel), List.mem_of_getElem? (i := 739) (by decide +kernel), List.mem_of_getElem? (i := 740) (by decide +kernel)⟩
theorem lw_p26 : lw_okq (⟨"TrackBoxModel", "offOf", "()I"⟩, 24) := ⟨⟨by decide +kernel, by decide +kernel⟩, List.mem_of_getElem? (i := 562) (by decide +kernel), List.mem_of_getElem? (i := 759) (by decide +kernel), List.mem_of_getElem? (i := 760) (by decide +kernel)⟩
theorem lw_p27 : lw_okq (⟨"TrackBoxModel", "isOn", "(I)Z"⟩, 24) := ⟨⟨by decide +kernel, by decide +kernel⟩, List.mem_of_getElem? (i := 562) (by decide +kernel), List.mem_of_getElem? (i := 763) (by decide +kernel), List.mem_of_getElem? (i := 764) (by decide +kernel)⟩
theorem lw_p28 : lw_okq (⟨"TrackBoxModel", "touchOf", "()I"⟩, 24) := ⟨⟨by decide +kernel, by decide +kernel⟩, List.mem_of_getElem? (i := 562) (by decide +kernel), List.mem_of_getElem? (i := 771) (by decide +kernel), List.mem_of_getElem? (i := 772) (by decide +kernel)⟩
theorem lw_p29 : lw_okq (⟨"TrackBoxModel", "isCrossed", "(I)Z"⟩, 24) := ⟨⟨by decide +kernel, by decide +kernel⟩, List.mem_of_getElem? (i := 562) (by decide +kernel), List.mem_of_getElem? (i := 775) (by decide +kernel), List.mem_of_getElem? (i := 776) (by decide +kernel)⟩
theorem lw_p30 : lw_okq (⟨"TrackBoxModel", "isLying", "()Z"⟩, 24) := ⟨⟨by decide +kernel, by decide +kernel⟩, List.mem_of_getElem? (i := 562) (by decide +kernel), List.mem_of_getElem? (i := 783) (by decide +kernel), List.mem_of_getElem? (i := 784) (by decide +kernel)⟩
theorem lw_p31 : lw_okq (⟨"TrackBoxModel", "ringsOf", "(IZI)I"⟩, 24) := ⟨⟨by decide +kernel, by decide +kernel⟩, List.mem_of_getElem? (i := 562) (by decide +kernel), List.mem_of_getElem? (i := 791) (by decide +kernel), List.mem_of_getElem? (i := 792) (by decide +kernel)⟩
def lw_privs_2 : List (MethodName × Nat) := [(⟨"TrackBox$Trial", "keepIfNearer", "(J)V"⟩, 8), (⟨"TrackBoxModel", "sizes", "(IIII)V"⟩, 24), (⟨"TrackBoxModel", "refuse", "(I)I"⟩, 24), (⟨"TrackBoxModel", "takes", "()V"⟩, 24), (⟨"TrackBoxModel", "lays", "(I)V"⟩, 24), (⟨"TrackBoxModel", "adds", "(IIII)V"⟩, 24), (⟨"TrackBoxModel", "along", "(III)V"⟩, 24), (⟨"TrackBoxModel", "isClosed", "()Z"⟩, 24), (⟨"TrackBoxModel", "isSame", "(II)Z"⟩, 24), (⟨"TrackBoxModel", "gapOf", "(I)I"⟩, 24), (⟨"TrackBoxModel", "offOf", "()I"⟩, 24), (⟨"TrackBoxModel", "isOn", "(I)Z"⟩, 24), (⟨"TrackBoxModel", "touchOf", "()I"⟩, 24), (⟨"TrackBoxModel", "isCrossed", "(I)Z"⟩, 24), (⟨"TrackBoxModel", "isLying", "()Z"⟩, 24), (⟨"TrackBoxModel", "ringsOf", "(IZI)I"⟩, 24)]
theorem lw_r2 : ∀ q ∈ lw_privs_2, lw_okq q := List.forall_mem_cons.mpr ⟨lw_p16, List.forall_mem_cons.mpr ⟨lw_p17, List.forall_mem_cons.mpr ⟨lw_p18, List.forall_mem_cons.mpr ⟨lw_p19, List.forall_mem_cons.mpr ⟨lw_p20, List.forall_mem_cons.mpr ⟨lw_p21, List.forall_mem_cons.mpr ⟨lw_p22, List.forall_mem_cons.mpr ⟨lw_p23, List.forall_mem_cons.mpr ⟨lw_p24, List.forall_mem_cons.mpr ⟨lw_p25, List.forall_mem_cons.mpr ⟨lw_p26, List.forall_mem_cons.mpr ⟨lw_p27, List.forall_mem_cons.mpr ⟨lw_p28, List.forall_mem_cons.mpr ⟨lw_p29, List.forall_mem_cons.mpr ⟨lw_p30, List.forall_mem_cons.mpr ⟨lw_p31, fun _ h => absurd h List.not_mem_nil⟩⟩⟩⟩⟩⟩⟩⟩⟩⟩⟩⟩⟩⟩⟩⟩
theorem lw_p32 : lw_okq (⟨"TrackBoxModel", "begins", "(I)V"⟩, 24) := ⟨⟨by decide +kernel, by decide +kernel⟩, List.mem_of_getElem? (i := 562) (by decide +kernel), List.mem_of_getElem? (i := 795) (by decide +kernel), List.mem_of_getElem? (i := 796) (by decide +kernel)⟩
theorem lw_p33 : lw_okq (⟨"TrackBoxModel", "goesOn", "(II)V"⟩, 24) := ⟨⟨by decide +kernel, by decide +kernel⟩, List.mem_of_getElem? (i := 562) (by decide +kernel), List.mem_of_getElem? (i := 799) (by decide +kernel), List.mem_of_getElem? (i := 800) (by decide +kernel)⟩
theorem lw_p34 : lw_okq (⟨"TrackBoxModel", "rings", "()V"⟩, 24) := ⟨⟨by decide +kernel, by decide +kernel⟩, List.mem_of_getElem? (i := 562) (by decide +kernel), List.mem_of_getElem? (i := 803) (by decide +kernel), List.mem_of_getElem? (i := 804) (by decide +kernel)⟩
theorem lw_p35 : lw_okq (⟨"TrackBoxModel", "isFirst", "(I)Z"⟩, 24) := ⟨⟨by decide +kernel, by decide +kernel⟩, List.mem_of_getElem? (i := 562) (by decide +kernel), List.mem_of_getElem? (i := 807) (by decide +kernel), List.mem_of_getElem? (i := 808) (by decide +kernel)⟩
theorem lw_p36 : lw_okq (⟨"TrackBoxModel", "nears", "()V"⟩, 24) := ⟨⟨by decide +kernel, by decide +kernel⟩, List.mem_of_getElem? (i := 562) (by decide +kernel), List.mem_of_getElem? (i := 814) (by decide +kernel), List.mem_of_getElem? (i := 815) (by decide +kernel)⟩
theorem lw_p37 : lw_okq (⟨"TrackBoxModel", "becomes", "([II)V"⟩, 24) := ⟨⟨by decide +kernel, by decide +kernel⟩, List.mem_of_getElem? (i := 562) (by decide +kernel), List.mem_of_getElem? (i := 822) (by decide +kernel), List.mem_of_getElem? (i := 823) (by decide +kernel)⟩
def lw_privs_3 : List (MethodName × Nat) := [(⟨"TrackBoxModel", "begins", "(I)V"⟩, 24), (⟨"TrackBoxModel", "goesOn", "(II)V"⟩, 24), (⟨"TrackBoxModel", "rings", "()V"⟩, 24), (⟨"TrackBoxModel", "isFirst", "(I)Z"⟩, 24), (⟨"TrackBoxModel", "nears", "()V"⟩, 24), (⟨"TrackBoxModel", "becomes", "([II)V"⟩, 24)]
theorem lw_r3 : ∀ q ∈ lw_privs_3, lw_okq q := List.forall_mem_cons.mpr ⟨lw_p32, List.forall_mem_cons.mpr ⟨lw_p33, List.forall_mem_cons.mpr ⟨lw_p34, List.forall_mem_cons.mpr ⟨lw_p35, List.forall_mem_cons.mpr ⟨lw_p36, List.forall_mem_cons.mpr ⟨lw_p37, fun _ h => absurd h List.not_mem_nil⟩⟩⟩⟩⟩⟩
def lw_privs : List (MethodName × Nat) := lw_privs_1 ++ (lw_privs_2 ++ (lw_privs_3))
def lw_tbl : List Cond := k2_sels lw_privs ++ tables_1
theorem lw_privs_ok : ∀ q ∈ lw_privs, lw_okq q := by
  show ∀ q ∈ lw_privs_1 ++ (lw_privs_2 ++ (lw_privs_3)), lw_okq q
  exact List.forall_mem_append.mpr ⟨lw_r1, List.forall_mem_append.mpr ⟨lw_r2, lw_r3⟩⟩
def RX0 : String := "TrackBox$Layout"
def TX0 : u_T := fun k => match k with
  | 0 => ("TrackBox$Layout", "many", "[I", true)
  | 1 => ("TrackBox$Layout", "sizes", "[I", true)
  | 2 => ("TrackBox$Layout", "letters", "[I", true)
  | 3 => ("TrackBox$Layout", "pieces", "I", false)
  | 4 => ("TrackBox$Layout", "sides", "[I", true)
  | 5 => ("TrackBox$Layout", "legX", "[I", true)
  | 6 => ("TrackBox$Layout", "legY", "[I", true)
  | _ => ("TrackBox$Layout", "legs", "I", false)
def tyX0 : Nat → FieldType := fun k => match k with
  | 0 => .array .int
  | 1 => .array .int
  | 2 => .array .int
  | 3 => .int
  | 4 => .array .int
  | 5 => .array .int
  | 6 => .array .int
  | _ => .int
theorem nmX0 : ∀ a, a < 8 → ∀ b, b < 8 → a ≠ b → (TX0 a).2.1 ≠ (TX0 b).2.1 := by decide +kernel
theorem tyX0_ok : ∀ k, k < 8 → parseFieldDescriptor (TX0 k).2.2.1 = some (tyX0 k) := by decide +kernel
abbrev cX0_init : ByteArray := prog_2_method_1_code
def yX0_init : MethodName := ⟨RX0, "<init>", "()V"⟩
abbrev cX0_copy : ByteArray := prog_2_method_2_code
def yX0_copy : MethodName := ⟨RX0, "copy", "(LTrackBox$Layout;)V"⟩
abbrev cX0_becomes : ByteArray := prog_2_method_3_code
def yX0_becomes : MethodName := ⟨RX0, "becomes", "([II)V"⟩
abbrev cX0_inBox : ByteArray := prog_2_method_4_code
def yX0_inBox : MethodName := ⟨RX0, "inBox", "()I"⟩
abbrev cX0_taken : ByteArray := prog_2_method_5_code
def yX0_taken : MethodName := ⟨RX0, "taken", "([III)I"⟩
abbrev cX0_lacking : ByteArray := prog_2_method_6_code
def yX0_lacking : MethodName := ⟨RX0, "lacking", "([II)I"⟩
abbrev cX0_lackedKind : ByteArray := prog_2_method_7_code
def yX0_lackedKind : MethodName := ⟨RX0, "lackedKind", "([II)I"⟩
abbrev cX0_firstOff : ByteArray := prog_2_method_8_code
def yX0_firstOff : MethodName := ⟨RX0, "firstOff", "(LTrackBox$Walk;)I"⟩
abbrev cX0_isOnTable : ByteArray := prog_2_method_9_code
def yX0_isOnTable : MethodName := ⟨RX0, "isOnTable", "(J)Z"⟩
abbrev cX0_isAtLeg : ByteArray := prog_2_method_10_code
def yX0_isAtLeg : MethodName := ⟨RX0, "isAtLeg", "(J)Z"⟩
def RX1 : String := "TrackBox$Moves"
def TX1 : u_T := fun k => match k with
  | _ => ("TrackBox$Moves", "steps", "[J", true)
def tyX1 : Nat → FieldType := fun k => match k with
  | _ => .array .long
theorem nmX1 : ∀ a, a < 1 → ∀ b, b < 1 → a ≠ b → (TX1 a).2.1 ≠ (TX1 b).2.1 := by decide +kernel
theorem tyX1_ok : ∀ k, k < 1 → parseFieldDescriptor (TX1 k).2.2.1 = some (tyX1 k) := by decide +kernel
abbrev cX1_init : ByteArray := prog_3_method_1_code
def yX1_init : MethodName := ⟨RX1, "<init>", "()V"⟩
abbrev cX1_step : ByteArray := prog_3_method_2_code
def yX1_step : MethodName := ⟨RX1, "step", "(II)J"⟩
abbrev cX1_turned : ByteArray := prog_3_method_3_code
def yX1_turned : MethodName := ⟨RX1, "turned", "(II)I"⟩
abbrev cX1_measure : ByteArray := prog_3_method_4_code
def yX1_measure : MethodName := ⟨RX1, "measure", "([I)V"⟩
abbrev cX1_measureLetter : ByteArray := prog_3_method_5_code
def yX1_measureLetter : MethodName := ⟨RX1, "measureLetter", "(III)V"⟩
def RX2 : String := "TrackBox$Numbers"
def TX2 : u_T := fun k => match k with
  | _ => ("", "", "", false)
def tyX2 : Nat → FieldType := fun k => match k with
  | _ => .int
theorem nmX2 : ∀ a, a < 0 → ∀ b, b < 0 → a ≠ b → (TX2 a).2.1 ≠ (TX2 b).2.1 := by decide +kernel
theorem tyX2_ok : ∀ k, k < 0 → parseFieldDescriptor (TX2 k).2.2.1 = some (tyX2 k) := by decide +kernel
abbrev cX2_signOf : ByteArray := prog_4_method_2_code
def yX2_signOf : MethodName := ⟨RX2, "signOf", "(JJ)I"⟩
abbrev cX2_place : ByteArray := prog_4_method_3_code
def yX2_place : MethodName := ⟨RX2, "place", "(JJJJ)J"⟩
abbrev cX2_part : ByteArray := prog_4_method_4_code
def yX2_part : MethodName := ⟨RX2, "part", "(JI)I"⟩
abbrev cX2_squareWhole : ByteArray := prog_4_method_5_code
def yX2_squareWhole : MethodName := ⟨RX2, "squareWhole", "(J)J"⟩
abbrev cX2_squareRoot : ByteArray := prog_4_method_6_code
def yX2_squareRoot : MethodName := ⟨RX2, "squareRoot", "(J)J"⟩
def RX3 : String := "TrackBox$RingSearch"
def TX3 : u_T := fun k => match k with
  | 0 => ("TrackBox$RingSearch", "layout", "LTrackBox$Layout;", true)
  | 1 => ("TrackBox$RingSearch", "moves", "LTrackBox$Moves;", true)
  | 2 => ("TrackBox$RingSearch", "walk", "LTrackBox$Walk;", true)
  | 3 => ("TrackBox$RingSearch", "ends", "[J", true)
  | 4 => ("TrackBox$RingSearch", "nextTail", "[I", true)
  | 5 => ("TrackBox$RingSearch", "firstTail", "[I", true)
  | 6 => ("TrackBox$RingSearch", "gathered", "Z", false)
  | 7 => ("TrackBox$RingSearch", "letters", "[I", true)
  | 8 => ("TrackBox$RingSearch", "gains", "[I", true)
  | _ => ("TrackBox$RingSearch", "found", "I", false)
def tyX3 : Nat → FieldType := fun k => match k with
  | 0 => .object "TrackBox$Layout"
  | 1 => .object "TrackBox$Moves"
  | 2 => .object "TrackBox$Walk"
  | 3 => .array .long
  | 4 => .array .int
  | 5 => .array .int
  | 6 => .boolean
  | 7 => .array .int
  | 8 => .array .int
  | _ => .int
theorem nmX3 : ∀ a, a < 10 → ∀ b, b < 10 → a ≠ b → (TX3 a).2.1 ≠ (TX3 b).2.1 := by decide +kernel
theorem tyX3_ok : ∀ k, k < 10 → parseFieldDescriptor (TX3 k).2.2.1 = some (tyX3 k) := by decide +kernel
abbrev cX3_init : ByteArray := prog_5_method_1_code
def yX3_init : MethodName := ⟨RX3, "<init>", "(LTrackBox$Layout;LTrackBox$Moves;LTrackBox$Walk;)V"⟩
abbrev cX3_forget : ByteArray := prog_5_method_2_code
def yX3_forget : MethodName := ⟨RX3, "forget", "()V"⟩
abbrev cX3_through : ByteArray := prog_5_method_3_code
def yX3_through : MethodName := ⟨RX3, "through", "(IZZI)V"⟩
abbrev cX3_throughTails : ByteArray := prog_5_method_4_code
def yX3_throughTails : MethodName := ⟨RX3, "throughTails", "(IZZI)V"⟩
abbrev cX3_countRing : ByteArray := prog_5_method_5_code
def yX3_countRing : MethodName := ⟨RX3, "countRing", "(IZI)V"⟩
abbrev cX3_lacks : ByteArray := prog_5_method_6_code
def yX3_lacks : MethodName := ⟨RX3, "lacks", "(IZ)I"⟩
abbrev cX3_layAt : ByteArray := prog_5_method_7_code
def yX3_layAt : MethodName := ⟨RX3, "layAt", "(III)V"⟩
abbrev cX3_isFirstSoFar : ByteArray := prog_5_method_8_code
def yX3_isFirstSoFar : MethodName := ⟨RX3, "isFirstSoFar", "(I)Z"⟩
abbrev cX3_standsForAll : ByteArray := prog_5_method_9_code
def yX3_standsForAll : MethodName := ⟨RX3, "standsForAll", "(I)Z"⟩
abbrev cX3_isBefore : ByteArray := prog_5_method_10_code
def yX3_isBefore : MethodName := ⟨RX3, "isBefore", "(IIIZ)Z"⟩
abbrev cX3_gather : ByteArray := prog_5_method_11_code
def yX3_gather : MethodName := ⟨RX3, "gather", "()V"⟩
abbrev cX3_endOf : ByteArray := prog_5_method_12_code
def yX3_endOf : MethodName := ⟨RX3, "endOf", "(II)J"⟩
abbrev cX3_slotOf : ByteArray := prog_5_method_13_code
def yX3_slotOf : MethodName := ⟨RX3, "slotOf", "(J)I"⟩
def RX4 : String := "TrackBox$Trial"
def TX4 : u_T := fun k => match k with
  | 0 => ("TrackBox$Trial", "layout", "LTrackBox$Layout;", true)
  | 1 => ("TrackBox$Trial", "moves", "LTrackBox$Moves;", true)
  | 2 => ("TrackBox$Trial", "left", "[I", true)
  | 3 => ("TrackBox$Trial", "letters", "[I", true)
  | 4 => ("TrackBox$Trial", "best", "[I", true)
  | 5 => ("TrackBox$Trial", "found", "Z", false)
  | 6 => ("TrackBox$Trial", "bestWhole", "J", false)
  | _ => ("TrackBox$Trial", "bestRoot", "J", false)
def tyX4 : Nat → FieldType := fun k => match k with
  | 0 => .object "TrackBox$Layout"
  | 1 => .object "TrackBox$Moves"
  | 2 => .array .int
  | 3 => .array .int
  | 4 => .array .int
  | 5 => .boolean
  | 6 => .long
  | _ => .long
theorem nmX4 : ∀ a, a < 8 → ∀ b, b < 8 → a ≠ b → (TX4 a).2.1 ≠ (TX4 b).2.1 := by decide +kernel
theorem tyX4_ok : ∀ k, k < 8 → parseFieldDescriptor (TX4 k).2.2.1 = some (tyX4 k) := by decide +kernel
abbrev cX4_init : ByteArray := prog_6_method_1_code
def yX4_init : MethodName := ⟨RX4, "<init>", "(LTrackBox$Layout;LTrackBox$Moves;)V"⟩
abbrev cX4_findsNearest : ByteArray := prog_6_method_2_code
def yX4_findsNearest : MethodName := ⟨RX4, "findsNearest", "(I)Z"⟩
abbrev cX4_rowsOf : ByteArray := prog_6_method_3_code
def yX4_rowsOf : MethodName := ⟨RX4, "rowsOf", "([II)I"⟩
abbrev cX4_layNear : ByteArray := prog_6_method_4_code
def yX4_layNear : MethodName := ⟨RX4, "layNear", "(LTrackBox$Trial;IIJIZ)V"⟩
abbrev cX4_keepIfNearer : ByteArray := prog_6_method_5_code
def yX4_keepIfNearer : MethodName := ⟨RX4, "keepIfNearer", "(J)V"⟩
abbrev cX4_layTurns : ByteArray := prog_6_method_6_code
def yX4_layTurns : MethodName := ⟨RX4, "layTurns", "(LTrackBox$Trial;IIJI[I)I"⟩
def RX5 : String := "TrackBox$Walk"
def TX5 : u_T := fun k => match k with
  | 0 => ("TrackBox$Walk", "moves", "LTrackBox$Moves;", true)
  | 1 => ("TrackBox$Walk", "places", "[J", true)
  | 2 => ("TrackBox$Walk", "directions", "[I", true)
  | 3 => ("TrackBox$Walk", "laid", "[I", true)
  | _ => ("TrackBox$Walk", "last", "I", false)
def tyX5 : Nat → FieldType := fun k => match k with
  | 0 => .object "TrackBox$Moves"
  | 1 => .array .long
  | 2 => .array .int
  | 3 => .array .int
  | _ => .int
theorem nmX5 : ∀ a, a < 5 → ∀ b, b < 5 → a ≠ b → (TX5 a).2.1 ≠ (TX5 b).2.1 := by decide +kernel
theorem tyX5_ok : ∀ k, k < 5 → parseFieldDescriptor (TX5 k).2.2.1 = some (tyX5 k) := by decide +kernel
abbrev cX5_init : ByteArray := prog_7_method_1_code
def yX5_init : MethodName := ⟨RX5, "<init>", "(LTrackBox$Moves;)V"⟩
abbrev cX5_follow : ByteArray := prog_7_method_2_code
def yX5_follow : MethodName := ⟨RX5, "follow", "([II)V"⟩
abbrev cX5_end : ByteArray := prog_7_method_3_code
def yX5_end : MethodName := ⟨RX5, "end", "()J"⟩
abbrev cX5_isClosed : ByteArray := prog_7_method_4_code
def yX5_isClosed : MethodName := ⟨RX5, "isClosed", "()Z"⟩
abbrev cX5_firstTouch : ByteArray := prog_7_method_5_code
def yX5_firstTouch : MethodName := ⟨RX5, "firstTouch", "()I"⟩
abbrev cX5_areCrossings : ByteArray := prog_7_method_6_code
def yX5_areCrossings : MethodName := ⟨RX5, "areCrossings", "(II)Z"⟩
def RX6 : String := "TrackBox"
def TX6 : u_T := fun k => match k with
  | 0 => ("TrackBox", "now", "LTrackBox$Layout;", true)
  | 1 => ("TrackBox", "then", "LTrackBox$Layout;", true)
  | 2 => ("TrackBox", "taken", "Z", false)
  | 3 => ("TrackBox", "moves", "LTrackBox$Moves;", true)
  | 4 => ("TrackBox", "walk", "LTrackBox$Walk;", true)
  | 5 => ("TrackBox", "search", "LTrackBox$RingSearch;", true)
  | 6 => ("TrackBox", "trial", "LTrackBox$Trial;", true)
  | 7 => ("TrackBox", "tape", "[I", true)
  | 8 => ("TrackBox", "fed", "I", false)
  | 9 => ("TrackBox", "turns", "[I", true)
  | 10 => ("TrackBox", "turnsTold", "I", false)
  | _ => ("TrackBox", "refused", "[I", true)
def tyX6 : Nat → FieldType := fun k => match k with
  | 0 => .object "TrackBox$Layout"
  | 1 => .object "TrackBox$Layout"
  | 2 => .boolean
  | 3 => .object "TrackBox$Moves"
  | 4 => .object "TrackBox$Walk"
  | 5 => .object "TrackBox$RingSearch"
  | 6 => .object "TrackBox$Trial"
  | 7 => .array .int
  | 8 => .int
  | 9 => .array .int
  | 10 => .int
  | _ => .array .int
theorem nmX6 : ∀ a, a < 12 → ∀ b, b < 12 → a ≠ b → (TX6 a).2.1 ≠ (TX6 b).2.1 := by decide +kernel
theorem tyX6_ok : ∀ k, k < 12 → parseFieldDescriptor (TX6 k).2.2.1 = some (tyX6 k) := by decide +kernel
abbrev cX6_init : ByteArray := prog_1_method_1_code
def yX6_init : MethodName := ⟨RX6, "<init>", "()V"⟩
abbrev cX6_feed : ByteArray := prog_1_method_2_code
def yX6_feed : MethodName := ⟨RX6, "feed", "(IJ)I"⟩
abbrev cX6_row : ByteArray := prog_1_method_3_code
def yX6_row : MethodName := ⟨RX6, "row", "()I"⟩
abbrev cX6_box : ByteArray := prog_1_method_4_code
def yX6_box : MethodName := ⟨RX6, "box", "(II)I"⟩
abbrev cX6_size : ByteArray := prog_1_method_5_code
def yX6_size : MethodName := ⟨RX6, "size", "(II)I"⟩
abbrev cX6_piece : ByteArray := prog_1_method_6_code
def yX6_piece : MethodName := ⟨RX6, "piece", "(I)I"⟩
abbrev cX6_joint : ByteArray := prog_1_method_7_code
def yX6_joint : MethodName := ⟨RX6, "joint", "(II)I"⟩
abbrev cX6_closes : ByteArray := prog_1_method_8_code
def yX6_closes : MethodName := ⟨RX6, "closes", "()I"⟩
abbrev cX6_uses : ByteArray := prog_1_method_9_code
def yX6_uses : MethodName := ⟨RX6, "uses", "()I"⟩
abbrev cX6_sign : ByteArray := prog_1_method_10_code
def yX6_sign : MethodName := ⟨RX6, "sign", "(II)I"⟩
abbrev cX6_gap : ByteArray := prog_1_method_11_code
def yX6_gap : MethodName := ⟨RX6, "gap", "(I)I"⟩
abbrev cX6_nearer : ByteArray := prog_1_method_12_code
def yX6_nearer : MethodName := ⟨RX6, "nearer", "(II)I"⟩
abbrev cX6_table : ByteArray := prog_1_method_13_code
def yX6_table : MethodName := ⟨RX6, "table", "(II)I"⟩
abbrev cX6_leg : ByteArray := prog_1_method_14_code
def yX6_leg : MethodName := ⟨RX6, "leg", "(II)I"⟩
abbrev cX6_off : ByteArray := prog_1_method_15_code
def yX6_off : MethodName := ⟨RX6, "off", "()I"⟩
abbrev cX6_touches : ByteArray := prog_1_method_16_code
def yX6_touches : MethodName := ⟨RX6, "touches", "()I"⟩
abbrev cX6_lies : ByteArray := prog_1_method_17_code
def yX6_lies : MethodName := ⟨RX6, "lies", "()I"⟩
abbrev cX6_rings : ByteArray := prog_1_method_18_code
def yX6_rings : MethodName := ⟨RX6, "rings", "(IZ)I"⟩
abbrev cX6_ring : ByteArray := prog_1_method_19_code
def yX6_ring : MethodName := ⟨RX6, "ring", "(IZI)I"⟩
abbrev cX6_most : ByteArray := prog_1_method_20_code
def yX6_most : MethodName := ⟨RX6, "most", "(Z)I"⟩
abbrev cX6_opens : ByteArray := prog_1_method_21_code
def yX6_opens : MethodName := ⟨RX6, "opens", "(IZ)I"⟩
abbrev cX6_nearest : ByteArray := prog_1_method_22_code
def yX6_nearest : MethodName := ⟨RX6, "nearest", "(I)I"⟩
abbrev cX6_turn : ByteArray := prog_1_method_23_code
def yX6_turn : MethodName := ⟨RX6, "turn", "(I)I"⟩
abbrev cX6_photo : ByteArray := prog_1_method_24_code
def yX6_photo : MethodName := ⟨RX6, "photo", "()I"⟩
abbrev cX6_image : ByteArray := prog_1_method_25_code
def yX6_image : MethodName := ⟨RX6, "image", "()I"⟩
abbrev cX6_on : ByteArray := prog_1_method_26_code
def yX6_on : MethodName := ⟨RX6, "on", "()I"⟩
abbrev cX6_count : ByteArray := prog_1_method_27_code
def yX6_count : MethodName := ⟨RX6, "count", "(I)I"⟩
abbrev cX6_measureAnew : ByteArray := prog_1_method_28_code
def yX6_measureAnew : MethodName := ⟨RX6, "measureAnew", "()V"⟩
abbrev cX6_refuse : ByteArray := prog_1_method_29_code
def yX6_refuse : MethodName := ⟨RX6, "refuse", "(I)I"⟩
abbrev cX6_refuseFar : ByteArray := prog_1_method_30_code
def yX6_refuseFar : MethodName := ⟨RX6, "refuseFar", "(I)I"⟩
abbrev cX6_yes : ByteArray := prog_1_method_31_code
def yX6_yes : MethodName := ⟨RX6, "yes", "(Z)I"⟩
abbrev cX6_letterOf : ByteArray := prog_1_method_32_code
def yX6_letterOf : MethodName := ⟨RX6, "letterOf", "(I)I"⟩
abbrev cX6_at : ByteArray := prog_1_method_33_code
def yX6_at : MethodName := ⟨RX6, "at", "([II)I"⟩
abbrev cX6_put : ByteArray := prog_1_method_34_code
def yX6_put : MethodName := ⟨RX6, "put", "([III)V"⟩
abbrev cX6_placeAt : ByteArray := prog_1_method_35_code
def yX6_placeAt : MethodName := ⟨RX6, "placeAt", "([JI)J"⟩
abbrev cX6_putPlace : ByteArray := prog_1_method_36_code
def yX6_putPlace : MethodName := ⟨RX6, "putPlace", "([JIJ)V"⟩
abbrev cX6_copyAll : ByteArray := prog_1_method_37_code
def yX6_copyAll : MethodName := ⟨RX6, "copyAll", "([I[I)V"⟩
def RX7 : String := "TrackBoxModel"
def TX7 : u_T := fun k => match k with
  | 0 => ("TrackBoxModel", "refusals", "[I", true)
  | 1 => ("TrackBoxModel", "s", "[I", true)
  | 2 => ("TrackBoxModel", "image", "[I", true)
  | 3 => ("TrackBoxModel", "isImage", "Z", false)
  | 4 => ("TrackBoxModel", "tape", "[I", true)
  | 5 => ("TrackBoxModel", "taped", "I", false)
  | 6 => ("TrackBoxModel", "joint", "[I", true)
  | 7 => ("TrackBoxModel", "tried", "[I", true)
  | 8 => ("TrackBoxModel", "triedMany", "I", false)
  | 9 => ("TrackBoxModel", "whole", "I", false)
  | 10 => ("TrackBoxModel", "root", "I", false)
  | 11 => ("TrackBoxModel", "left", "[I", true)
  | 12 => ("TrackBoxModel", "turns", "[I", true)
  | 13 => ("TrackBoxModel", "found", "[I", true)
  | 14 => ("TrackBoxModel", "best", "[I", true)
  | 15 => ("TrackBoxModel", "ringMany", "I", false)
  | 16 => ("TrackBoxModel", "wanted", "I", false)
  | 17 => ("TrackBoxModel", "nearFound", "I", false)
  | 18 => ("TrackBoxModel", "photoMany", "I", false)
  | 19 => ("TrackBoxModel", "nearWhole", "I", false)
  | 20 => ("TrackBoxModel", "nearRoot", "I", false)
  | 21 => ("TrackBoxModel", "turned", "I", false)
  | 22 => ("TrackBoxModel", "mustLie", "Z", false)
  | _ => ("TrackBoxModel", "isFound", "Z", false)
def tyX7 : Nat → FieldType := fun k => match k with
  | 0 => .array .int
  | 1 => .array .int
  | 2 => .array .int
  | 3 => .boolean
  | 4 => .array .int
  | 5 => .int
  | 6 => .array .int
  | 7 => .array .int
  | 8 => .int
  | 9 => .int
  | 10 => .int
  | 11 => .array .int
  | 12 => .array .int
  | 13 => .array .int
  | 14 => .array .int
  | 15 => .int
  | 16 => .int
  | 17 => .int
  | 18 => .int
  | 19 => .int
  | 20 => .int
  | 21 => .int
  | 22 => .boolean
  | _ => .boolean
theorem nmX7 : ∀ a, a < 24 → ∀ b, b < 24 → a ≠ b → (TX7 a).2.1 ≠ (TX7 b).2.1 := by decide +kernel
theorem tyX7_ok : ∀ k, k < 24 → parseFieldDescriptor (TX7 k).2.2.1 = some (tyX7 k) := by decide +kernel
abbrev cX7_init : ByteArray := prog_9_method_1_code
def yX7_init : MethodName := ⟨RX7, "<init>", "()V"⟩
abbrev cX7_sizes : ByteArray := prog_9_method_2_code
def yX7_sizes : MethodName := ⟨RX7, "sizes", "(IIII)V"⟩
abbrev cX7_refuse : ByteArray := prog_9_method_3_code
def yX7_refuse : MethodName := ⟨RX7, "refuse", "(I)I"⟩
abbrev cX7_isIn : ByteArray := prog_9_method_4_code
def yX7_isIn : MethodName := ⟨RX7, "isIn", "(II)Z"⟩
abbrev cX7_within : ByteArray := prog_9_method_5_code
def yX7_within : MethodName := ⟨RX7, "within", "(III)I"⟩
abbrev cX7_layingOf : ByteArray := prog_9_method_6_code
def yX7_layingOf : MethodName := ⟨RX7, "layingOf", "(I)I"⟩
abbrev cX7_kindOf : ByteArray := prog_9_method_7_code
def yX7_kindOf : MethodName := ⟨RX7, "kindOf", "(I)I"⟩
abbrev cX7_turnOf : ByteArray := prog_9_method_8_code
def yX7_turnOf : MethodName := ⟨RX7, "turnOf", "(I)I"⟩
abbrev cX7_mirrored : ByteArray := prog_9_method_9_code
def yX7_mirrored : MethodName := ⟨RX7, "mirrored", "(I)I"⟩
abbrev cX7_feed : ByteArray := prog_9_method_10_code
def yX7_feed : MethodName := ⟨RX7, "feed", "(IJ)I"⟩
abbrev cX7_row : ByteArray := prog_9_method_11_code
def yX7_row : MethodName := ⟨RX7, "row", "()I"⟩
abbrev cX7_box : ByteArray := prog_9_method_12_code
def yX7_box : MethodName := ⟨RX7, "box", "(II)I"⟩
abbrev cX7_size : ByteArray := prog_9_method_13_code
def yX7_size : MethodName := ⟨RX7, "size", "(II)I"⟩
abbrev cX7_piece : ByteArray := prog_9_method_14_code
def yX7_piece : MethodName := ⟨RX7, "piece", "(I)I"⟩
abbrev cX7_along : ByteArray := prog_9_method_15_code
def yX7_along : MethodName := ⟨RX7, "along", "(III)V"⟩
abbrev cX7_adds : ByteArray := prog_9_method_16_code
def yX7_adds : MethodName := ⟨RX7, "adds", "(IIII)V"⟩
abbrev cX7_lays : ByteArray := prog_9_method_17_code
def yX7_lays : MethodName := ⟨RX7, "lays", "(I)V"⟩
abbrev cX7_takes : ByteArray := prog_9_method_18_code
def yX7_takes : MethodName := ⟨RX7, "takes", "()V"⟩
abbrev cX7_joint : ByteArray := prog_9_method_19_code
def yX7_joint : MethodName := ⟨RX7, "joint", "(II)I"⟩
abbrev cX7_isSame : ByteArray := prog_9_method_20_code
def yX7_isSame : MethodName := ⟨RX7, "isSame", "(II)Z"⟩
abbrev cX7_isClosed : ByteArray := prog_9_method_21_code
def yX7_isClosed : MethodName := ⟨RX7, "isClosed", "()Z"⟩
abbrev cX7_closes : ByteArray := prog_9_method_22_code
def yX7_closes : MethodName := ⟨RX7, "closes", "()I"⟩
abbrev cX7_uses : ByteArray := prog_9_method_23_code
def yX7_uses : MethodName := ⟨RX7, "uses", "()I"⟩
abbrev cX7_signOf : ByteArray := prog_9_method_24_code
def yX7_signOf : MethodName := ⟨RX7, "signOf", "(JJ)I"⟩
abbrev cX7_isPart : ByteArray := prog_9_method_25_code
def yX7_isPart : MethodName := ⟨RX7, "isPart", "(I)Z"⟩
abbrev cX7_sign : ByteArray := prog_9_method_26_code
def yX7_sign : MethodName := ⟨RX7, "sign", "(II)I"⟩
abbrev cX7_gapOf : ByteArray := prog_9_method_27_code
def yX7_gapOf : MethodName := ⟨RX7, "gapOf", "(I)I"⟩
abbrev cX7_gap : ByteArray := prog_9_method_28_code
def yX7_gap : MethodName := ⟨RX7, "gap", "(I)I"⟩
abbrev cX7_nearer : ByteArray := prog_9_method_29_code
def yX7_nearer : MethodName := ⟨RX7, "nearer", "(II)I"⟩
abbrev cX7_table : ByteArray := prog_9_method_30_code
def yX7_table : MethodName := ⟨RX7, "table", "(II)I"⟩
abbrev cX7_leg : ByteArray := prog_9_method_31_code
def yX7_leg : MethodName := ⟨RX7, "leg", "(II)I"⟩
abbrev cX7_isOn : ByteArray := prog_9_method_32_code
def yX7_isOn : MethodName := ⟨RX7, "isOn", "(I)Z"⟩
abbrev cX7_offOf : ByteArray := prog_9_method_33_code
def yX7_offOf : MethodName := ⟨RX7, "offOf", "()I"⟩
abbrev cX7_isCrossed : ByteArray := prog_9_method_34_code
def yX7_isCrossed : MethodName := ⟨RX7, "isCrossed", "(I)Z"⟩
abbrev cX7_touchOf : ByteArray := prog_9_method_35_code
def yX7_touchOf : MethodName := ⟨RX7, "touchOf", "()I"⟩
abbrev cX7_isLying : ByteArray := prog_9_method_36_code
def yX7_isLying : MethodName := ⟨RX7, "isLying", "()Z"⟩
abbrev cX7_off : ByteArray := prog_9_method_37_code
def yX7_off : MethodName := ⟨RX7, "off", "()I"⟩
abbrev cX7_touches : ByteArray := prog_9_method_38_code
def yX7_touches : MethodName := ⟨RX7, "touches", "()I"⟩
abbrev cX7_lies : ByteArray := prog_9_method_39_code
def yX7_lies : MethodName := ⟨RX7, "lies", "()I"⟩
abbrev cX7_isFirst : ByteArray := prog_9_method_40_code
def yX7_isFirst : MethodName := ⟨RX7, "isFirst", "(I)Z"⟩
abbrev cX7_begins : ByteArray := prog_9_method_41_code
def yX7_begins : MethodName := ⟨RX7, "begins", "(I)V"⟩
abbrev cX7_goesOn : ByteArray := prog_9_method_42_code
def yX7_goesOn : MethodName := ⟨RX7, "goesOn", "(II)V"⟩
abbrev cX7_rings : ByteArray := prog_9_method_43_code
def yX7_rings : MethodName := ⟨RX7, "rings", "()V"⟩
abbrev cX7_ringsOf : ByteArray := prog_9_method_44_code
def yX7_ringsOf : MethodName := ⟨RX7, "ringsOf", "(IZI)I"⟩
abbrev cX7_rings_ : ByteArray := prog_9_method_45_code
def yX7_rings_ : MethodName := ⟨RX7, "rings", "(IZ)I"⟩
abbrev cX7_becomes : ByteArray := prog_9_method_46_code
def yX7_becomes : MethodName := ⟨RX7, "becomes", "([II)V"⟩
abbrev cX7_ring : ByteArray := prog_9_method_47_code
def yX7_ring : MethodName := ⟨RX7, "ring", "(IZI)I"⟩
abbrev cX7_most : ByteArray := prog_9_method_48_code
def yX7_most : MethodName := ⟨RX7, "most", "(Z)I"⟩
abbrev cX7_opens : ByteArray := prog_9_method_49_code
def yX7_opens : MethodName := ⟨RX7, "opens", "(IZ)I"⟩
abbrev cX7_nears : ByteArray := prog_9_method_50_code
def yX7_nears : MethodName := ⟨RX7, "nears", "()V"⟩
abbrev cX7_nearest : ByteArray := prog_9_method_51_code
def yX7_nearest : MethodName := ⟨RX7, "nearest", "(I)I"⟩
abbrev cX7_turn : ByteArray := prog_9_method_52_code
def yX7_turn : MethodName := ⟨RX7, "turn", "(I)I"⟩
abbrev cX7_photo : ByteArray := prog_9_method_53_code
def yX7_photo : MethodName := ⟨RX7, "photo", "()I"⟩
abbrev cX7_image : ByteArray := prog_9_method_54_code
def yX7_image : MethodName := ⟨RX7, "image", "()I"⟩
abbrev cX7_on : ByteArray := prog_9_method_55_code
def yX7_on : MethodName := ⟨RX7, "on", "()I"⟩
abbrev cX7_count : ByteArray := prog_9_method_56_code
def yX7_count : MethodName := ⟨RX7, "count", "(I)I"⟩
def RJ6 : String := "java/lang/Integer"
abbrev cJ6_compare_7cf53 : ByteArray := prog_10_method_40_code
def yJ6_compare_7cf53 : MethodName := ⟨RJ6, "compare", "(II)I"⟩
def RJ9 : String := "java/lang/Math"
abbrev cJ9_max_7cf53 : ByteArray := prog_11_method_65_code
def yJ9_max_7cf53 : MethodName := ⟨RJ9, "max", "(II)I"⟩
abbrev cJ9_min_7cf53 : ByteArray := prog_11_method_69_code
def yJ9_min_7cf53 : MethodName := ⟨RJ9, "min", "(II)I"⟩
def RJ7 : String := "java/util/Arrays"
abbrev cJ7_fill_53178 : ByteArray := prog_12_method_103_code
def yJ7_fill_53178 : MethodName := ⟨RJ7, "fill", "([II)V"⟩
def RL : String := "TrackBoxLaw"
abbrev cL_law : ByteArray := code
def yL_law : MethodName := ⟨RL, "law", "([I)Z"⟩
theorem dX0_init_0 : decode cX0_init 0 = .ok (.aload_n 0, 1) := by decide +kernel
theorem dX0_init_1 : decode cX0_init 1 = .ok (.invokespecial 3, 3) := by decide +kernel
theorem dX0_init_4 : decode cX0_init 4 = .ok (.aload_n 0, 1) := by decide +kernel
theorem dX0_init_5 : decode cX0_init 5 = .ok (.bipush 7, 2) := by decide +kernel
theorem dX0_init_7 : decode cX0_init 7 = .ok (.newarray .int, 2) := by decide +kernel
theorem dX0_init_9 : decode cX0_init 9 = .ok (.putfield 9, 3) := by decide +kernel
theorem dX0_init_12 : decode cX0_init 12 = .ok (.aload_n 0, 1) := by decide +kernel
theorem dX0_init_13 : decode cX0_init 13 = .ok (.bipush 7, 2) := by decide +kernel
theorem dX0_init_15 : decode cX0_init 15 = .ok (.newarray .int, 2) := by decide +kernel
theorem dX0_init_17 : decode cX0_init 17 = .ok (.putfield 15, 3) := by decide +kernel
theorem dX0_init_20 : decode cX0_init 20 = .ok (.aload_n 0, 1) := by decide +kernel
theorem dX0_init_21 : decode cX0_init 21 = .ok (.bipush 24, 2) := by decide +kernel
theorem dX0_init_23 : decode cX0_init 23 = .ok (.newarray .int, 2) := by decide +kernel
theorem dX0_init_25 : decode cX0_init 25 = .ok (.putfield 18, 3) := by decide +kernel
theorem dX0_init_28 : decode cX0_init 28 = .ok (.aload_n 0, 1) := by decide +kernel
theorem dX0_init_29 : decode cX0_init 29 = .ok (.iconst 4, 1) := by decide +kernel
theorem dX0_init_30 : decode cX0_init 30 = .ok (.newarray .int, 2) := by decide +kernel
theorem dX0_init_32 : decode cX0_init 32 = .ok (.putfield 21, 3) := by decide +kernel
theorem dX0_init_35 : decode cX0_init 35 = .ok (.aload_n 0, 1) := by decide +kernel
theorem dX0_init_36 : decode cX0_init 36 = .ok (.bipush 6, 2) := by decide +kernel
theorem dX0_init_38 : decode cX0_init 38 = .ok (.newarray .int, 2) := by decide +kernel
theorem dX0_init_40 : decode cX0_init 40 = .ok (.putfield 24, 3) := by decide +kernel
theorem dX0_init_43 : decode cX0_init 43 = .ok (.aload_n 0, 1) := by decide +kernel
theorem dX0_init_44 : decode cX0_init 44 = .ok (.bipush 6, 2) := by decide +kernel
theorem dX0_init_46 : decode cX0_init 46 = .ok (.newarray .int, 2) := by decide +kernel
theorem dX0_init_48 : decode cX0_init 48 = .ok (.putfield 27, 3) := by decide +kernel
theorem dX0_init_51 : decode cX0_init 51 = .ok (.getstatic 30, 3) := by decide +kernel
theorem dX0_init_54 : decode cX0_init 54 = .ok (.aload_n 0, 1) := by decide +kernel
theorem dX0_init_55 : decode cX0_init 55 = .ok (.getfield 15, 3) := by decide +kernel
theorem dX0_init_58 : decode cX0_init 58 = .ok (.invokestatic 33, 3) := by decide +kernel
theorem dX0_init_61 : decode cX0_init 61 = .ok (.getstatic 37, 3) := by decide +kernel
theorem dX0_init_64 : decode cX0_init 64 = .ok (.aload_n 0, 1) := by decide +kernel
theorem dX0_init_65 : decode cX0_init 65 = .ok (.getfield 21, 3) := by decide +kernel
theorem dX0_init_68 : decode cX0_init 68 = .ok (.invokestatic 33, 3) := by decide +kernel
theorem dX0_init_71 : decode cX0_init 71 = .ok (.return_, 1) := by decide +kernel
theorem dX0_copy_0 : decode cX0_copy 0 = .ok (.aload_n 1, 1) := by decide +kernel
theorem dX0_copy_1 : decode cX0_copy 1 = .ok (.getfield 9, 3) := by decide +kernel
theorem dX0_copy_4 : decode cX0_copy 4 = .ok (.aload_n 0, 1) := by decide +kernel
theorem dX0_copy_5 : decode cX0_copy 5 = .ok (.getfield 9, 3) := by decide +kernel
theorem dX0_copy_8 : decode cX0_copy 8 = .ok (.invokestatic 33, 3) := by decide +kernel
theorem dX0_copy_11 : decode cX0_copy 11 = .ok (.aload_n 1, 1) := by decide +kernel
theorem dX0_copy_12 : decode cX0_copy 12 = .ok (.getfield 15, 3) := by decide +kernel
theorem dX0_copy_15 : decode cX0_copy 15 = .ok (.aload_n 0, 1) := by decide +kernel
theorem dX0_copy_16 : decode cX0_copy 16 = .ok (.getfield 15, 3) := by decide +kernel
theorem dX0_copy_19 : decode cX0_copy 19 = .ok (.invokestatic 33, 3) := by decide +kernel
theorem dX0_copy_22 : decode cX0_copy 22 = .ok (.aload_n 0, 1) := by decide +kernel
theorem dX0_copy_23 : decode cX0_copy 23 = .ok (.aload_n 1, 1) := by decide +kernel
theorem dX0_copy_24 : decode cX0_copy 24 = .ok (.getfield 18, 3) := by decide +kernel
theorem dX0_copy_27 : decode cX0_copy 27 = .ok (.aload_n 1, 1) := by decide +kernel
theorem dX0_copy_28 : decode cX0_copy 28 = .ok (.getfield 40, 3) := by decide +kernel
theorem dX0_copy_31 : decode cX0_copy 31 = .ok (.invokevirtual 44, 3) := by decide +kernel
theorem dX0_copy_34 : decode cX0_copy 34 = .ok (.aload_n 1, 1) := by decide +kernel
theorem dX0_copy_35 : decode cX0_copy 35 = .ok (.getfield 21, 3) := by decide +kernel
theorem dX0_copy_38 : decode cX0_copy 38 = .ok (.aload_n 0, 1) := by decide +kernel
theorem dX0_copy_39 : decode cX0_copy 39 = .ok (.getfield 21, 3) := by decide +kernel
theorem dX0_copy_42 : decode cX0_copy 42 = .ok (.invokestatic 33, 3) := by decide +kernel
theorem dX0_copy_45 : decode cX0_copy 45 = .ok (.aload_n 1, 1) := by decide +kernel
theorem dX0_copy_46 : decode cX0_copy 46 = .ok (.getfield 24, 3) := by decide +kernel
theorem dX0_copy_49 : decode cX0_copy 49 = .ok (.aload_n 0, 1) := by decide +kernel
theorem dX0_copy_50 : decode cX0_copy 50 = .ok (.getfield 24, 3) := by decide +kernel
theorem dX0_copy_53 : decode cX0_copy 53 = .ok (.invokestatic 33, 3) := by decide +kernel
theorem dX0_copy_56 : decode cX0_copy 56 = .ok (.aload_n 1, 1) := by decide +kernel
theorem dX0_copy_57 : decode cX0_copy 57 = .ok (.getfield 27, 3) := by decide +kernel
theorem dX0_copy_60 : decode cX0_copy 60 = .ok (.aload_n 0, 1) := by decide +kernel
theorem dX0_copy_61 : decode cX0_copy 61 = .ok (.getfield 27, 3) := by decide +kernel
theorem dX0_copy_64 : decode cX0_copy 64 = .ok (.invokestatic 33, 3) := by decide +kernel
theorem dX0_copy_67 : decode cX0_copy 67 = .ok (.aload_n 0, 1) := by decide +kernel
theorem dX0_copy_68 : decode cX0_copy 68 = .ok (.aload_n 1, 1) := by decide +kernel
theorem dX0_copy_69 : decode cX0_copy 69 = .ok (.getfield 48, 3) := by decide +kernel
theorem dX0_copy_72 : decode cX0_copy 72 = .ok (.putfield 48, 3) := by decide +kernel
theorem dX0_copy_75 : decode cX0_copy 75 = .ok (.return_, 1) := by decide +kernel
theorem dX0_becomes_0 : decode cX0_becomes 0 = .ok (.iconst 0, 1) := by decide +kernel
theorem dX0_becomes_1 : decode cX0_becomes 1 = .ok (.istore_n 3, 1) := by decide +kernel
theorem dX0_becomes_2 : decode cX0_becomes 2 = .ok (.iload_n 3, 1) := by decide +kernel
theorem dX0_becomes_3 : decode cX0_becomes 3 = .ok (.iload_n 2, 1) := by decide +kernel
theorem dX0_becomes_4 : decode cX0_becomes 4 = .ok (.if_icmp .ge 22, 3) := by decide +kernel
theorem dX0_becomes_7 : decode cX0_becomes 7 = .ok (.aload_n 0, 1) := by decide +kernel
theorem dX0_becomes_8 : decode cX0_becomes 8 = .ok (.getfield 18, 3) := by decide +kernel
theorem dX0_becomes_11 : decode cX0_becomes 11 = .ok (.iload_n 3, 1) := by decide +kernel
theorem dX0_becomes_12 : decode cX0_becomes 12 = .ok (.aload_n 1, 1) := by decide +kernel
theorem dX0_becomes_13 : decode cX0_becomes 13 = .ok (.iload_n 3, 1) := by decide +kernel
theorem dX0_becomes_14 : decode cX0_becomes 14 = .ok (.invokestatic 51, 3) := by decide +kernel
theorem dX0_becomes_17 : decode cX0_becomes 17 = .ok (.invokestatic 55, 3) := by decide +kernel
theorem dX0_becomes_20 : decode cX0_becomes 20 = .ok (.iinc 3 1, 3) := by decide +kernel
theorem dX0_becomes_23 : decode cX0_becomes 23 = .ok (.goto (-21), 3) := by decide +kernel
theorem dX0_becomes_26 : decode cX0_becomes 26 = .ok (.aload_n 0, 1) := by decide +kernel
theorem dX0_becomes_27 : decode cX0_becomes 27 = .ok (.iload_n 2, 1) := by decide +kernel
theorem dX0_becomes_28 : decode cX0_becomes 28 = .ok (.putfield 40, 3) := by decide +kernel
theorem dX0_becomes_31 : decode cX0_becomes 31 = .ok (.return_, 1) := by decide +kernel
theorem dX0_inBox_0 : decode cX0_inBox 0 = .ok (.iconst 0, 1) := by decide +kernel
theorem dX0_inBox_1 : decode cX0_inBox 1 = .ok (.istore_n 1, 1) := by decide +kernel
theorem dX0_inBox_2 : decode cX0_inBox 2 = .ok (.iconst 0, 1) := by decide +kernel
theorem dX0_inBox_3 : decode cX0_inBox 3 = .ok (.istore_n 2, 1) := by decide +kernel
theorem dX0_inBox_4 : decode cX0_inBox 4 = .ok (.iload_n 2, 1) := by decide +kernel
theorem dX0_inBox_5 : decode cX0_inBox 5 = .ok (.aload_n 0, 1) := by decide +kernel
theorem dX0_inBox_6 : decode cX0_inBox 6 = .ok (.getfield 9, 3) := by decide +kernel
theorem dX0_inBox_9 : decode cX0_inBox 9 = .ok (.arraylength, 1) := by decide +kernel
theorem dX0_inBox_10 : decode cX0_inBox 10 = .ok (.if_icmp .ge 18, 3) := by decide +kernel
theorem dX0_inBox_13 : decode cX0_inBox 13 = .ok (.iload_n 1, 1) := by decide +kernel
theorem dX0_inBox_14 : decode cX0_inBox 14 = .ok (.aload_n 0, 1) := by decide +kernel
theorem dX0_inBox_15 : decode cX0_inBox 15 = .ok (.getfield 9, 3) := by decide +kernel
theorem dX0_inBox_18 : decode cX0_inBox 18 = .ok (.iload_n 2, 1) := by decide +kernel
theorem dX0_inBox_19 : decode cX0_inBox 19 = .ok (.iaload, 1) := by decide +kernel
theorem dX0_inBox_20 : decode cX0_inBox 20 = .ok (.iadd, 1) := by decide +kernel
theorem dX0_inBox_21 : decode cX0_inBox 21 = .ok (.istore_n 1, 1) := by decide +kernel
theorem dX0_inBox_22 : decode cX0_inBox 22 = .ok (.iinc 2 1, 3) := by decide +kernel
theorem dX0_inBox_25 : decode cX0_inBox 25 = .ok (.goto (-21), 3) := by decide +kernel
theorem dX0_inBox_28 : decode cX0_inBox 28 = .ok (.iload_n 1, 1) := by decide +kernel
theorem dX0_inBox_29 : decode cX0_inBox 29 = .ok (.ireturn, 1) := by decide +kernel
theorem dX0_taken_0 : decode cX0_taken 0 = .ok (.iconst 0, 1) := by decide +kernel
theorem dX0_taken_1 : decode cX0_taken 1 = .ok (.istore_n 3, 1) := by decide +kernel
theorem dX0_taken_2 : decode cX0_taken 2 = .ok (.iconst 0, 1) := by decide +kernel
theorem dX0_taken_3 : decode cX0_taken 3 = .ok (.istore 4, 2) := by decide +kernel
theorem dX0_taken_5 : decode cX0_taken 5 = .ok (.iload 4, 2) := by decide +kernel
theorem dX0_taken_7 : decode cX0_taken 7 = .ok (.iload_n 1, 1) := by decide +kernel
theorem dX0_taken_8 : decode cX0_taken 8 = .ok (.if_icmp .ge 28, 3) := by decide +kernel
theorem dX0_taken_11 : decode cX0_taken 11 = .ok (.getstatic 59, 3) := by decide +kernel
theorem dX0_taken_14 : decode cX0_taken 14 = .ok (.aload_n 0, 1) := by decide +kernel
theorem dX0_taken_15 : decode cX0_taken 15 = .ok (.iload 4, 2) := by decide +kernel
theorem dX0_taken_17 : decode cX0_taken 17 = .ok (.invokestatic 51, 3) := by decide +kernel
theorem dX0_taken_20 : decode cX0_taken 20 = .ok (.invokestatic 51, 3) := by decide +kernel
theorem dX0_taken_23 : decode cX0_taken 23 = .ok (.iload_n 2, 1) := by decide +kernel
theorem dX0_taken_24 : decode cX0_taken 24 = .ok (.if_icmp .ne 6, 3) := by decide +kernel
theorem dX0_taken_27 : decode cX0_taken 27 = .ok (.iinc 3 1, 3) := by decide +kernel
theorem dX0_taken_30 : decode cX0_taken 30 = .ok (.iinc 4 1, 3) := by decide +kernel
theorem dX0_taken_33 : decode cX0_taken 33 = .ok (.goto (-28), 3) := by decide +kernel
theorem dX0_taken_36 : decode cX0_taken 36 = .ok (.iload_n 3, 1) := by decide +kernel
theorem dX0_taken_37 : decode cX0_taken 37 = .ok (.ireturn, 1) := by decide +kernel
theorem dX0_lacking_0 : decode cX0_lacking 0 = .ok (.iconst 0, 1) := by decide +kernel
theorem dX0_lacking_1 : decode cX0_lacking 1 = .ok (.istore_n 3, 1) := by decide +kernel
theorem dX0_lacking_2 : decode cX0_lacking 2 = .ok (.iconst 0, 1) := by decide +kernel
theorem dX0_lacking_3 : decode cX0_lacking 3 = .ok (.istore 4, 2) := by decide +kernel
theorem dX0_lacking_5 : decode cX0_lacking 5 = .ok (.iload 4, 2) := by decide +kernel
theorem dX0_lacking_7 : decode cX0_lacking 7 = .ok (.bipush 7, 2) := by decide +kernel
theorem dX0_lacking_9 : decode cX0_lacking 9 = .ok (.if_icmp .ge 33, 3) := by decide +kernel
theorem dX0_lacking_12 : decode cX0_lacking 12 = .ok (.iload_n 3, 1) := by decide +kernel
theorem dX0_lacking_13 : decode cX0_lacking 13 = .ok (.iconst 0, 1) := by decide +kernel
theorem dX0_lacking_14 : decode cX0_lacking 14 = .ok (.aload_n 1, 1) := by decide +kernel
theorem dX0_lacking_15 : decode cX0_lacking 15 = .ok (.iload_n 2, 1) := by decide +kernel
theorem dX0_lacking_16 : decode cX0_lacking 16 = .ok (.iload 4, 2) := by decide +kernel
theorem dX0_lacking_18 : decode cX0_lacking 18 = .ok (.invokestatic 62, 3) := by decide +kernel
theorem dX0_lacking_21 : decode cX0_lacking 21 = .ok (.aload_n 0, 1) := by decide +kernel
theorem dX0_lacking_22 : decode cX0_lacking 22 = .ok (.getfield 9, 3) := by decide +kernel
theorem dX0_lacking_25 : decode cX0_lacking 25 = .ok (.iload 4, 2) := by decide +kernel
theorem dX0_lacking_27 : decode cX0_lacking 27 = .ok (.invokestatic 51, 3) := by decide +kernel
theorem dX0_lacking_30 : decode cX0_lacking 30 = .ok (.isub, 1) := by decide +kernel
theorem dX0_lacking_31 : decode cX0_lacking 31 = .ok (.invokestatic 66, 3) := by decide +kernel
theorem dX0_lacking_34 : decode cX0_lacking 34 = .ok (.iadd, 1) := by decide +kernel
theorem dX0_lacking_35 : decode cX0_lacking 35 = .ok (.istore_n 3, 1) := by decide +kernel
theorem dX0_lacking_36 : decode cX0_lacking 36 = .ok (.iinc 4 1, 3) := by decide +kernel
theorem dX0_lacking_39 : decode cX0_lacking 39 = .ok (.goto (-34), 3) := by decide +kernel
theorem dX0_lacking_42 : decode cX0_lacking 42 = .ok (.iload_n 3, 1) := by decide +kernel
theorem dX0_lacking_43 : decode cX0_lacking 43 = .ok (.ireturn, 1) := by decide +kernel
theorem dX0_lackedKind_0 : decode cX0_lackedKind 0 = .ok (.iconst 0, 1) := by decide +kernel
theorem dX0_lackedKind_1 : decode cX0_lackedKind 1 = .ok (.istore_n 3, 1) := by decide +kernel
theorem dX0_lackedKind_2 : decode cX0_lackedKind 2 = .ok (.iload_n 3, 1) := by decide +kernel
theorem dX0_lackedKind_3 : decode cX0_lackedKind 3 = .ok (.bipush 7, 2) := by decide +kernel
theorem dX0_lackedKind_5 : decode cX0_lackedKind 5 = .ok (.if_icmp .ge 28, 3) := by decide +kernel
theorem dX0_lackedKind_8 : decode cX0_lackedKind 8 = .ok (.aload_n 1, 1) := by decide +kernel
theorem dX0_lackedKind_9 : decode cX0_lackedKind 9 = .ok (.iload_n 2, 1) := by decide +kernel
theorem dX0_lackedKind_10 : decode cX0_lackedKind 10 = .ok (.iload_n 3, 1) := by decide +kernel
theorem dX0_lackedKind_11 : decode cX0_lackedKind 11 = .ok (.invokestatic 62, 3) := by decide +kernel
theorem dX0_lackedKind_14 : decode cX0_lackedKind 14 = .ok (.aload_n 0, 1) := by decide +kernel
theorem dX0_lackedKind_15 : decode cX0_lackedKind 15 = .ok (.getfield 9, 3) := by decide +kernel
theorem dX0_lackedKind_18 : decode cX0_lackedKind 18 = .ok (.iload_n 3, 1) := by decide +kernel
theorem dX0_lackedKind_19 : decode cX0_lackedKind 19 = .ok (.invokestatic 51, 3) := by decide +kernel
theorem dX0_lackedKind_22 : decode cX0_lackedKind 22 = .ok (.if_icmp .le 5, 3) := by decide +kernel
theorem dX0_lackedKind_25 : decode cX0_lackedKind 25 = .ok (.iload_n 3, 1) := by decide +kernel
theorem dX0_lackedKind_26 : decode cX0_lackedKind 26 = .ok (.ireturn, 1) := by decide +kernel
theorem dX0_lackedKind_27 : decode cX0_lackedKind 27 = .ok (.iinc 3 1, 3) := by decide +kernel
theorem dX0_lackedKind_30 : decode cX0_lackedKind 30 = .ok (.goto (-28), 3) := by decide +kernel
theorem dX0_lackedKind_33 : decode cX0_lackedKind 33 = .ok (.bipush (-9), 2) := by decide +kernel
theorem dX0_lackedKind_35 : decode cX0_lackedKind 35 = .ok (.ireturn, 1) := by decide +kernel
theorem dX0_firstOff_0 : decode cX0_firstOff 0 = .ok (.iconst 0, 1) := by decide +kernel
theorem dX0_firstOff_1 : decode cX0_firstOff 1 = .ok (.istore_n 2, 1) := by decide +kernel
theorem dX0_firstOff_2 : decode cX0_firstOff 2 = .ok (.iload_n 2, 1) := by decide +kernel
theorem dX0_firstOff_3 : decode cX0_firstOff 3 = .ok (.aload_n 1, 1) := by decide +kernel
theorem dX0_firstOff_4 : decode cX0_firstOff 4 = .ok (.getfield 72, 3) := by decide +kernel
theorem dX0_firstOff_7 : decode cX0_firstOff 7 = .ok (.if_icmp .gt 36, 3) := by decide +kernel
theorem dX0_firstOff_10 : decode cX0_firstOff 10 = .ok (.aload_n 1, 1) := by decide +kernel
theorem dX0_firstOff_11 : decode cX0_firstOff 11 = .ok (.getfield 77, 3) := by decide +kernel
theorem dX0_firstOff_14 : decode cX0_firstOff 14 = .ok (.iload_n 2, 1) := by decide +kernel
theorem dX0_firstOff_15 : decode cX0_firstOff 15 = .ok (.invokestatic 81, 3) := by decide +kernel
theorem dX0_firstOff_18 : decode cX0_firstOff 18 = .ok (.lstore_n 3, 1) := by decide +kernel
theorem dX0_firstOff_19 : decode cX0_firstOff 19 = .ok (.aload_n 0, 1) := by decide +kernel
theorem dX0_firstOff_20 : decode cX0_firstOff 20 = .ok (.lload_n 3, 1) := by decide +kernel
theorem dX0_firstOff_21 : decode cX0_firstOff 21 = .ok (.invokevirtual 85, 3) := by decide +kernel
theorem dX0_firstOff_24 : decode cX0_firstOff 24 = .ok (.ifCond .eq 11, 3) := by decide +kernel
theorem dX0_firstOff_27 : decode cX0_firstOff 27 = .ok (.aload_n 0, 1) := by decide +kernel
theorem dX0_firstOff_28 : decode cX0_firstOff 28 = .ok (.lload_n 3, 1) := by decide +kernel
theorem dX0_firstOff_29 : decode cX0_firstOff 29 = .ok (.invokevirtual 89, 3) := by decide +kernel
theorem dX0_firstOff_32 : decode cX0_firstOff 32 = .ok (.ifCond .eq 5, 3) := by decide +kernel
theorem dX0_firstOff_35 : decode cX0_firstOff 35 = .ok (.iload_n 2, 1) := by decide +kernel
theorem dX0_firstOff_36 : decode cX0_firstOff 36 = .ok (.ireturn, 1) := by decide +kernel
theorem dX0_firstOff_37 : decode cX0_firstOff 37 = .ok (.iinc 2 1, 3) := by decide +kernel
theorem dX0_firstOff_40 : decode cX0_firstOff 40 = .ok (.goto (-38), 3) := by decide +kernel
theorem dX0_firstOff_43 : decode cX0_firstOff 43 = .ok (.bipush (-9), 2) := by decide +kernel
theorem dX0_firstOff_45 : decode cX0_firstOff 45 = .ok (.ireturn, 1) := by decide +kernel
theorem dX0_isOnTable_0 : decode cX0_isOnTable 0 = .ok (.lload_n 1, 1) := by decide +kernel
theorem dX0_isOnTable_1 : decode cX0_isOnTable 1 = .ok (.iconst 0, 1) := by decide +kernel
theorem dX0_isOnTable_2 : decode cX0_isOnTable 2 = .ok (.invokestatic 92, 3) := by decide +kernel
theorem dX0_isOnTable_5 : decode cX0_isOnTable 5 = .ok (.istore_n 3, 1) := by decide +kernel
theorem dX0_isOnTable_6 : decode cX0_isOnTable 6 = .ok (.lload_n 1, 1) := by decide +kernel
theorem dX0_isOnTable_7 : decode cX0_isOnTable 7 = .ok (.iconst 1, 1) := by decide +kernel
theorem dX0_isOnTable_8 : decode cX0_isOnTable 8 = .ok (.invokestatic 92, 3) := by decide +kernel
theorem dX0_isOnTable_11 : decode cX0_isOnTable 11 = .ok (.istore 4, 2) := by decide +kernel
theorem dX0_isOnTable_13 : decode cX0_isOnTable 13 = .ok (.lload_n 1, 1) := by decide +kernel
theorem dX0_isOnTable_14 : decode cX0_isOnTable 14 = .ok (.iconst 2, 1) := by decide +kernel
theorem dX0_isOnTable_15 : decode cX0_isOnTable 15 = .ok (.invokestatic 92, 3) := by decide +kernel
theorem dX0_isOnTable_18 : decode cX0_isOnTable 18 = .ok (.istore 5, 2) := by decide +kernel
theorem dX0_isOnTable_20 : decode cX0_isOnTable 20 = .ok (.lload_n 1, 1) := by decide +kernel
theorem dX0_isOnTable_21 : decode cX0_isOnTable 21 = .ok (.iconst 3, 1) := by decide +kernel
theorem dX0_isOnTable_22 : decode cX0_isOnTable 22 = .ok (.invokestatic 92, 3) := by decide +kernel
theorem dX0_isOnTable_25 : decode cX0_isOnTable 25 = .ok (.istore 6, 2) := by decide +kernel
theorem dX0_isOnTable_27 : decode cX0_isOnTable 27 = .ok (.iload_n 3, 1) := by decide +kernel
theorem dX0_isOnTable_28 : decode cX0_isOnTable 28 = .ok (.aload_n 0, 1) := by decide +kernel
theorem dX0_isOnTable_29 : decode cX0_isOnTable 29 = .ok (.getfield 21, 3) := by decide +kernel
theorem dX0_isOnTable_32 : decode cX0_isOnTable 32 = .ok (.iconst 0, 1) := by decide +kernel
theorem dX0_isOnTable_33 : decode cX0_isOnTable 33 = .ok (.invokestatic 51, 3) := by decide +kernel
theorem dX0_isOnTable_36 : decode cX0_isOnTable 36 = .ok (.isub, 1) := by decide +kernel
theorem dX0_isOnTable_37 : decode cX0_isOnTable 37 = .ok (.i2l, 1) := by decide +kernel
theorem dX0_isOnTable_38 : decode cX0_isOnTable 38 = .ok (.iload 4, 2) := by decide +kernel
theorem dX0_isOnTable_40 : decode cX0_isOnTable 40 = .ok (.i2l, 1) := by decide +kernel
theorem dX0_isOnTable_41 : decode cX0_isOnTable 41 = .ok (.invokestatic 98, 3) := by decide +kernel
theorem dX0_isOnTable_44 : decode cX0_isOnTable 44 = .ok (.ifCond .lt 69, 3) := by decide +kernel
theorem dX0_isOnTable_47 : decode cX0_isOnTable 47 = .ok (.iload_n 3, 1) := by decide +kernel
theorem dX0_isOnTable_48 : decode cX0_isOnTable 48 = .ok (.aload_n 0, 1) := by decide +kernel
theorem dX0_isOnTable_49 : decode cX0_isOnTable 49 = .ok (.getfield 21, 3) := by decide +kernel
theorem dX0_isOnTable_52 : decode cX0_isOnTable 52 = .ok (.iconst 1, 1) := by decide +kernel
theorem dX0_isOnTable_53 : decode cX0_isOnTable 53 = .ok (.invokestatic 51, 3) := by decide +kernel
theorem dX0_isOnTable_56 : decode cX0_isOnTable 56 = .ok (.isub, 1) := by decide +kernel
theorem dX0_isOnTable_57 : decode cX0_isOnTable 57 = .ok (.i2l, 1) := by decide +kernel
theorem dX0_isOnTable_58 : decode cX0_isOnTable 58 = .ok (.iload 4, 2) := by decide +kernel
theorem dX0_isOnTable_60 : decode cX0_isOnTable 60 = .ok (.i2l, 1) := by decide +kernel
theorem dX0_isOnTable_61 : decode cX0_isOnTable 61 = .ok (.invokestatic 98, 3) := by decide +kernel
theorem dX0_isOnTable_64 : decode cX0_isOnTable 64 = .ok (.ifCond .gt 49, 3) := by decide +kernel
theorem dX0_isOnTable_67 : decode cX0_isOnTable 67 = .ok (.iload 5, 2) := by decide +kernel
theorem dX0_isOnTable_69 : decode cX0_isOnTable 69 = .ok (.aload_n 0, 1) := by decide +kernel
theorem dX0_isOnTable_70 : decode cX0_isOnTable 70 = .ok (.getfield 21, 3) := by decide +kernel
theorem dX0_isOnTable_73 : decode cX0_isOnTable 73 = .ok (.iconst 2, 1) := by decide +kernel
theorem dX0_isOnTable_74 : decode cX0_isOnTable 74 = .ok (.invokestatic 51, 3) := by decide +kernel
theorem dX0_isOnTable_77 : decode cX0_isOnTable 77 = .ok (.isub, 1) := by decide +kernel
theorem dX0_isOnTable_78 : decode cX0_isOnTable 78 = .ok (.i2l, 1) := by decide +kernel
theorem dX0_isOnTable_79 : decode cX0_isOnTable 79 = .ok (.iload 6, 2) := by decide +kernel
theorem dX0_isOnTable_81 : decode cX0_isOnTable 81 = .ok (.i2l, 1) := by decide +kernel
theorem dX0_isOnTable_82 : decode cX0_isOnTable 82 = .ok (.invokestatic 98, 3) := by decide +kernel
theorem dX0_isOnTable_85 : decode cX0_isOnTable 85 = .ok (.ifCond .lt 28, 3) := by decide +kernel
theorem dX0_isOnTable_88 : decode cX0_isOnTable 88 = .ok (.iload 5, 2) := by decide +kernel
theorem dX0_isOnTable_90 : decode cX0_isOnTable 90 = .ok (.aload_n 0, 1) := by decide +kernel
theorem dX0_isOnTable_91 : decode cX0_isOnTable 91 = .ok (.getfield 21, 3) := by decide +kernel
theorem dX0_isOnTable_94 : decode cX0_isOnTable 94 = .ok (.iconst 3, 1) := by decide +kernel
theorem dX0_isOnTable_95 : decode cX0_isOnTable 95 = .ok (.invokestatic 51, 3) := by decide +kernel
theorem dX0_isOnTable_98 : decode cX0_isOnTable 98 = .ok (.isub, 1) := by decide +kernel
theorem dX0_isOnTable_99 : decode cX0_isOnTable 99 = .ok (.i2l, 1) := by decide +kernel
theorem dX0_isOnTable_100 : decode cX0_isOnTable 100 = .ok (.iload 6, 2) := by decide +kernel
theorem dX0_isOnTable_102 : decode cX0_isOnTable 102 = .ok (.i2l, 1) := by decide +kernel
theorem dX0_isOnTable_103 : decode cX0_isOnTable 103 = .ok (.invokestatic 98, 3) := by decide +kernel
theorem dX0_isOnTable_106 : decode cX0_isOnTable 106 = .ok (.ifCond .gt 7, 3) := by decide +kernel
theorem dX0_isOnTable_109 : decode cX0_isOnTable 109 = .ok (.iconst 1, 1) := by decide +kernel
theorem dX0_isOnTable_110 : decode cX0_isOnTable 110 = .ok (.goto 4, 3) := by decide +kernel
theorem dX0_isOnTable_113 : decode cX0_isOnTable 113 = .ok (.iconst 0, 1) := by decide +kernel
theorem dX0_isOnTable_114 : decode cX0_isOnTable 114 = .ok (.ireturn, 1) := by decide +kernel
theorem dX0_isAtLeg_0 : decode cX0_isAtLeg 0 = .ok (.iconst 0, 1) := by decide +kernel
theorem dX0_isAtLeg_1 : decode cX0_isAtLeg 1 = .ok (.istore_n 3, 1) := by decide +kernel
theorem dX0_isAtLeg_2 : decode cX0_isAtLeg 2 = .ok (.iload_n 3, 1) := by decide +kernel
theorem dX0_isAtLeg_3 : decode cX0_isAtLeg 3 = .ok (.aload_n 0, 1) := by decide +kernel
theorem dX0_isAtLeg_4 : decode cX0_isAtLeg 4 = .ok (.getfield 48, 3) := by decide +kernel
theorem dX0_isAtLeg_7 : decode cX0_isAtLeg 7 = .ok (.if_icmp .ge 39, 3) := by decide +kernel
theorem dX0_isAtLeg_10 : decode cX0_isAtLeg 10 = .ok (.lload_n 1, 1) := by decide +kernel
theorem dX0_isAtLeg_11 : decode cX0_isAtLeg 11 = .ok (.aload_n 0, 1) := by decide +kernel
theorem dX0_isAtLeg_12 : decode cX0_isAtLeg 12 = .ok (.getfield 24, 3) := by decide +kernel
theorem dX0_isAtLeg_15 : decode cX0_isAtLeg 15 = .ok (.iload_n 3, 1) := by decide +kernel
theorem dX0_isAtLeg_16 : decode cX0_isAtLeg 16 = .ok (.invokestatic 51, 3) := by decide +kernel
theorem dX0_isAtLeg_19 : decode cX0_isAtLeg 19 = .ok (.i2l, 1) := by decide +kernel
theorem dX0_isAtLeg_20 : decode cX0_isAtLeg 20 = .ok (.lconst 0, 1) := by decide +kernel
theorem dX0_isAtLeg_21 : decode cX0_isAtLeg 21 = .ok (.aload_n 0, 1) := by decide +kernel
theorem dX0_isAtLeg_22 : decode cX0_isAtLeg 22 = .ok (.getfield 27, 3) := by decide +kernel
theorem dX0_isAtLeg_25 : decode cX0_isAtLeg 25 = .ok (.iload_n 3, 1) := by decide +kernel
theorem dX0_isAtLeg_26 : decode cX0_isAtLeg 26 = .ok (.invokestatic 51, 3) := by decide +kernel
theorem dX0_isAtLeg_29 : decode cX0_isAtLeg 29 = .ok (.i2l, 1) := by decide +kernel
theorem dX0_isAtLeg_30 : decode cX0_isAtLeg 30 = .ok (.lconst 0, 1) := by decide +kernel
theorem dX0_isAtLeg_31 : decode cX0_isAtLeg 31 = .ok (.invokestatic 102, 3) := by decide +kernel
theorem dX0_isAtLeg_34 : decode cX0_isAtLeg 34 = .ok (.lcmp, 1) := by decide +kernel
theorem dX0_isAtLeg_35 : decode cX0_isAtLeg 35 = .ok (.ifCond .ne 5, 3) := by decide +kernel
theorem dX0_isAtLeg_38 : decode cX0_isAtLeg 38 = .ok (.iconst 1, 1) := by decide +kernel
theorem dX0_isAtLeg_39 : decode cX0_isAtLeg 39 = .ok (.ireturn, 1) := by decide +kernel
theorem dX0_isAtLeg_40 : decode cX0_isAtLeg 40 = .ok (.iinc 3 1, 3) := by decide +kernel
theorem dX0_isAtLeg_43 : decode cX0_isAtLeg 43 = .ok (.goto (-41), 3) := by decide +kernel
theorem dX0_isAtLeg_46 : decode cX0_isAtLeg 46 = .ok (.iconst 0, 1) := by decide +kernel
theorem dX0_isAtLeg_47 : decode cX0_isAtLeg 47 = .ok (.ireturn, 1) := by decide +kernel
theorem dX1_init_0 : decode cX1_init 0 = .ok (.aload_n 0, 1) := by decide +kernel
theorem dX1_init_1 : decode cX1_init 1 = .ok (.invokespecial 3, 3) := by decide +kernel
theorem dX1_init_4 : decode cX1_init 4 = .ok (.aload_n 0, 1) := by decide +kernel
theorem dX1_init_5 : decode cX1_init 5 = .ok (.bipush 80, 2) := by decide +kernel
theorem dX1_init_7 : decode cX1_init 7 = .ok (.newarray .long, 2) := by decide +kernel
theorem dX1_init_9 : decode cX1_init 9 = .ok (.putfield 9, 3) := by decide +kernel
theorem dX1_init_12 : decode cX1_init 12 = .ok (.return_, 1) := by decide +kernel
theorem dX1_step_0 : decode cX1_step 0 = .ok (.aload_n 0, 1) := by decide +kernel
theorem dX1_step_1 : decode cX1_step 1 = .ok (.getfield 9, 3) := by decide +kernel
theorem dX1_step_4 : decode cX1_step 4 = .ok (.iload_n 1, 1) := by decide +kernel
theorem dX1_step_5 : decode cX1_step 5 = .ok (.bipush 10, 2) := by decide +kernel
theorem dX1_step_7 : decode cX1_step 7 = .ok (.imul, 1) := by decide +kernel
theorem dX1_step_8 : decode cX1_step 8 = .ok (.iload_n 2, 1) := by decide +kernel
theorem dX1_step_9 : decode cX1_step 9 = .ok (.iadd, 1) := by decide +kernel
theorem dX1_step_10 : decode cX1_step 10 = .ok (.invokestatic 15, 3) := by decide +kernel
theorem dX1_step_13 : decode cX1_step 13 = .ok (.lreturn, 1) := by decide +kernel
theorem dX1_turned_0 : decode cX1_turned 0 = .ok (.iload_n 0, 1) := by decide +kernel
theorem dX1_turned_1 : decode cX1_turned 1 = .ok (.getstatic 19, 3) := by decide +kernel
theorem dX1_turned_4 : decode cX1_turned 4 = .ok (.iload_n 1, 1) := by decide +kernel
theorem dX1_turned_5 : decode cX1_turned 5 = .ok (.invokestatic 23, 3) := by decide +kernel
theorem dX1_turned_8 : decode cX1_turned 8 = .ok (.iadd, 1) := by decide +kernel
theorem dX1_turned_9 : decode cX1_turned 9 = .ok (.bipush 7, 2) := by decide +kernel
theorem dX1_turned_11 : decode cX1_turned 11 = .ok (.iand, 1) := by decide +kernel
theorem dX1_turned_12 : decode cX1_turned 12 = .ok (.ireturn, 1) := by decide +kernel
theorem dX1_measure_0 : decode cX1_measure 0 = .ok (.iconst 0, 1) := by decide +kernel
theorem dX1_measure_1 : decode cX1_measure 1 = .ok (.istore_n 2, 1) := by decide +kernel
theorem dX1_measure_2 : decode cX1_measure 2 = .ok (.iload_n 2, 1) := by decide +kernel
theorem dX1_measure_3 : decode cX1_measure 3 = .ok (.bipush 10, 2) := by decide +kernel
theorem dX1_measure_5 : decode cX1_measure 5 = .ok (.if_icmp .ge 32, 3) := by decide +kernel
theorem dX1_measure_8 : decode cX1_measure 8 = .ok (.aload_n 0, 1) := by decide +kernel
theorem dX1_measure_9 : decode cX1_measure 9 = .ok (.iload_n 2, 1) := by decide +kernel
theorem dX1_measure_10 : decode cX1_measure 10 = .ok (.getstatic 19, 3) := by decide +kernel
theorem dX1_measure_13 : decode cX1_measure 13 = .ok (.iload_n 2, 1) := by decide +kernel
theorem dX1_measure_14 : decode cX1_measure 14 = .ok (.invokestatic 23, 3) := by decide +kernel
theorem dX1_measure_17 : decode cX1_measure 17 = .ok (.aload_n 1, 1) := by decide +kernel
theorem dX1_measure_18 : decode cX1_measure 18 = .ok (.getstatic 27, 3) := by decide +kernel
theorem dX1_measure_21 : decode cX1_measure 21 = .ok (.iload_n 2, 1) := by decide +kernel
theorem dX1_measure_22 : decode cX1_measure 22 = .ok (.invokestatic 23, 3) := by decide +kernel
theorem dX1_measure_25 : decode cX1_measure 25 = .ok (.invokestatic 23, 3) := by decide +kernel
theorem dX1_measure_28 : decode cX1_measure 28 = .ok (.invokevirtual 30, 3) := by decide +kernel
theorem dX1_measure_31 : decode cX1_measure 31 = .ok (.iinc 2 1, 3) := by decide +kernel
theorem dX1_measure_34 : decode cX1_measure 34 = .ok (.goto (-32), 3) := by decide +kernel
theorem dX1_measure_37 : decode cX1_measure 37 = .ok (.return_, 1) := by decide +kernel
theorem dX1_measureLetter_0 : decode cX1_measureLetter 0 = .ok (.iload_n 2, 1) := by decide +kernel
theorem dX1_measureLetter_1 : decode cX1_measureLetter 1 = .ok (.iconst 0, 1) := by decide +kernel
theorem dX1_measureLetter_2 : decode cX1_measureLetter 2 = .ok (.invokestatic 34, 3) := by decide +kernel
theorem dX1_measureLetter_5 : decode cX1_measureLetter 5 = .ok (.istore 4, 2) := by decide +kernel
theorem dX1_measureLetter_7 : decode cX1_measureLetter 7 = .ok (.iload_n 2, 1) := by decide +kernel
theorem dX1_measureLetter_8 : decode cX1_measureLetter 8 = .ok (.iconst 1, 1) := by decide +kernel
theorem dX1_measureLetter_9 : decode cX1_measureLetter 9 = .ok (.if_icmp .eq 8, 3) := by decide +kernel
theorem dX1_measureLetter_12 : decode cX1_measureLetter 12 = .ok (.iload_n 2, 1) := by decide +kernel
theorem dX1_measureLetter_13 : decode cX1_measureLetter 13 = .ok (.iconst (-1), 1) := by decide +kernel
theorem dX1_measureLetter_14 : decode cX1_measureLetter 14 = .ok (.if_icmp .ne 7, 3) := by decide +kernel
theorem dX1_measureLetter_17 : decode cX1_measureLetter 17 = .ok (.iconst 1, 1) := by decide +kernel
theorem dX1_measureLetter_18 : decode cX1_measureLetter 18 = .ok (.goto 4, 3) := by decide +kernel
theorem dX1_measureLetter_21 : decode cX1_measureLetter 21 = .ok (.iconst 0, 1) := by decide +kernel
theorem dX1_measureLetter_22 : decode cX1_measureLetter 22 = .ok (.istore 5, 2) := by decide +kernel
theorem dX1_measureLetter_24 : decode cX1_measureLetter 24 = .ok (.iload 5, 2) := by decide +kernel
theorem dX1_measureLetter_26 : decode cX1_measureLetter 26 = .ok (.ifCond .eq 7, 3) := by decide +kernel
theorem dX1_measureLetter_29 : decode cX1_measureLetter 29 = .ok (.iconst 0, 1) := by decide +kernel
theorem dX1_measureLetter_30 : decode cX1_measureLetter 30 = .ok (.goto 6, 3) := by decide +kernel
theorem dX1_measureLetter_33 : decode cX1_measureLetter 33 = .ok (.iconst 2, 1) := by decide +kernel
theorem dX1_measureLetter_34 : decode cX1_measureLetter 34 = .ok (.iload_n 3, 1) := by decide +kernel
theorem dX1_measureLetter_35 : decode cX1_measureLetter 35 = .ok (.imul, 1) := by decide +kernel
theorem dX1_measureLetter_36 : decode cX1_measureLetter 36 = .ok (.istore 6, 2) := by decide +kernel
theorem dX1_measureLetter_38 : decode cX1_measureLetter 38 = .ok (.iload 5, 2) := by decide +kernel
theorem dX1_measureLetter_40 : decode cX1_measureLetter 40 = .ok (.ifCond .eq 7, 3) := by decide +kernel
theorem dX1_measureLetter_43 : decode cX1_measureLetter 43 = .ok (.iload_n 3, 1) := by decide +kernel
theorem dX1_measureLetter_44 : decode cX1_measureLetter 44 = .ok (.goto 4, 3) := by decide +kernel
theorem dX1_measureLetter_47 : decode cX1_measureLetter 47 = .ok (.iconst 0, 1) := by decide +kernel
theorem dX1_measureLetter_48 : decode cX1_measureLetter 48 = .ok (.istore 7, 2) := by decide +kernel
theorem dX1_measureLetter_50 : decode cX1_measureLetter 50 = .ok (.iload 4, 2) := by decide +kernel
theorem dX1_measureLetter_52 : decode cX1_measureLetter 52 = .ok (.iconst 2, 1) := by decide +kernel
theorem dX1_measureLetter_53 : decode cX1_measureLetter 53 = .ok (.imul, 1) := by decide +kernel
theorem dX1_measureLetter_54 : decode cX1_measureLetter 54 = .ok (.iload_n 3, 1) := by decide +kernel
theorem dX1_measureLetter_55 : decode cX1_measureLetter 55 = .ok (.imul, 1) := by decide +kernel
theorem dX1_measureLetter_56 : decode cX1_measureLetter 56 = .ok (.istore 8, 2) := by decide +kernel
theorem dX1_measureLetter_58 : decode cX1_measureLetter 58 = .ok (.iload 5, 2) := by decide +kernel
theorem dX1_measureLetter_60 : decode cX1_measureLetter 60 = .ok (.ifCond .eq 11, 3) := by decide +kernel
theorem dX1_measureLetter_63 : decode cX1_measureLetter 63 = .ok (.iload 4, 2) := by decide +kernel
theorem dX1_measureLetter_65 : decode cX1_measureLetter 65 = .ok (.ineg, 1) := by decide +kernel
theorem dX1_measureLetter_66 : decode cX1_measureLetter 66 = .ok (.iload_n 3, 1) := by decide +kernel
theorem dX1_measureLetter_67 : decode cX1_measureLetter 67 = .ok (.imul, 1) := by decide +kernel
theorem dX1_measureLetter_68 : decode cX1_measureLetter 68 = .ok (.goto 4, 3) := by decide +kernel
theorem dX1_measureLetter_71 : decode cX1_measureLetter 71 = .ok (.iconst 0, 1) := by decide +kernel
theorem dX1_measureLetter_72 : decode cX1_measureLetter 72 = .ok (.istore 9, 2) := by decide +kernel
theorem dX1_measureLetter_74 : decode cX1_measureLetter 74 = .ok (.iconst 0, 1) := by decide +kernel
theorem dX1_measureLetter_75 : decode cX1_measureLetter 75 = .ok (.istore 10, 2) := by decide +kernel
theorem dX1_measureLetter_77 : decode cX1_measureLetter 77 = .ok (.iload 10, 2) := by decide +kernel
theorem dX1_measureLetter_79 : decode cX1_measureLetter 79 = .ok (.bipush 8, 2) := by decide +kernel
theorem dX1_measureLetter_81 : decode cX1_measureLetter 81 = .ok (.if_icmp .ge 82, 3) := by decide +kernel
theorem dX1_measureLetter_84 : decode cX1_measureLetter 84 = .ok (.iload 6, 2) := by decide +kernel
theorem dX1_measureLetter_86 : decode cX1_measureLetter 86 = .ok (.i2l, 1) := by decide +kernel
theorem dX1_measureLetter_87 : decode cX1_measureLetter 87 = .ok (.iload 7, 2) := by decide +kernel
theorem dX1_measureLetter_89 : decode cX1_measureLetter 89 = .ok (.i2l, 1) := by decide +kernel
theorem dX1_measureLetter_90 : decode cX1_measureLetter 90 = .ok (.iload 8, 2) := by decide +kernel
theorem dX1_measureLetter_92 : decode cX1_measureLetter 92 = .ok (.i2l, 1) := by decide +kernel
theorem dX1_measureLetter_93 : decode cX1_measureLetter 93 = .ok (.iload 9, 2) := by decide +kernel
theorem dX1_measureLetter_95 : decode cX1_measureLetter 95 = .ok (.i2l, 1) := by decide +kernel
theorem dX1_measureLetter_96 : decode cX1_measureLetter 96 = .ok (.invokestatic 40, 3) := by decide +kernel
theorem dX1_measureLetter_99 : decode cX1_measureLetter 99 = .ok (.lstore 11, 2) := by decide +kernel
theorem dX1_measureLetter_101 : decode cX1_measureLetter 101 = .ok (.aload_n 0, 1) := by decide +kernel
theorem dX1_measureLetter_102 : decode cX1_measureLetter 102 = .ok (.getfield 9, 3) := by decide +kernel
theorem dX1_measureLetter_105 : decode cX1_measureLetter 105 = .ok (.iload 10, 2) := by decide +kernel
theorem dX1_measureLetter_107 : decode cX1_measureLetter 107 = .ok (.bipush 10, 2) := by decide +kernel
theorem dX1_measureLetter_109 : decode cX1_measureLetter 109 = .ok (.imul, 1) := by decide +kernel
theorem dX1_measureLetter_110 : decode cX1_measureLetter 110 = .ok (.iload_n 1, 1) := by decide +kernel
theorem dX1_measureLetter_111 : decode cX1_measureLetter 111 = .ok (.iadd, 1) := by decide +kernel
theorem dX1_measureLetter_112 : decode cX1_measureLetter 112 = .ok (.lload 11, 2) := by decide +kernel
theorem dX1_measureLetter_114 : decode cX1_measureLetter 114 = .ok (.invokestatic 46, 3) := by decide +kernel
theorem dX1_measureLetter_117 : decode cX1_measureLetter 117 = .ok (.iload 7, 2) := by decide +kernel
theorem dX1_measureLetter_119 : decode cX1_measureLetter 119 = .ok (.iload 9, 2) := by decide +kernel
theorem dX1_measureLetter_121 : decode cX1_measureLetter 121 = .ok (.isub, 1) := by decide +kernel
theorem dX1_measureLetter_122 : decode cX1_measureLetter 122 = .ok (.istore 13, 2) := by decide +kernel
theorem dX1_measureLetter_124 : decode cX1_measureLetter 124 = .ok (.iload 7, 2) := by decide +kernel
theorem dX1_measureLetter_126 : decode cX1_measureLetter 126 = .ok (.iload 9, 2) := by decide +kernel
theorem dX1_measureLetter_128 : decode cX1_measureLetter 128 = .ok (.iadd, 1) := by decide +kernel
theorem dX1_measureLetter_129 : decode cX1_measureLetter 129 = .ok (.istore 14, 2) := by decide +kernel
theorem dX1_measureLetter_131 : decode cX1_measureLetter 131 = .ok (.iload 6, 2) := by decide +kernel
theorem dX1_measureLetter_133 : decode cX1_measureLetter 133 = .ok (.iload 8, 2) := by decide +kernel
theorem dX1_measureLetter_135 : decode cX1_measureLetter 135 = .ok (.isub, 1) := by decide +kernel
theorem dX1_measureLetter_136 : decode cX1_measureLetter 136 = .ok (.iconst 2, 1) := by decide +kernel
theorem dX1_measureLetter_137 : decode cX1_measureLetter 137 = .ok (.idiv, 1) := by decide +kernel
theorem dX1_measureLetter_138 : decode cX1_measureLetter 138 = .ok (.istore 7, 2) := by decide +kernel
theorem dX1_measureLetter_140 : decode cX1_measureLetter 140 = .ok (.iload 6, 2) := by decide +kernel
theorem dX1_measureLetter_142 : decode cX1_measureLetter 142 = .ok (.iload 8, 2) := by decide +kernel
theorem dX1_measureLetter_144 : decode cX1_measureLetter 144 = .ok (.iadd, 1) := by decide +kernel
theorem dX1_measureLetter_145 : decode cX1_measureLetter 145 = .ok (.iconst 2, 1) := by decide +kernel
theorem dX1_measureLetter_146 : decode cX1_measureLetter 146 = .ok (.idiv, 1) := by decide +kernel
theorem dX1_measureLetter_147 : decode cX1_measureLetter 147 = .ok (.istore 9, 2) := by decide +kernel
theorem dX1_measureLetter_149 : decode cX1_measureLetter 149 = .ok (.iload 13, 2) := by decide +kernel
theorem dX1_measureLetter_151 : decode cX1_measureLetter 151 = .ok (.istore 6, 2) := by decide +kernel
theorem dX1_measureLetter_153 : decode cX1_measureLetter 153 = .ok (.iload 14, 2) := by decide +kernel
theorem dX1_measureLetter_155 : decode cX1_measureLetter 155 = .ok (.istore 8, 2) := by decide +kernel
theorem dX1_measureLetter_157 : decode cX1_measureLetter 157 = .ok (.iinc 10 1, 3) := by decide +kernel
theorem dX1_measureLetter_160 : decode cX1_measureLetter 160 = .ok (.goto (-83), 3) := by decide +kernel
theorem dX1_measureLetter_163 : decode cX1_measureLetter 163 = .ok (.return_, 1) := by decide +kernel
theorem dX2_signOf_0 : decode cX2_signOf 0 = .ok (.lload_n 0, 1) := by decide +kernel
theorem dX2_signOf_1 : decode cX2_signOf 1 = .ok (.lconst 0, 1) := by decide +kernel
theorem dX2_signOf_2 : decode cX2_signOf 2 = .ok (.lcmp, 1) := by decide +kernel
theorem dX2_signOf_3 : decode cX2_signOf 3 = .ok (.ifCond .ne 11, 3) := by decide +kernel
theorem dX2_signOf_6 : decode cX2_signOf 6 = .ok (.lload_n 2, 1) := by decide +kernel
theorem dX2_signOf_7 : decode cX2_signOf 7 = .ok (.lconst 0, 1) := by decide +kernel
theorem dX2_signOf_8 : decode cX2_signOf 8 = .ok (.lcmp, 1) := by decide +kernel
theorem dX2_signOf_9 : decode cX2_signOf 9 = .ok (.ifCond .ne 5, 3) := by decide +kernel
theorem dX2_signOf_12 : decode cX2_signOf 12 = .ok (.iconst 0, 1) := by decide +kernel
theorem dX2_signOf_13 : decode cX2_signOf 13 = .ok (.ireturn, 1) := by decide +kernel
theorem dX2_signOf_14 : decode cX2_signOf 14 = .ok (.lload_n 0, 1) := by decide +kernel
theorem dX2_signOf_15 : decode cX2_signOf 15 = .ok (.lconst 0, 1) := by decide +kernel
theorem dX2_signOf_16 : decode cX2_signOf 16 = .ok (.lcmp, 1) := by decide +kernel
theorem dX2_signOf_17 : decode cX2_signOf 17 = .ok (.ifCond .lt 11, 3) := by decide +kernel
theorem dX2_signOf_20 : decode cX2_signOf 20 = .ok (.lload_n 2, 1) := by decide +kernel
theorem dX2_signOf_21 : decode cX2_signOf 21 = .ok (.lconst 0, 1) := by decide +kernel
theorem dX2_signOf_22 : decode cX2_signOf 22 = .ok (.lcmp, 1) := by decide +kernel
theorem dX2_signOf_23 : decode cX2_signOf 23 = .ok (.ifCond .lt 5, 3) := by decide +kernel
theorem dX2_signOf_26 : decode cX2_signOf 26 = .ok (.iconst 1, 1) := by decide +kernel
theorem dX2_signOf_27 : decode cX2_signOf 27 = .ok (.ireturn, 1) := by decide +kernel
theorem dX2_signOf_28 : decode cX2_signOf 28 = .ok (.lload_n 0, 1) := by decide +kernel
theorem dX2_signOf_29 : decode cX2_signOf 29 = .ok (.lconst 0, 1) := by decide +kernel
theorem dX2_signOf_30 : decode cX2_signOf 30 = .ok (.lcmp, 1) := by decide +kernel
theorem dX2_signOf_31 : decode cX2_signOf 31 = .ok (.ifCond .gt 11, 3) := by decide +kernel
theorem dX2_signOf_34 : decode cX2_signOf 34 = .ok (.lload_n 2, 1) := by decide +kernel
theorem dX2_signOf_35 : decode cX2_signOf 35 = .ok (.lconst 0, 1) := by decide +kernel
theorem dX2_signOf_36 : decode cX2_signOf 36 = .ok (.lcmp, 1) := by decide +kernel
theorem dX2_signOf_37 : decode cX2_signOf 37 = .ok (.ifCond .gt 5, 3) := by decide +kernel
theorem dX2_signOf_40 : decode cX2_signOf 40 = .ok (.iconst (-1), 1) := by decide +kernel
theorem dX2_signOf_41 : decode cX2_signOf 41 = .ok (.ireturn, 1) := by decide +kernel
theorem dX2_signOf_42 : decode cX2_signOf 42 = .ok (.lload_n 0, 1) := by decide +kernel
theorem dX2_signOf_43 : decode cX2_signOf 43 = .ok (.lload_n 0, 1) := by decide +kernel
theorem dX2_signOf_44 : decode cX2_signOf 44 = .ok (.lmul, 1) := by decide +kernel
theorem dX2_signOf_45 : decode cX2_signOf 45 = .ok (.ldc2_w 7, 3) := by decide +kernel
theorem dX2_signOf_48 : decode cX2_signOf 48 = .ok (.lload_n 2, 1) := by decide +kernel
theorem dX2_signOf_49 : decode cX2_signOf 49 = .ok (.lmul, 1) := by decide +kernel
theorem dX2_signOf_50 : decode cX2_signOf 50 = .ok (.lload_n 2, 1) := by decide +kernel
theorem dX2_signOf_51 : decode cX2_signOf 51 = .ok (.lmul, 1) := by decide +kernel
theorem dX2_signOf_52 : decode cX2_signOf 52 = .ok (.lcmp, 1) := by decide +kernel
theorem dX2_signOf_53 : decode cX2_signOf 53 = .ok (.ifCond .le 7, 3) := by decide +kernel
theorem dX2_signOf_56 : decode cX2_signOf 56 = .ok (.iconst 1, 1) := by decide +kernel
theorem dX2_signOf_57 : decode cX2_signOf 57 = .ok (.goto 4, 3) := by decide +kernel
theorem dX2_signOf_60 : decode cX2_signOf 60 = .ok (.iconst 0, 1) := by decide +kernel
theorem dX2_signOf_61 : decode cX2_signOf 61 = .ok (.istore 4, 2) := by decide +kernel
theorem dX2_signOf_63 : decode cX2_signOf 63 = .ok (.lload_n 0, 1) := by decide +kernel
theorem dX2_signOf_64 : decode cX2_signOf 64 = .ok (.lconst 0, 1) := by decide +kernel
theorem dX2_signOf_65 : decode cX2_signOf 65 = .ok (.lcmp, 1) := by decide +kernel
theorem dX2_signOf_66 : decode cX2_signOf 66 = .ok (.ifCond .le 7, 3) := by decide +kernel
theorem dX2_signOf_69 : decode cX2_signOf 69 = .ok (.iconst 1, 1) := by decide +kernel
theorem dX2_signOf_70 : decode cX2_signOf 70 = .ok (.goto 4, 3) := by decide +kernel
theorem dX2_signOf_73 : decode cX2_signOf 73 = .ok (.iconst 0, 1) := by decide +kernel
theorem dX2_signOf_74 : decode cX2_signOf 74 = .ok (.iload 4, 2) := by decide +kernel
theorem dX2_signOf_76 : decode cX2_signOf 76 = .ok (.if_icmp .ne 7, 3) := by decide +kernel
theorem dX2_signOf_79 : decode cX2_signOf 79 = .ok (.iconst 1, 1) := by decide +kernel
theorem dX2_signOf_80 : decode cX2_signOf 80 = .ok (.goto 4, 3) := by decide +kernel
theorem dX2_signOf_83 : decode cX2_signOf 83 = .ok (.iconst (-1), 1) := by decide +kernel
theorem dX2_signOf_84 : decode cX2_signOf 84 = .ok (.ireturn, 1) := by decide +kernel
theorem dX2_place_0 : decode cX2_place 0 = .ok (.lload_n 0, 1) := by decide +kernel
theorem dX2_place_1 : decode cX2_place 1 = .ok (.bipush 48, 2) := by decide +kernel
theorem dX2_place_3 : decode cX2_place 3 = .ok (.lshl, 1) := by decide +kernel
theorem dX2_place_4 : decode cX2_place 4 = .ok (.lload_n 2, 1) := by decide +kernel
theorem dX2_place_5 : decode cX2_place 5 = .ok (.bipush 32, 2) := by decide +kernel
theorem dX2_place_7 : decode cX2_place 7 = .ok (.lshl, 1) := by decide +kernel
theorem dX2_place_8 : decode cX2_place 8 = .ok (.ladd, 1) := by decide +kernel
theorem dX2_place_9 : decode cX2_place 9 = .ok (.lload 4, 2) := by decide +kernel
theorem dX2_place_11 : decode cX2_place 11 = .ok (.bipush 16, 2) := by decide +kernel
theorem dX2_place_13 : decode cX2_place 13 = .ok (.lshl, 1) := by decide +kernel
theorem dX2_place_14 : decode cX2_place 14 = .ok (.ladd, 1) := by decide +kernel
theorem dX2_place_15 : decode cX2_place 15 = .ok (.lload 6, 2) := by decide +kernel
theorem dX2_place_17 : decode cX2_place 17 = .ok (.ladd, 1) := by decide +kernel
theorem dX2_place_18 : decode cX2_place 18 = .ok (.lreturn, 1) := by decide +kernel
theorem dX2_part_0 : decode cX2_part 0 = .ok (.lload_n 0, 1) := by decide +kernel
theorem dX2_part_1 : decode cX2_part 1 = .ok (.lstore_n 3, 1) := by decide +kernel
theorem dX2_part_2 : decode cX2_part 2 = .ok (.iconst 3, 1) := by decide +kernel
theorem dX2_part_3 : decode cX2_part 3 = .ok (.istore 5, 2) := by decide +kernel
theorem dX2_part_5 : decode cX2_part 5 = .ok (.iload 5, 2) := by decide +kernel
theorem dX2_part_7 : decode cX2_part 7 = .ok (.iload_n 2, 1) := by decide +kernel
theorem dX2_part_8 : decode cX2_part 8 = .ok (.if_icmp .le 19, 3) := by decide +kernel
theorem dX2_part_11 : decode cX2_part 11 = .ok (.lload_n 3, 1) := by decide +kernel
theorem dX2_part_12 : decode cX2_part 12 = .ok (.lload_n 3, 1) := by decide +kernel
theorem dX2_part_13 : decode cX2_part 13 = .ok (.l2i, 1) := by decide +kernel
theorem dX2_part_14 : decode cX2_part 14 = .ok (.i2s, 1) := by decide +kernel
theorem dX2_part_15 : decode cX2_part 15 = .ok (.i2l, 1) := by decide +kernel
theorem dX2_part_16 : decode cX2_part 16 = .ok (.lsub, 1) := by decide +kernel
theorem dX2_part_17 : decode cX2_part 17 = .ok (.bipush 16, 2) := by decide +kernel
theorem dX2_part_19 : decode cX2_part 19 = .ok (.lshr, 1) := by decide +kernel
theorem dX2_part_20 : decode cX2_part 20 = .ok (.lstore_n 3, 1) := by decide +kernel
theorem dX2_part_21 : decode cX2_part 21 = .ok (.iinc 5 (-1), 3) := by decide +kernel
theorem dX2_part_24 : decode cX2_part 24 = .ok (.goto (-19), 3) := by decide +kernel
theorem dX2_part_27 : decode cX2_part 27 = .ok (.lload_n 3, 1) := by decide +kernel
theorem dX2_part_28 : decode cX2_part 28 = .ok (.l2i, 1) := by decide +kernel
theorem dX2_part_29 : decode cX2_part 29 = .ok (.i2s, 1) := by decide +kernel
theorem dX2_part_30 : decode cX2_part 30 = .ok (.ireturn, 1) := by decide +kernel
theorem dX2_squareWhole_0 : decode cX2_squareWhole 0 = .ok (.lload_n 0, 1) := by decide +kernel
theorem dX2_squareWhole_1 : decode cX2_squareWhole 1 = .ok (.iconst 0, 1) := by decide +kernel
theorem dX2_squareWhole_2 : decode cX2_squareWhole 2 = .ok (.invokestatic 9, 3) := by decide +kernel
theorem dX2_squareWhole_5 : decode cX2_squareWhole 5 = .ok (.i2l, 1) := by decide +kernel
theorem dX2_squareWhole_6 : decode cX2_squareWhole 6 = .ok (.lstore_n 2, 1) := by decide +kernel
theorem dX2_squareWhole_7 : decode cX2_squareWhole 7 = .ok (.lload_n 0, 1) := by decide +kernel
theorem dX2_squareWhole_8 : decode cX2_squareWhole 8 = .ok (.iconst 1, 1) := by decide +kernel
theorem dX2_squareWhole_9 : decode cX2_squareWhole 9 = .ok (.invokestatic 9, 3) := by decide +kernel
theorem dX2_squareWhole_12 : decode cX2_squareWhole 12 = .ok (.i2l, 1) := by decide +kernel
theorem dX2_squareWhole_13 : decode cX2_squareWhole 13 = .ok (.lstore 4, 2) := by decide +kernel
theorem dX2_squareWhole_15 : decode cX2_squareWhole 15 = .ok (.lload_n 0, 1) := by decide +kernel
theorem dX2_squareWhole_16 : decode cX2_squareWhole 16 = .ok (.iconst 2, 1) := by decide +kernel
theorem dX2_squareWhole_17 : decode cX2_squareWhole 17 = .ok (.invokestatic 9, 3) := by decide +kernel
theorem dX2_squareWhole_20 : decode cX2_squareWhole 20 = .ok (.i2l, 1) := by decide +kernel
theorem dX2_squareWhole_21 : decode cX2_squareWhole 21 = .ok (.lstore 6, 2) := by decide +kernel
theorem dX2_squareWhole_23 : decode cX2_squareWhole 23 = .ok (.lload_n 0, 1) := by decide +kernel
theorem dX2_squareWhole_24 : decode cX2_squareWhole 24 = .ok (.iconst 3, 1) := by decide +kernel
theorem dX2_squareWhole_25 : decode cX2_squareWhole 25 = .ok (.invokestatic 9, 3) := by decide +kernel
theorem dX2_squareWhole_28 : decode cX2_squareWhole 28 = .ok (.i2l, 1) := by decide +kernel
theorem dX2_squareWhole_29 : decode cX2_squareWhole 29 = .ok (.lstore 8, 2) := by decide +kernel
theorem dX2_squareWhole_31 : decode cX2_squareWhole 31 = .ok (.lload_n 2, 1) := by decide +kernel
theorem dX2_squareWhole_32 : decode cX2_squareWhole 32 = .ok (.lload_n 2, 1) := by decide +kernel
theorem dX2_squareWhole_33 : decode cX2_squareWhole 33 = .ok (.lmul, 1) := by decide +kernel
theorem dX2_squareWhole_34 : decode cX2_squareWhole 34 = .ok (.lload 6, 2) := by decide +kernel
theorem dX2_squareWhole_36 : decode cX2_squareWhole 36 = .ok (.lload 6, 2) := by decide +kernel
theorem dX2_squareWhole_38 : decode cX2_squareWhole 38 = .ok (.lmul, 1) := by decide +kernel
theorem dX2_squareWhole_39 : decode cX2_squareWhole 39 = .ok (.ladd, 1) := by decide +kernel
theorem dX2_squareWhole_40 : decode cX2_squareWhole 40 = .ok (.ldc2_w 7, 3) := by decide +kernel
theorem dX2_squareWhole_43 : decode cX2_squareWhole 43 = .ok (.lload 4, 2) := by decide +kernel
theorem dX2_squareWhole_45 : decode cX2_squareWhole 45 = .ok (.lload 4, 2) := by decide +kernel
theorem dX2_squareWhole_47 : decode cX2_squareWhole 47 = .ok (.lmul, 1) := by decide +kernel
theorem dX2_squareWhole_48 : decode cX2_squareWhole 48 = .ok (.lload 8, 2) := by decide +kernel
theorem dX2_squareWhole_50 : decode cX2_squareWhole 50 = .ok (.lload 8, 2) := by decide +kernel
theorem dX2_squareWhole_52 : decode cX2_squareWhole 52 = .ok (.lmul, 1) := by decide +kernel
theorem dX2_squareWhole_53 : decode cX2_squareWhole 53 = .ok (.ladd, 1) := by decide +kernel
theorem dX2_squareWhole_54 : decode cX2_squareWhole 54 = .ok (.lmul, 1) := by decide +kernel
theorem dX2_squareWhole_55 : decode cX2_squareWhole 55 = .ok (.ladd, 1) := by decide +kernel
theorem dX2_squareWhole_56 : decode cX2_squareWhole 56 = .ok (.lreturn, 1) := by decide +kernel
theorem dX2_squareRoot_0 : decode cX2_squareRoot 0 = .ok (.lload_n 0, 1) := by decide +kernel
theorem dX2_squareRoot_1 : decode cX2_squareRoot 1 = .ok (.iconst 0, 1) := by decide +kernel
theorem dX2_squareRoot_2 : decode cX2_squareRoot 2 = .ok (.invokestatic 9, 3) := by decide +kernel
theorem dX2_squareRoot_5 : decode cX2_squareRoot 5 = .ok (.i2l, 1) := by decide +kernel
theorem dX2_squareRoot_6 : decode cX2_squareRoot 6 = .ok (.lload_n 0, 1) := by decide +kernel
theorem dX2_squareRoot_7 : decode cX2_squareRoot 7 = .ok (.iconst 1, 1) := by decide +kernel
theorem dX2_squareRoot_8 : decode cX2_squareRoot 8 = .ok (.invokestatic 9, 3) := by decide +kernel
theorem dX2_squareRoot_11 : decode cX2_squareRoot 11 = .ok (.i2l, 1) := by decide +kernel
theorem dX2_squareRoot_12 : decode cX2_squareRoot 12 = .ok (.lmul, 1) := by decide +kernel
theorem dX2_squareRoot_13 : decode cX2_squareRoot 13 = .ok (.lstore_n 2, 1) := by decide +kernel
theorem dX2_squareRoot_14 : decode cX2_squareRoot 14 = .ok (.lload_n 0, 1) := by decide +kernel
theorem dX2_squareRoot_15 : decode cX2_squareRoot 15 = .ok (.iconst 2, 1) := by decide +kernel
theorem dX2_squareRoot_16 : decode cX2_squareRoot 16 = .ok (.invokestatic 9, 3) := by decide +kernel
theorem dX2_squareRoot_19 : decode cX2_squareRoot 19 = .ok (.i2l, 1) := by decide +kernel
theorem dX2_squareRoot_20 : decode cX2_squareRoot 20 = .ok (.lload_n 0, 1) := by decide +kernel
theorem dX2_squareRoot_21 : decode cX2_squareRoot 21 = .ok (.iconst 3, 1) := by decide +kernel
theorem dX2_squareRoot_22 : decode cX2_squareRoot 22 = .ok (.invokestatic 9, 3) := by decide +kernel
theorem dX2_squareRoot_25 : decode cX2_squareRoot 25 = .ok (.i2l, 1) := by decide +kernel
theorem dX2_squareRoot_26 : decode cX2_squareRoot 26 = .ok (.lmul, 1) := by decide +kernel
theorem dX2_squareRoot_27 : decode cX2_squareRoot 27 = .ok (.lstore 4, 2) := by decide +kernel
theorem dX2_squareRoot_29 : decode cX2_squareRoot 29 = .ok (.ldc2_w 7, 3) := by decide +kernel
theorem dX2_squareRoot_32 : decode cX2_squareRoot 32 = .ok (.lload_n 2, 1) := by decide +kernel
theorem dX2_squareRoot_33 : decode cX2_squareRoot 33 = .ok (.lload 4, 2) := by decide +kernel
theorem dX2_squareRoot_35 : decode cX2_squareRoot 35 = .ok (.ladd, 1) := by decide +kernel
theorem dX2_squareRoot_36 : decode cX2_squareRoot 36 = .ok (.lmul, 1) := by decide +kernel
theorem dX2_squareRoot_37 : decode cX2_squareRoot 37 = .ok (.lreturn, 1) := by decide +kernel
theorem dX3_init_0 : decode cX3_init 0 = .ok (.aload_n 0, 1) := by decide +kernel
theorem dX3_init_1 : decode cX3_init 1 = .ok (.invokespecial 3, 3) := by decide +kernel
theorem dX3_init_4 : decode cX3_init 4 = .ok (.aload_n 0, 1) := by decide +kernel
theorem dX3_init_5 : decode cX3_init 5 = .ok (.sipush 1000, 3) := by decide +kernel
theorem dX3_init_8 : decode cX3_init 8 = .ok (.newarray .long, 2) := by decide +kernel
theorem dX3_init_10 : decode cX3_init 10 = .ok (.putfield 11, 3) := by decide +kernel
theorem dX3_init_13 : decode cX3_init 13 = .ok (.aload_n 0, 1) := by decide +kernel
theorem dX3_init_14 : decode cX3_init 14 = .ok (.sipush 1000, 3) := by decide +kernel
theorem dX3_init_17 : decode cX3_init 17 = .ok (.newarray .int, 2) := by decide +kernel
theorem dX3_init_19 : decode cX3_init 19 = .ok (.putfield 15, 3) := by decide +kernel
theorem dX3_init_22 : decode cX3_init 22 = .ok (.aload_n 0, 1) := by decide +kernel
theorem dX3_init_23 : decode cX3_init 23 = .ok (.sipush 1024, 3) := by decide +kernel
theorem dX3_init_26 : decode cX3_init 26 = .ok (.newarray .int, 2) := by decide +kernel
theorem dX3_init_28 : decode cX3_init 28 = .ok (.putfield 19, 3) := by decide +kernel
theorem dX3_init_31 : decode cX3_init 31 = .ok (.aload_n 0, 1) := by decide +kernel
theorem dX3_init_32 : decode cX3_init 32 = .ok (.bipush 6, 2) := by decide +kernel
theorem dX3_init_34 : decode cX3_init 34 = .ok (.newarray .int, 2) := by decide +kernel
theorem dX3_init_36 : decode cX3_init 36 = .ok (.putfield 22, 3) := by decide +kernel
theorem dX3_init_39 : decode cX3_init 39 = .ok (.aload_n 0, 1) := by decide +kernel
theorem dX3_init_40 : decode cX3_init 40 = .ok (.bipush 7, 2) := by decide +kernel
theorem dX3_init_42 : decode cX3_init 42 = .ok (.newarray .int, 2) := by decide +kernel
theorem dX3_init_44 : decode cX3_init 44 = .ok (.putfield 25, 3) := by decide +kernel
theorem dX3_init_47 : decode cX3_init 47 = .ok (.aload_n 0, 1) := by decide +kernel
theorem dX3_init_48 : decode cX3_init 48 = .ok (.aload_n 1, 1) := by decide +kernel
theorem dX3_init_49 : decode cX3_init 49 = .ok (.putfield 28, 3) := by decide +kernel
theorem dX3_init_52 : decode cX3_init 52 = .ok (.aload_n 0, 1) := by decide +kernel
theorem dX3_init_53 : decode cX3_init 53 = .ok (.aload_n 2, 1) := by decide +kernel
theorem dX3_init_54 : decode cX3_init 54 = .ok (.putfield 32, 3) := by decide +kernel
theorem dX3_init_57 : decode cX3_init 57 = .ok (.aload_n 0, 1) := by decide +kernel
theorem dX3_init_58 : decode cX3_init 58 = .ok (.aload_n 3, 1) := by decide +kernel
theorem dX3_init_59 : decode cX3_init 59 = .ok (.putfield 36, 3) := by decide +kernel
theorem dX3_init_62 : decode cX3_init 62 = .ok (.return_, 1) := by decide +kernel
theorem dX3_forget_0 : decode cX3_forget 0 = .ok (.aload_n 0, 1) := by decide +kernel
theorem dX3_forget_1 : decode cX3_forget 1 = .ok (.iconst 0, 1) := by decide +kernel
theorem dX3_forget_2 : decode cX3_forget 2 = .ok (.putfield 40, 3) := by decide +kernel
theorem dX3_forget_5 : decode cX3_forget 5 = .ok (.return_, 1) := by decide +kernel
theorem dX3_through_0 : decode cX3_through 0 = .ok (.aload_n 0, 1) := by decide +kernel
theorem dX3_through_1 : decode cX3_through 1 = .ok (.invokevirtual 44, 3) := by decide +kernel
theorem dX3_through_4 : decode cX3_through 4 = .ok (.aload_n 0, 1) := by decide +kernel
theorem dX3_through_5 : decode cX3_through 5 = .ok (.iconst 0, 1) := by decide +kernel
theorem dX3_through_6 : decode cX3_through 6 = .ok (.putfield 47, 3) := by decide +kernel
theorem dX3_through_9 : decode cX3_through 9 = .ok (.aload_n 0, 1) := by decide +kernel
theorem dX3_through_10 : decode cX3_through 10 = .ok (.getfield 25, 3) := by decide +kernel
theorem dX3_through_13 : decode cX3_through 13 = .ok (.iconst 0, 1) := by decide +kernel
theorem dX3_through_14 : decode cX3_through 14 = .ok (.invokestatic 51, 3) := by decide +kernel
theorem dX3_through_17 : decode cX3_through 17 = .ok (.iload_n 1, 1) := by decide +kernel
theorem dX3_through_18 : decode cX3_through 18 = .ok (.iconst 3, 1) := by decide +kernel
theorem dX3_through_19 : decode cX3_through 19 = .ok (.if_icmp .lt 9, 3) := by decide +kernel
theorem dX3_through_22 : decode cX3_through 22 = .ok (.iload_n 1, 1) := by decide +kernel
theorem dX3_through_23 : decode cX3_through 23 = .ok (.bipush 6, 2) := by decide +kernel
theorem dX3_through_25 : decode cX3_through 25 = .ok (.if_icmp .le 4, 3) := by decide +kernel
theorem dX3_through_28 : decode cX3_through 28 = .ok (.return_, 1) := by decide +kernel
theorem dX3_through_29 : decode cX3_through 29 = .ok (.iconst 1, 1) := by decide +kernel
theorem dX3_through_30 : decode cX3_through 30 = .ok (.istore 5, 2) := by decide +kernel
theorem dX3_through_32 : decode cX3_through 32 = .ok (.iconst 3, 1) := by decide +kernel
theorem dX3_through_33 : decode cX3_through 33 = .ok (.istore 6, 2) := by decide +kernel
theorem dX3_through_35 : decode cX3_through 35 = .ok (.iload 6, 2) := by decide +kernel
theorem dX3_through_37 : decode cX3_through 37 = .ok (.iload_n 1, 1) := by decide +kernel
theorem dX3_through_38 : decode cX3_through 38 = .ok (.if_icmp .ge 16, 3) := by decide +kernel
theorem dX3_through_41 : decode cX3_through 41 = .ok (.iload 5, 2) := by decide +kernel
theorem dX3_through_43 : decode cX3_through 43 = .ok (.bipush 10, 2) := by decide +kernel
theorem dX3_through_45 : decode cX3_through 45 = .ok (.imul, 1) := by decide +kernel
theorem dX3_through_46 : decode cX3_through 46 = .ok (.istore 5, 2) := by decide +kernel
theorem dX3_through_48 : decode cX3_through 48 = .ok (.iinc 6 1, 3) := by decide +kernel
theorem dX3_through_51 : decode cX3_through 51 = .ok (.goto (-16), 3) := by decide +kernel
theorem dX3_through_54 : decode cX3_through 54 = .ok (.iconst 0, 1) := by decide +kernel
theorem dX3_through_55 : decode cX3_through 55 = .ok (.istore 6, 2) := by decide +kernel
theorem dX3_through_57 : decode cX3_through 57 = .ok (.iload 6, 2) := by decide +kernel
theorem dX3_through_59 : decode cX3_through 59 = .ok (.iload 5, 2) := by decide +kernel
theorem dX3_through_61 : decode cX3_through 61 = .ok (.if_icmp .ge 58, 3) := by decide +kernel
theorem dX3_through_64 : decode cX3_through 64 = .ok (.aload_n 0, 1) := by decide +kernel
theorem dX3_through_65 : decode cX3_through 65 = .ok (.getfield 47, 3) := by decide +kernel
theorem dX3_through_68 : decode cX3_through 68 = .ok (.iload 4, 2) := by decide +kernel
theorem dX3_through_70 : decode cX3_through 70 = .ok (.if_icmp .gt 49, 3) := by decide +kernel
theorem dX3_through_73 : decode cX3_through 73 = .ok (.aload_n 0, 1) := by decide +kernel
theorem dX3_through_74 : decode cX3_through 74 = .ok (.iconst 0, 1) := by decide +kernel
theorem dX3_through_75 : decode cX3_through 75 = .ok (.iload_n 1, 1) := by decide +kernel
theorem dX3_through_76 : decode cX3_through 76 = .ok (.iconst 3, 1) := by decide +kernel
theorem dX3_through_77 : decode cX3_through 77 = .ok (.isub, 1) := by decide +kernel
theorem dX3_through_78 : decode cX3_through 78 = .ok (.iload 6, 2) := by decide +kernel
theorem dX3_through_80 : decode cX3_through 80 = .ok (.invokevirtual 57, 3) := by decide +kernel
theorem dX3_through_83 : decode cX3_through 83 = .ok (.aload_n 0, 1) := by decide +kernel
theorem dX3_through_84 : decode cX3_through 84 = .ok (.iload_n 1, 1) := by decide +kernel
theorem dX3_through_85 : decode cX3_through 85 = .ok (.iconst 3, 1) := by decide +kernel
theorem dX3_through_86 : decode cX3_through 86 = .ok (.isub, 1) := by decide +kernel
theorem dX3_through_87 : decode cX3_through 87 = .ok (.invokevirtual 61, 3) := by decide +kernel
theorem dX3_through_90 : decode cX3_through 90 = .ok (.ifCond .eq 23, 3) := by decide +kernel
theorem dX3_through_93 : decode cX3_through 93 = .ok (.aload_n 0, 1) := by decide +kernel
theorem dX3_through_94 : decode cX3_through 94 = .ok (.iload_n 1, 1) := by decide +kernel
theorem dX3_through_95 : decode cX3_through 95 = .ok (.iconst 3, 1) := by decide +kernel
theorem dX3_through_96 : decode cX3_through 96 = .ok (.isub, 1) := by decide +kernel
theorem dX3_through_97 : decode cX3_through 97 = .ok (.iload_n 3, 1) := by decide +kernel
theorem dX3_through_98 : decode cX3_through 98 = .ok (.invokevirtual 65, 3) := by decide +kernel
theorem dX3_through_101 : decode cX3_through 101 = .ok (.ifCond .lt 12, 3) := by decide +kernel
theorem dX3_through_104 : decode cX3_through 104 = .ok (.aload_n 0, 1) := by decide +kernel
theorem dX3_through_105 : decode cX3_through 105 = .ok (.iload_n 1, 1) := by decide +kernel
theorem dX3_through_106 : decode cX3_through 106 = .ok (.iload_n 2, 1) := by decide +kernel
theorem dX3_through_107 : decode cX3_through 107 = .ok (.iload_n 3, 1) := by decide +kernel
theorem dX3_through_108 : decode cX3_through 108 = .ok (.iload 4, 2) := by decide +kernel
theorem dX3_through_110 : decode cX3_through 110 = .ok (.invokevirtual 69, 3) := by decide +kernel
theorem dX3_through_113 : decode cX3_through 113 = .ok (.iinc 6 1, 3) := by decide +kernel
theorem dX3_through_116 : decode cX3_through 116 = .ok (.goto (-59), 3) := by decide +kernel
theorem dX3_through_119 : decode cX3_through 119 = .ok (.return_, 1) := by decide +kernel
theorem dX3_throughTails_0 : decode cX3_throughTails 0 = .ok (.iload_n 1, 1) := by decide +kernel
theorem dX3_throughTails_1 : decode cX3_throughTails 1 = .ok (.iconst 3, 1) := by decide +kernel
theorem dX3_throughTails_2 : decode cX3_throughTails 2 = .ok (.isub, 1) := by decide +kernel
theorem dX3_throughTails_3 : decode cX3_throughTails 3 = .ok (.istore 5, 2) := by decide +kernel
theorem dX3_throughTails_5 : decode cX3_throughTails 5 = .ok (.aload_n 0, 1) := by decide +kernel
theorem dX3_throughTails_6 : decode cX3_throughTails 6 = .ok (.iload 5, 2) := by decide +kernel
theorem dX3_throughTails_8 : decode cX3_throughTails 8 = .ok (.iconst 1, 1) := by decide +kernel
theorem dX3_throughTails_9 : decode cX3_throughTails 9 = .ok (.invokevirtual 73, 3) := by decide +kernel
theorem dX3_throughTails_12 : decode cX3_throughTails 12 = .ok (.lstore 6, 2) := by decide +kernel
theorem dX3_throughTails_14 : decode cX3_throughTails 14 = .ok (.aload_n 0, 1) := by decide +kernel
theorem dX3_throughTails_15 : decode cX3_throughTails 15 = .ok (.getfield 19, 3) := by decide +kernel
theorem dX3_throughTails_18 : decode cX3_throughTails 18 = .ok (.lload 6, 2) := by decide +kernel
theorem dX3_throughTails_20 : decode cX3_throughTails 20 = .ok (.invokestatic 77, 3) := by decide +kernel
theorem dX3_throughTails_23 : decode cX3_throughTails 23 = .ok (.invokestatic 81, 3) := by decide +kernel
theorem dX3_throughTails_26 : decode cX3_throughTails 26 = .ok (.istore 8, 2) := by decide +kernel
theorem dX3_throughTails_28 : decode cX3_throughTails 28 = .ok (.iconst 0, 1) := by decide +kernel
theorem dX3_throughTails_29 : decode cX3_throughTails 29 = .ok (.istore 9, 2) := by decide +kernel
theorem dX3_throughTails_31 : decode cX3_throughTails 31 = .ok (.iload 9, 2) := by decide +kernel
theorem dX3_throughTails_33 : decode cX3_throughTails 33 = .ok (.sipush 1000, 3) := by decide +kernel
theorem dX3_throughTails_36 : decode cX3_throughTails 36 = .ok (.if_icmp .ge 70, 3) := by decide +kernel
theorem dX3_throughTails_39 : decode cX3_throughTails 39 = .ok (.iload 8, 2) := by decide +kernel
theorem dX3_throughTails_41 : decode cX3_throughTails 41 = .ok (.ifCond .lt 65, 3) := by decide +kernel
theorem dX3_throughTails_44 : decode cX3_throughTails 44 = .ok (.aload_n 0, 1) := by decide +kernel
theorem dX3_throughTails_45 : decode cX3_throughTails 45 = .ok (.getfield 47, 3) := by decide +kernel
theorem dX3_throughTails_48 : decode cX3_throughTails 48 = .ok (.iload 4, 2) := by decide +kernel
theorem dX3_throughTails_50 : decode cX3_throughTails 50 = .ok (.if_icmp .gt 56, 3) := by decide +kernel
theorem dX3_throughTails_53 : decode cX3_throughTails 53 = .ok (.aload_n 0, 1) := by decide +kernel
theorem dX3_throughTails_54 : decode cX3_throughTails 54 = .ok (.getfield 11, 3) := by decide +kernel
theorem dX3_throughTails_57 : decode cX3_throughTails 57 = .ok (.iload 8, 2) := by decide +kernel
theorem dX3_throughTails_59 : decode cX3_throughTails 59 = .ok (.invokestatic 85, 3) := by decide +kernel
theorem dX3_throughTails_62 : decode cX3_throughTails 62 = .ok (.lload 6, 2) := by decide +kernel
theorem dX3_throughTails_64 : decode cX3_throughTails 64 = .ok (.lcmp, 1) := by decide +kernel
theorem dX3_throughTails_65 : decode cX3_throughTails 65 = .ok (.ifCond .ne 24, 3) := by decide +kernel
theorem dX3_throughTails_68 : decode cX3_throughTails 68 = .ok (.aload_n 0, 1) := by decide +kernel
theorem dX3_throughTails_69 : decode cX3_throughTails 69 = .ok (.iload 5, 2) := by decide +kernel
theorem dX3_throughTails_71 : decode cX3_throughTails 71 = .ok (.iconst 3, 1) := by decide +kernel
theorem dX3_throughTails_72 : decode cX3_throughTails 72 = .ok (.iload 8, 2) := by decide +kernel
theorem dX3_throughTails_74 : decode cX3_throughTails 74 = .ok (.invokevirtual 57, 3) := by decide +kernel
theorem dX3_throughTails_77 : decode cX3_throughTails 77 = .ok (.aload_n 0, 1) := by decide +kernel
theorem dX3_throughTails_78 : decode cX3_throughTails 78 = .ok (.iload_n 1, 1) := by decide +kernel
theorem dX3_throughTails_79 : decode cX3_throughTails 79 = .ok (.iload_n 2, 1) := by decide +kernel
theorem dX3_throughTails_80 : decode cX3_throughTails 80 = .ok (.aload_n 0, 1) := by decide +kernel
theorem dX3_throughTails_81 : decode cX3_throughTails 81 = .ok (.iload_n 1, 1) := by decide +kernel
theorem dX3_throughTails_82 : decode cX3_throughTails 82 = .ok (.iload_n 3, 1) := by decide +kernel
theorem dX3_throughTails_83 : decode cX3_throughTails 83 = .ok (.invokevirtual 65, 3) := by decide +kernel
theorem dX3_throughTails_86 : decode cX3_throughTails 86 = .ok (.invokevirtual 89, 3) := by decide +kernel
theorem dX3_throughTails_89 : decode cX3_throughTails 89 = .ok (.aload_n 0, 1) := by decide +kernel
theorem dX3_throughTails_90 : decode cX3_throughTails 90 = .ok (.getfield 15, 3) := by decide +kernel
theorem dX3_throughTails_93 : decode cX3_throughTails 93 = .ok (.iload 8, 2) := by decide +kernel
theorem dX3_throughTails_95 : decode cX3_throughTails 95 = .ok (.invokestatic 81, 3) := by decide +kernel
theorem dX3_throughTails_98 : decode cX3_throughTails 98 = .ok (.istore 8, 2) := by decide +kernel
theorem dX3_throughTails_100 : decode cX3_throughTails 100 = .ok (.iinc 9 1, 3) := by decide +kernel
theorem dX3_throughTails_103 : decode cX3_throughTails 103 = .ok (.goto (-72), 3) := by decide +kernel
theorem dX3_throughTails_106 : decode cX3_throughTails 106 = .ok (.return_, 1) := by decide +kernel
theorem dX3_countRing_0 : decode cX3_countRing 0 = .ok (.iload_n 3, 1) := by decide +kernel
theorem dX3_countRing_1 : decode cX3_countRing 1 = .ok (.ifCond .lt 11, 3) := by decide +kernel
theorem dX3_countRing_4 : decode cX3_countRing 4 = .ok (.aload_n 0, 1) := by decide +kernel
theorem dX3_countRing_5 : decode cX3_countRing 5 = .ok (.iload_n 1, 1) := by decide +kernel
theorem dX3_countRing_6 : decode cX3_countRing 6 = .ok (.invokevirtual 93, 3) := by decide +kernel
theorem dX3_countRing_9 : decode cX3_countRing 9 = .ok (.ifCond .ne 4, 3) := by decide +kernel
theorem dX3_countRing_12 : decode cX3_countRing 12 = .ok (.return_, 1) := by decide +kernel
theorem dX3_countRing_13 : decode cX3_countRing 13 = .ok (.iload_n 2, 1) := by decide +kernel
theorem dX3_countRing_14 : decode cX3_countRing 14 = .ok (.ifCond .eq 44, 3) := by decide +kernel
theorem dX3_countRing_17 : decode cX3_countRing 17 = .ok (.aload_n 0, 1) := by decide +kernel
theorem dX3_countRing_18 : decode cX3_countRing 18 = .ok (.getfield 36, 3) := by decide +kernel
theorem dX3_countRing_21 : decode cX3_countRing 21 = .ok (.aload_n 0, 1) := by decide +kernel
theorem dX3_countRing_22 : decode cX3_countRing 22 = .ok (.getfield 22, 3) := by decide +kernel
theorem dX3_countRing_25 : decode cX3_countRing 25 = .ok (.iload_n 1, 1) := by decide +kernel
theorem dX3_countRing_26 : decode cX3_countRing 26 = .ok (.invokevirtual 96, 3) := by decide +kernel
theorem dX3_countRing_29 : decode cX3_countRing 29 = .ok (.aload_n 0, 1) := by decide +kernel
theorem dX3_countRing_30 : decode cX3_countRing 30 = .ok (.getfield 28, 3) := by decide +kernel
theorem dX3_countRing_33 : decode cX3_countRing 33 = .ok (.aload_n 0, 1) := by decide +kernel
theorem dX3_countRing_34 : decode cX3_countRing 34 = .ok (.getfield 36, 3) := by decide +kernel
theorem dX3_countRing_37 : decode cX3_countRing 37 = .ok (.invokevirtual 101, 3) := by decide +kernel
theorem dX3_countRing_40 : decode cX3_countRing 40 = .ok (.bipush (-9), 2) := by decide +kernel
theorem dX3_countRing_42 : decode cX3_countRing 42 = .ok (.if_icmp .ne 15, 3) := by decide +kernel
theorem dX3_countRing_45 : decode cX3_countRing 45 = .ok (.aload_n 0, 1) := by decide +kernel
theorem dX3_countRing_46 : decode cX3_countRing 46 = .ok (.getfield 36, 3) := by decide +kernel
theorem dX3_countRing_49 : decode cX3_countRing 49 = .ok (.invokevirtual 107, 3) := by decide +kernel
theorem dX3_countRing_52 : decode cX3_countRing 52 = .ok (.bipush (-9), 2) := by decide +kernel
theorem dX3_countRing_54 : decode cX3_countRing 54 = .ok (.if_icmp .eq 4, 3) := by decide +kernel
theorem dX3_countRing_57 : decode cX3_countRing 57 = .ok (.return_, 1) := by decide +kernel
theorem dX3_countRing_58 : decode cX3_countRing 58 = .ok (.iload_n 3, 1) := by decide +kernel
theorem dX3_countRing_59 : decode cX3_countRing 59 = .ok (.ifCond .ne 16, 3) := by decide +kernel
theorem dX3_countRing_62 : decode cX3_countRing 62 = .ok (.aload_n 0, 1) := by decide +kernel
theorem dX3_countRing_63 : decode cX3_countRing 63 = .ok (.dup, 1) := by decide +kernel
theorem dX3_countRing_64 : decode cX3_countRing 64 = .ok (.getfield 47, 3) := by decide +kernel
theorem dX3_countRing_67 : decode cX3_countRing 67 = .ok (.iconst 1, 1) := by decide +kernel
theorem dX3_countRing_68 : decode cX3_countRing 68 = .ok (.iadd, 1) := by decide +kernel
theorem dX3_countRing_69 : decode cX3_countRing 69 = .ok (.putfield 47, 3) := by decide +kernel
theorem dX3_countRing_72 : decode cX3_countRing 72 = .ok (.goto 37, 3) := by decide +kernel
theorem dX3_countRing_75 : decode cX3_countRing 75 = .ok (.aload_n 0, 1) := by decide +kernel
theorem dX3_countRing_76 : decode cX3_countRing 76 = .ok (.getfield 28, 3) := by decide +kernel
theorem dX3_countRing_79 : decode cX3_countRing 79 = .ok (.aload_n 0, 1) := by decide +kernel
theorem dX3_countRing_80 : decode cX3_countRing 80 = .ok (.getfield 22, 3) := by decide +kernel
theorem dX3_countRing_83 : decode cX3_countRing 83 = .ok (.iload_n 1, 1) := by decide +kernel
theorem dX3_countRing_84 : decode cX3_countRing 84 = .ok (.invokevirtual 111, 3) := by decide +kernel
theorem dX3_countRing_87 : decode cX3_countRing 87 = .ok (.istore 4, 2) := by decide +kernel
theorem dX3_countRing_89 : decode cX3_countRing 89 = .ok (.aload_n 0, 1) := by decide +kernel
theorem dX3_countRing_90 : decode cX3_countRing 90 = .ok (.getfield 25, 3) := by decide +kernel
theorem dX3_countRing_93 : decode cX3_countRing 93 = .ok (.iload 4, 2) := by decide +kernel
theorem dX3_countRing_95 : decode cX3_countRing 95 = .ok (.aload_n 0, 1) := by decide +kernel
theorem dX3_countRing_96 : decode cX3_countRing 96 = .ok (.getfield 25, 3) := by decide +kernel
theorem dX3_countRing_99 : decode cX3_countRing 99 = .ok (.iload 4, 2) := by decide +kernel
theorem dX3_countRing_101 : decode cX3_countRing 101 = .ok (.invokestatic 81, 3) := by decide +kernel
theorem dX3_countRing_104 : decode cX3_countRing 104 = .ok (.iconst 1, 1) := by decide +kernel
theorem dX3_countRing_105 : decode cX3_countRing 105 = .ok (.iadd, 1) := by decide +kernel
theorem dX3_countRing_106 : decode cX3_countRing 106 = .ok (.invokestatic 114, 3) := by decide +kernel
theorem dX3_countRing_109 : decode cX3_countRing 109 = .ok (.return_, 1) := by decide +kernel
theorem dX3_lacks_0 : decode cX3_lacks 0 = .ok (.aload_n 0, 1) := by decide +kernel
theorem dX3_lacks_1 : decode cX3_lacks 1 = .ok (.getfield 28, 3) := by decide +kernel
theorem dX3_lacks_4 : decode cX3_lacks 4 = .ok (.aload_n 0, 1) := by decide +kernel
theorem dX3_lacks_5 : decode cX3_lacks 5 = .ok (.getfield 22, 3) := by decide +kernel
theorem dX3_lacks_8 : decode cX3_lacks 8 = .ok (.iload_n 1, 1) := by decide +kernel
theorem dX3_lacks_9 : decode cX3_lacks 9 = .ok (.invokevirtual 118, 3) := by decide +kernel
theorem dX3_lacks_12 : decode cX3_lacks 12 = .ok (.istore_n 3, 1) := by decide +kernel
theorem dX3_lacks_13 : decode cX3_lacks 13 = .ok (.iload_n 3, 1) := by decide +kernel
theorem dX3_lacks_14 : decode cX3_lacks 14 = .ok (.iload_n 2, 1) := by decide +kernel
theorem dX3_lacks_15 : decode cX3_lacks 15 = .ok (.ifCond .eq 7, 3) := by decide +kernel
theorem dX3_lacks_18 : decode cX3_lacks 18 = .ok (.iconst 1, 1) := by decide +kernel
theorem dX3_lacks_19 : decode cX3_lacks 19 = .ok (.goto 4, 3) := by decide +kernel
theorem dX3_lacks_22 : decode cX3_lacks 22 = .ok (.iconst 0, 1) := by decide +kernel
theorem dX3_lacks_23 : decode cX3_lacks 23 = .ok (.if_icmp .le 7, 3) := by decide +kernel
theorem dX3_lacks_26 : decode cX3_lacks 26 = .ok (.iconst (-1), 1) := by decide +kernel
theorem dX3_lacks_27 : decode cX3_lacks 27 = .ok (.goto 4, 3) := by decide +kernel
theorem dX3_lacks_30 : decode cX3_lacks 30 = .ok (.iload_n 3, 1) := by decide +kernel
theorem dX3_lacks_31 : decode cX3_lacks 31 = .ok (.ireturn, 1) := by decide +kernel
theorem dX3_layAt_0 : decode cX3_layAt 0 = .ok (.iload_n 3, 1) := by decide +kernel
theorem dX3_layAt_1 : decode cX3_layAt 1 = .ok (.istore 4, 2) := by decide +kernel
theorem dX3_layAt_3 : decode cX3_layAt 3 = .ok (.iload_n 1, 1) := by decide +kernel
theorem dX3_layAt_4 : decode cX3_layAt 4 = .ok (.iload_n 2, 1) := by decide +kernel
theorem dX3_layAt_5 : decode cX3_layAt 5 = .ok (.iadd, 1) := by decide +kernel
theorem dX3_layAt_6 : decode cX3_layAt 6 = .ok (.iconst 1, 1) := by decide +kernel
theorem dX3_layAt_7 : decode cX3_layAt 7 = .ok (.isub, 1) := by decide +kernel
theorem dX3_layAt_8 : decode cX3_layAt 8 = .ok (.istore 5, 2) := by decide +kernel
theorem dX3_layAt_10 : decode cX3_layAt 10 = .ok (.iload 5, 2) := by decide +kernel
theorem dX3_layAt_12 : decode cX3_layAt 12 = .ok (.iload_n 1, 1) := by decide +kernel
theorem dX3_layAt_13 : decode cX3_layAt 13 = .ok (.if_icmp .lt 30, 3) := by decide +kernel
theorem dX3_layAt_16 : decode cX3_layAt 16 = .ok (.aload_n 0, 1) := by decide +kernel
theorem dX3_layAt_17 : decode cX3_layAt 17 = .ok (.getfield 22, 3) := by decide +kernel
theorem dX3_layAt_20 : decode cX3_layAt 20 = .ok (.iload 5, 2) := by decide +kernel
theorem dX3_layAt_22 : decode cX3_layAt 22 = .ok (.iload 4, 2) := by decide +kernel
theorem dX3_layAt_24 : decode cX3_layAt 24 = .ok (.bipush 10, 2) := by decide +kernel
theorem dX3_layAt_26 : decode cX3_layAt 26 = .ok (.irem, 1) := by decide +kernel
theorem dX3_layAt_27 : decode cX3_layAt 27 = .ok (.invokestatic 114, 3) := by decide +kernel
theorem dX3_layAt_30 : decode cX3_layAt 30 = .ok (.iload 4, 2) := by decide +kernel
theorem dX3_layAt_32 : decode cX3_layAt 32 = .ok (.bipush 10, 2) := by decide +kernel
theorem dX3_layAt_34 : decode cX3_layAt 34 = .ok (.idiv, 1) := by decide +kernel
theorem dX3_layAt_35 : decode cX3_layAt 35 = .ok (.istore 4, 2) := by decide +kernel
theorem dX3_layAt_37 : decode cX3_layAt 37 = .ok (.iinc 5 (-1), 3) := by decide +kernel
theorem dX3_layAt_40 : decode cX3_layAt 40 = .ok (.goto (-30), 3) := by decide +kernel
theorem dX3_layAt_43 : decode cX3_layAt 43 = .ok (.return_, 1) := by decide +kernel
theorem dX3_isFirstSoFar_0 : decode cX3_isFirstSoFar 0 = .ok (.aload_n 0, 1) := by decide +kernel
theorem dX3_isFirstSoFar_1 : decode cX3_isFirstSoFar 1 = .ok (.getfield 22, 3) := by decide +kernel
theorem dX3_isFirstSoFar_4 : decode cX3_isFirstSoFar 4 = .ok (.iconst 0, 1) := by decide +kernel
theorem dX3_isFirstSoFar_5 : decode cX3_isFirstSoFar 5 = .ok (.invokestatic 81, 3) := by decide +kernel
theorem dX3_isFirstSoFar_8 : decode cX3_isFirstSoFar 8 = .ok (.istore_n 2, 1) := by decide +kernel
theorem dX3_isFirstSoFar_9 : decode cX3_isFirstSoFar 9 = .ok (.iconst 0, 1) := by decide +kernel
theorem dX3_isFirstSoFar_10 : decode cX3_isFirstSoFar 10 = .ok (.istore_n 3, 1) := by decide +kernel
theorem dX3_isFirstSoFar_11 : decode cX3_isFirstSoFar 11 = .ok (.iload_n 3, 1) := by decide +kernel
theorem dX3_isFirstSoFar_12 : decode cX3_isFirstSoFar 12 = .ok (.iload_n 1, 1) := by decide +kernel
theorem dX3_isFirstSoFar_13 : decode cX3_isFirstSoFar 13 = .ok (.if_icmp .ge 39, 3) := by decide +kernel
theorem dX3_isFirstSoFar_16 : decode cX3_isFirstSoFar 16 = .ok (.aload_n 0, 1) := by decide +kernel
theorem dX3_isFirstSoFar_17 : decode cX3_isFirstSoFar 17 = .ok (.getfield 22, 3) := by decide +kernel
theorem dX3_isFirstSoFar_20 : decode cX3_isFirstSoFar 20 = .ok (.iload_n 3, 1) := by decide +kernel
theorem dX3_isFirstSoFar_21 : decode cX3_isFirstSoFar 21 = .ok (.invokestatic 81, 3) := by decide +kernel
theorem dX3_isFirstSoFar_24 : decode cX3_isFirstSoFar 24 = .ok (.istore 4, 2) := by decide +kernel
theorem dX3_isFirstSoFar_26 : decode cX3_isFirstSoFar 26 = .ok (.iload 4, 2) := by decide +kernel
theorem dX3_isFirstSoFar_28 : decode cX3_isFirstSoFar 28 = .ok (.iload_n 2, 1) := by decide +kernel
theorem dX3_isFirstSoFar_29 : decode cX3_isFirstSoFar 29 = .ok (.if_icmp .lt 15, 3) := by decide +kernel
theorem dX3_isFirstSoFar_32 : decode cX3_isFirstSoFar 32 = .ok (.getstatic 121, 3) := by decide +kernel
theorem dX3_isFirstSoFar_35 : decode cX3_isFirstSoFar 35 = .ok (.iload 4, 2) := by decide +kernel
theorem dX3_isFirstSoFar_37 : decode cX3_isFirstSoFar 37 = .ok (.invokestatic 81, 3) := by decide +kernel
theorem dX3_isFirstSoFar_40 : decode cX3_isFirstSoFar 40 = .ok (.iload_n 2, 1) := by decide +kernel
theorem dX3_isFirstSoFar_41 : decode cX3_isFirstSoFar 41 = .ok (.if_icmp .ge 5, 3) := by decide +kernel
theorem dX3_isFirstSoFar_44 : decode cX3_isFirstSoFar 44 = .ok (.iconst 0, 1) := by decide +kernel
theorem dX3_isFirstSoFar_45 : decode cX3_isFirstSoFar 45 = .ok (.ireturn, 1) := by decide +kernel
theorem dX3_isFirstSoFar_46 : decode cX3_isFirstSoFar 46 = .ok (.iinc 3 1, 3) := by decide +kernel
theorem dX3_isFirstSoFar_49 : decode cX3_isFirstSoFar 49 = .ok (.goto (-38), 3) := by decide +kernel
theorem dX3_isFirstSoFar_52 : decode cX3_isFirstSoFar 52 = .ok (.iconst 1, 1) := by decide +kernel
theorem dX3_isFirstSoFar_53 : decode cX3_isFirstSoFar 53 = .ok (.ireturn, 1) := by decide +kernel
theorem dX3_standsForAll_0 : decode cX3_standsForAll 0 = .ok (.iconst 0, 1) := by decide +kernel
theorem dX3_standsForAll_1 : decode cX3_standsForAll 1 = .ok (.istore_n 2, 1) := by decide +kernel
theorem dX3_standsForAll_2 : decode cX3_standsForAll 2 = .ok (.iload_n 2, 1) := by decide +kernel
theorem dX3_standsForAll_3 : decode cX3_standsForAll 3 = .ok (.iload_n 1, 1) := by decide +kernel
theorem dX3_standsForAll_4 : decode cX3_standsForAll 4 = .ok (.if_icmp .ge 55, 3) := by decide +kernel
theorem dX3_standsForAll_7 : decode cX3_standsForAll 7 = .ok (.aload_n 0, 1) := by decide +kernel
theorem dX3_standsForAll_8 : decode cX3_standsForAll 8 = .ok (.iload_n 1, 1) := by decide +kernel
theorem dX3_standsForAll_9 : decode cX3_standsForAll 9 = .ok (.iload_n 2, 1) := by decide +kernel
theorem dX3_standsForAll_10 : decode cX3_standsForAll 10 = .ok (.iconst 1, 1) := by decide +kernel
theorem dX3_standsForAll_11 : decode cX3_standsForAll 11 = .ok (.iconst 0, 1) := by decide +kernel
theorem dX3_standsForAll_12 : decode cX3_standsForAll 12 = .ok (.invokevirtual 124, 3) := by decide +kernel
theorem dX3_standsForAll_15 : decode cX3_standsForAll 15 = .ok (.ifCond .ne 36, 3) := by decide +kernel
theorem dX3_standsForAll_18 : decode cX3_standsForAll 18 = .ok (.aload_n 0, 1) := by decide +kernel
theorem dX3_standsForAll_19 : decode cX3_standsForAll 19 = .ok (.iload_n 1, 1) := by decide +kernel
theorem dX3_standsForAll_20 : decode cX3_standsForAll 20 = .ok (.iload_n 2, 1) := by decide +kernel
theorem dX3_standsForAll_21 : decode cX3_standsForAll 21 = .ok (.iconst 1, 1) := by decide +kernel
theorem dX3_standsForAll_22 : decode cX3_standsForAll 22 = .ok (.iconst 1, 1) := by decide +kernel
theorem dX3_standsForAll_23 : decode cX3_standsForAll 23 = .ok (.invokevirtual 124, 3) := by decide +kernel
theorem dX3_standsForAll_26 : decode cX3_standsForAll 26 = .ok (.ifCond .ne 25, 3) := by decide +kernel
theorem dX3_standsForAll_29 : decode cX3_standsForAll 29 = .ok (.aload_n 0, 1) := by decide +kernel
theorem dX3_standsForAll_30 : decode cX3_standsForAll 30 = .ok (.iload_n 1, 1) := by decide +kernel
theorem dX3_standsForAll_31 : decode cX3_standsForAll 31 = .ok (.iload_n 2, 1) := by decide +kernel
theorem dX3_standsForAll_32 : decode cX3_standsForAll 32 = .ok (.iconst (-1), 1) := by decide +kernel
theorem dX3_standsForAll_33 : decode cX3_standsForAll 33 = .ok (.iconst 0, 1) := by decide +kernel
theorem dX3_standsForAll_34 : decode cX3_standsForAll 34 = .ok (.invokevirtual 124, 3) := by decide +kernel
theorem dX3_standsForAll_37 : decode cX3_standsForAll 37 = .ok (.ifCond .ne 14, 3) := by decide +kernel
theorem dX3_standsForAll_40 : decode cX3_standsForAll 40 = .ok (.aload_n 0, 1) := by decide +kernel
theorem dX3_standsForAll_41 : decode cX3_standsForAll 41 = .ok (.iload_n 1, 1) := by decide +kernel
theorem dX3_standsForAll_42 : decode cX3_standsForAll 42 = .ok (.iload_n 2, 1) := by decide +kernel
theorem dX3_standsForAll_43 : decode cX3_standsForAll 43 = .ok (.iconst (-1), 1) := by decide +kernel
theorem dX3_standsForAll_44 : decode cX3_standsForAll 44 = .ok (.iconst 1, 1) := by decide +kernel
theorem dX3_standsForAll_45 : decode cX3_standsForAll 45 = .ok (.invokevirtual 124, 3) := by decide +kernel
theorem dX3_standsForAll_48 : decode cX3_standsForAll 48 = .ok (.ifCond .eq 5, 3) := by decide +kernel
theorem dX3_standsForAll_51 : decode cX3_standsForAll 51 = .ok (.iconst 0, 1) := by decide +kernel
theorem dX3_standsForAll_52 : decode cX3_standsForAll 52 = .ok (.ireturn, 1) := by decide +kernel
theorem dX3_standsForAll_53 : decode cX3_standsForAll 53 = .ok (.iinc 2 1, 3) := by decide +kernel
theorem dX3_standsForAll_56 : decode cX3_standsForAll 56 = .ok (.goto (-54), 3) := by decide +kernel
theorem dX3_standsForAll_59 : decode cX3_standsForAll 59 = .ok (.iconst 1, 1) := by decide +kernel
theorem dX3_standsForAll_60 : decode cX3_standsForAll 60 = .ok (.ireturn, 1) := by decide +kernel
theorem dX3_isBefore_0 : decode cX3_isBefore 0 = .ok (.iload_n 2, 1) := by decide +kernel
theorem dX3_isBefore_1 : decode cX3_isBefore 1 = .ok (.istore 5, 2) := by decide +kernel
theorem dX3_isBefore_3 : decode cX3_isBefore 3 = .ok (.iconst 0, 1) := by decide +kernel
theorem dX3_isBefore_4 : decode cX3_isBefore 4 = .ok (.istore 6, 2) := by decide +kernel
theorem dX3_isBefore_6 : decode cX3_isBefore 6 = .ok (.iload 6, 2) := by decide +kernel
theorem dX3_isBefore_8 : decode cX3_isBefore 8 = .ok (.iload_n 1, 1) := by decide +kernel
theorem dX3_isBefore_9 : decode cX3_isBefore 9 = .ok (.if_icmp .ge 97, 3) := by decide +kernel
theorem dX3_isBefore_12 : decode cX3_isBefore 12 = .ok (.aload_n 0, 1) := by decide +kernel
theorem dX3_isBefore_13 : decode cX3_isBefore 13 = .ok (.getfield 22, 3) := by decide +kernel
theorem dX3_isBefore_16 : decode cX3_isBefore 16 = .ok (.iload 5, 2) := by decide +kernel
theorem dX3_isBefore_18 : decode cX3_isBefore 18 = .ok (.invokestatic 81, 3) := by decide +kernel
theorem dX3_isBefore_21 : decode cX3_isBefore 21 = .ok (.istore 7, 2) := by decide +kernel
theorem dX3_isBefore_23 : decode cX3_isBefore 23 = .ok (.iload 4, 2) := by decide +kernel
theorem dX3_isBefore_25 : decode cX3_isBefore 25 = .ok (.ifCond .eq 14, 3) := by decide +kernel
theorem dX3_isBefore_28 : decode cX3_isBefore 28 = .ok (.getstatic 121, 3) := by decide +kernel
theorem dX3_isBefore_31 : decode cX3_isBefore 31 = .ok (.iload 7, 2) := by decide +kernel
theorem dX3_isBefore_33 : decode cX3_isBefore 33 = .ok (.invokestatic 81, 3) := by decide +kernel
theorem dX3_isBefore_36 : decode cX3_isBefore 36 = .ok (.goto 5, 3) := by decide +kernel
theorem dX3_isBefore_39 : decode cX3_isBefore 39 = .ok (.iload 7, 2) := by decide +kernel
theorem dX3_isBefore_41 : decode cX3_isBefore 41 = .ok (.aload_n 0, 1) := by decide +kernel
theorem dX3_isBefore_42 : decode cX3_isBefore 42 = .ok (.getfield 22, 3) := by decide +kernel
theorem dX3_isBefore_45 : decode cX3_isBefore 45 = .ok (.iload 6, 2) := by decide +kernel
theorem dX3_isBefore_47 : decode cX3_isBefore 47 = .ok (.invokestatic 81, 3) := by decide +kernel
theorem dX3_isBefore_50 : decode cX3_isBefore 50 = .ok (.isub, 1) := by decide +kernel
theorem dX3_isBefore_51 : decode cX3_isBefore 51 = .ok (.istore 8, 2) := by decide +kernel
theorem dX3_isBefore_53 : decode cX3_isBefore 53 = .ok (.iload 8, 2) := by decide +kernel
theorem dX3_isBefore_55 : decode cX3_isBefore 55 = .ok (.ifCond .eq 14, 3) := by decide +kernel
theorem dX3_isBefore_58 : decode cX3_isBefore 58 = .ok (.iload 8, 2) := by decide +kernel
theorem dX3_isBefore_60 : decode cX3_isBefore 60 = .ok (.ifCond .ge 7, 3) := by decide +kernel
theorem dX3_isBefore_63 : decode cX3_isBefore 63 = .ok (.iconst 1, 1) := by decide +kernel
theorem dX3_isBefore_64 : decode cX3_isBefore 64 = .ok (.goto 4, 3) := by decide +kernel
theorem dX3_isBefore_67 : decode cX3_isBefore 67 = .ok (.iconst 0, 1) := by decide +kernel
theorem dX3_isBefore_68 : decode cX3_isBefore 68 = .ok (.ireturn, 1) := by decide +kernel
theorem dX3_isBefore_69 : decode cX3_isBefore 69 = .ok (.iload 5, 2) := by decide +kernel
theorem dX3_isBefore_71 : decode cX3_isBefore 71 = .ok (.iload_n 3, 1) := by decide +kernel
theorem dX3_isBefore_72 : decode cX3_isBefore 72 = .ok (.iadd, 1) := by decide +kernel
theorem dX3_isBefore_73 : decode cX3_isBefore 73 = .ok (.istore 5, 2) := by decide +kernel
theorem dX3_isBefore_75 : decode cX3_isBefore 75 = .ok (.iload 5, 2) := by decide +kernel
theorem dX3_isBefore_77 : decode cX3_isBefore 77 = .ok (.ifCond .ge 9, 3) := by decide +kernel
theorem dX3_isBefore_80 : decode cX3_isBefore 80 = .ok (.iload_n 1, 1) := by decide +kernel
theorem dX3_isBefore_81 : decode cX3_isBefore 81 = .ok (.iconst 1, 1) := by decide +kernel
theorem dX3_isBefore_82 : decode cX3_isBefore 82 = .ok (.isub, 1) := by decide +kernel
theorem dX3_isBefore_83 : decode cX3_isBefore 83 = .ok (.goto 15, 3) := by decide +kernel
theorem dX3_isBefore_86 : decode cX3_isBefore 86 = .ok (.iload 5, 2) := by decide +kernel
theorem dX3_isBefore_88 : decode cX3_isBefore 88 = .ok (.iload_n 1, 1) := by decide +kernel
theorem dX3_isBefore_89 : decode cX3_isBefore 89 = .ok (.if_icmp .lt 7, 3) := by decide +kernel
theorem dX3_isBefore_92 : decode cX3_isBefore 92 = .ok (.iconst 0, 1) := by decide +kernel
theorem dX3_isBefore_93 : decode cX3_isBefore 93 = .ok (.goto 5, 3) := by decide +kernel
theorem dX3_isBefore_96 : decode cX3_isBefore 96 = .ok (.iload 5, 2) := by decide +kernel
theorem dX3_isBefore_98 : decode cX3_isBefore 98 = .ok (.istore 5, 2) := by decide +kernel
theorem dX3_isBefore_100 : decode cX3_isBefore 100 = .ok (.iinc 6 1, 3) := by decide +kernel
theorem dX3_isBefore_103 : decode cX3_isBefore 103 = .ok (.goto (-97), 3) := by decide +kernel
theorem dX3_isBefore_106 : decode cX3_isBefore 106 = .ok (.iconst 0, 1) := by decide +kernel
theorem dX3_isBefore_107 : decode cX3_isBefore 107 = .ok (.ireturn, 1) := by decide +kernel
theorem dX3_gather_0 : decode cX3_gather 0 = .ok (.aload_n 0, 1) := by decide +kernel
theorem dX3_gather_1 : decode cX3_gather 1 = .ok (.getfield 40, 3) := by decide +kernel
theorem dX3_gather_4 : decode cX3_gather 4 = .ok (.ifCond .eq 4, 3) := by decide +kernel
theorem dX3_gather_7 : decode cX3_gather 7 = .ok (.return_, 1) := by decide +kernel
theorem dX3_gather_8 : decode cX3_gather 8 = .ok (.aload_n 0, 1) := by decide +kernel
theorem dX3_gather_9 : decode cX3_gather 9 = .ok (.getfield 19, 3) := by decide +kernel
theorem dX3_gather_12 : decode cX3_gather 12 = .ok (.iconst (-1), 1) := by decide +kernel
theorem dX3_gather_13 : decode cX3_gather 13 = .ok (.invokestatic 51, 3) := by decide +kernel
theorem dX3_gather_16 : decode cX3_gather 16 = .ok (.sipush 999, 3) := by decide +kernel
theorem dX3_gather_19 : decode cX3_gather 19 = .ok (.istore_n 1, 1) := by decide +kernel
theorem dX3_gather_20 : decode cX3_gather 20 = .ok (.iload_n 1, 1) := by decide +kernel
theorem dX3_gather_21 : decode cX3_gather 21 = .ok (.ifCond .lt 96, 3) := by decide +kernel
theorem dX3_gather_24 : decode cX3_gather 24 = .ok (.iload_n 1, 1) := by decide +kernel
theorem dX3_gather_25 : decode cX3_gather 25 = .ok (.istore_n 2, 1) := by decide +kernel
theorem dX3_gather_26 : decode cX3_gather 26 = .ok (.iconst 0, 1) := by decide +kernel
theorem dX3_gather_27 : decode cX3_gather 27 = .ok (.istore_n 3, 1) := by decide +kernel
theorem dX3_gather_28 : decode cX3_gather 28 = .ok (.iload_n 3, 1) := by decide +kernel
theorem dX3_gather_29 : decode cX3_gather 29 = .ok (.iconst 3, 1) := by decide +kernel
theorem dX3_gather_30 : decode cX3_gather 30 = .ok (.if_icmp .ge 32, 3) := by decide +kernel
theorem dX3_gather_33 : decode cX3_gather 33 = .ok (.aload_n 0, 1) := by decide +kernel
theorem dX3_gather_34 : decode cX3_gather 34 = .ok (.getfield 22, 3) := by decide +kernel
theorem dX3_gather_37 : decode cX3_gather 37 = .ok (.iload_n 3, 1) := by decide +kernel
theorem dX3_gather_38 : decode cX3_gather 38 = .ok (.getstatic 121, 3) := by decide +kernel
theorem dX3_gather_41 : decode cX3_gather 41 = .ok (.iload_n 2, 1) := by decide +kernel
theorem dX3_gather_42 : decode cX3_gather 42 = .ok (.bipush 10, 2) := by decide +kernel
theorem dX3_gather_44 : decode cX3_gather 44 = .ok (.irem, 1) := by decide +kernel
theorem dX3_gather_45 : decode cX3_gather 45 = .ok (.invokestatic 81, 3) := by decide +kernel
theorem dX3_gather_48 : decode cX3_gather 48 = .ok (.invokestatic 114, 3) := by decide +kernel
theorem dX3_gather_51 : decode cX3_gather 51 = .ok (.iload_n 2, 1) := by decide +kernel
theorem dX3_gather_52 : decode cX3_gather 52 = .ok (.bipush 10, 2) := by decide +kernel
theorem dX3_gather_54 : decode cX3_gather 54 = .ok (.idiv, 1) := by decide +kernel
theorem dX3_gather_55 : decode cX3_gather 55 = .ok (.istore_n 2, 1) := by decide +kernel
theorem dX3_gather_56 : decode cX3_gather 56 = .ok (.iinc 3 1, 3) := by decide +kernel
theorem dX3_gather_59 : decode cX3_gather 59 = .ok (.goto (-31), 3) := by decide +kernel
theorem dX3_gather_62 : decode cX3_gather 62 = .ok (.aload_n 0, 1) := by decide +kernel
theorem dX3_gather_63 : decode cX3_gather 63 = .ok (.iconst 3, 1) := by decide +kernel
theorem dX3_gather_64 : decode cX3_gather 64 = .ok (.iconst (-1), 1) := by decide +kernel
theorem dX3_gather_65 : decode cX3_gather 65 = .ok (.invokevirtual 73, 3) := by decide +kernel
theorem dX3_gather_68 : decode cX3_gather 68 = .ok (.lstore_n 3, 1) := by decide +kernel
theorem dX3_gather_69 : decode cX3_gather 69 = .ok (.lload_n 3, 1) := by decide +kernel
theorem dX3_gather_70 : decode cX3_gather 70 = .ok (.invokestatic 77, 3) := by decide +kernel
theorem dX3_gather_73 : decode cX3_gather 73 = .ok (.istore 5, 2) := by decide +kernel
theorem dX3_gather_75 : decode cX3_gather 75 = .ok (.aload_n 0, 1) := by decide +kernel
theorem dX3_gather_76 : decode cX3_gather 76 = .ok (.getfield 11, 3) := by decide +kernel
theorem dX3_gather_79 : decode cX3_gather 79 = .ok (.iload_n 1, 1) := by decide +kernel
theorem dX3_gather_80 : decode cX3_gather 80 = .ok (.lload_n 3, 1) := by decide +kernel
theorem dX3_gather_81 : decode cX3_gather 81 = .ok (.invokestatic 128, 3) := by decide +kernel
theorem dX3_gather_84 : decode cX3_gather 84 = .ok (.aload_n 0, 1) := by decide +kernel
theorem dX3_gather_85 : decode cX3_gather 85 = .ok (.getfield 15, 3) := by decide +kernel
theorem dX3_gather_88 : decode cX3_gather 88 = .ok (.iload_n 1, 1) := by decide +kernel
theorem dX3_gather_89 : decode cX3_gather 89 = .ok (.aload_n 0, 1) := by decide +kernel
theorem dX3_gather_90 : decode cX3_gather 90 = .ok (.getfield 19, 3) := by decide +kernel
theorem dX3_gather_93 : decode cX3_gather 93 = .ok (.iload 5, 2) := by decide +kernel
theorem dX3_gather_95 : decode cX3_gather 95 = .ok (.invokestatic 81, 3) := by decide +kernel
theorem dX3_gather_98 : decode cX3_gather 98 = .ok (.invokestatic 114, 3) := by decide +kernel
theorem dX3_gather_101 : decode cX3_gather 101 = .ok (.aload_n 0, 1) := by decide +kernel
theorem dX3_gather_102 : decode cX3_gather 102 = .ok (.getfield 19, 3) := by decide +kernel
theorem dX3_gather_105 : decode cX3_gather 105 = .ok (.iload 5, 2) := by decide +kernel
theorem dX3_gather_107 : decode cX3_gather 107 = .ok (.iload_n 1, 1) := by decide +kernel
theorem dX3_gather_108 : decode cX3_gather 108 = .ok (.invokestatic 114, 3) := by decide +kernel
theorem dX3_gather_111 : decode cX3_gather 111 = .ok (.iinc 1 (-1), 3) := by decide +kernel
theorem dX3_gather_114 : decode cX3_gather 114 = .ok (.goto (-94), 3) := by decide +kernel
theorem dX3_gather_117 : decode cX3_gather 117 = .ok (.aload_n 0, 1) := by decide +kernel
theorem dX3_gather_118 : decode cX3_gather 118 = .ok (.iconst 1, 1) := by decide +kernel
theorem dX3_gather_119 : decode cX3_gather 119 = .ok (.putfield 40, 3) := by decide +kernel
theorem dX3_gather_122 : decode cX3_gather 122 = .ok (.return_, 1) := by decide +kernel
theorem dX3_endOf_0 : decode cX3_endOf 0 = .ok (.lconst 0, 1) := by decide +kernel
theorem dX3_endOf_1 : decode cX3_endOf 1 = .ok (.lstore_n 3, 1) := by decide +kernel
theorem dX3_endOf_2 : decode cX3_endOf 2 = .ok (.iconst 0, 1) := by decide +kernel
theorem dX3_endOf_3 : decode cX3_endOf 3 = .ok (.istore 5, 2) := by decide +kernel
theorem dX3_endOf_5 : decode cX3_endOf 5 = .ok (.iconst 0, 1) := by decide +kernel
theorem dX3_endOf_6 : decode cX3_endOf 6 = .ok (.istore 6, 2) := by decide +kernel
theorem dX3_endOf_8 : decode cX3_endOf 8 = .ok (.iload 6, 2) := by decide +kernel
theorem dX3_endOf_10 : decode cX3_endOf 10 = .ok (.iload_n 1, 1) := by decide +kernel
theorem dX3_endOf_11 : decode cX3_endOf 11 = .ok (.if_icmp .ge 43, 3) := by decide +kernel
theorem dX3_endOf_14 : decode cX3_endOf 14 = .ok (.aload_n 0, 1) := by decide +kernel
theorem dX3_endOf_15 : decode cX3_endOf 15 = .ok (.getfield 22, 3) := by decide +kernel
theorem dX3_endOf_18 : decode cX3_endOf 18 = .ok (.iload 6, 2) := by decide +kernel
theorem dX3_endOf_20 : decode cX3_endOf 20 = .ok (.invokestatic 81, 3) := by decide +kernel
theorem dX3_endOf_23 : decode cX3_endOf 23 = .ok (.istore 7, 2) := by decide +kernel
theorem dX3_endOf_25 : decode cX3_endOf 25 = .ok (.lload_n 3, 1) := by decide +kernel
theorem dX3_endOf_26 : decode cX3_endOf 26 = .ok (.aload_n 0, 1) := by decide +kernel
theorem dX3_endOf_27 : decode cX3_endOf 27 = .ok (.getfield 32, 3) := by decide +kernel
theorem dX3_endOf_30 : decode cX3_endOf 30 = .ok (.iload 5, 2) := by decide +kernel
theorem dX3_endOf_32 : decode cX3_endOf 32 = .ok (.iload 7, 2) := by decide +kernel
theorem dX3_endOf_34 : decode cX3_endOf 34 = .ok (.invokevirtual 132, 3) := by decide +kernel
theorem dX3_endOf_37 : decode cX3_endOf 37 = .ok (.ladd, 1) := by decide +kernel
theorem dX3_endOf_38 : decode cX3_endOf 38 = .ok (.lstore_n 3, 1) := by decide +kernel
theorem dX3_endOf_39 : decode cX3_endOf 39 = .ok (.iload 5, 2) := by decide +kernel
theorem dX3_endOf_41 : decode cX3_endOf 41 = .ok (.iload 7, 2) := by decide +kernel
theorem dX3_endOf_43 : decode cX3_endOf 43 = .ok (.invokestatic 137, 3) := by decide +kernel
theorem dX3_endOf_46 : decode cX3_endOf 46 = .ok (.istore 5, 2) := by decide +kernel
theorem dX3_endOf_48 : decode cX3_endOf 48 = .ok (.iinc 6 1, 3) := by decide +kernel
theorem dX3_endOf_51 : decode cX3_endOf 51 = .ok (.goto (-43), 3) := by decide +kernel
theorem dX3_endOf_54 : decode cX3_endOf 54 = .ok (.iload_n 2, 1) := by decide +kernel
theorem dX3_endOf_55 : decode cX3_endOf 55 = .ok (.i2l, 1) := by decide +kernel
theorem dX3_endOf_56 : decode cX3_endOf 56 = .ok (.lload_n 3, 1) := by decide +kernel
theorem dX3_endOf_57 : decode cX3_endOf 57 = .ok (.lmul, 1) := by decide +kernel
theorem dX3_endOf_58 : decode cX3_endOf 58 = .ok (.ldc2_w 141, 3) := by decide +kernel
theorem dX3_endOf_61 : decode cX3_endOf 61 = .ok (.lmul, 1) := by decide +kernel
theorem dX3_endOf_62 : decode cX3_endOf 62 = .ok (.iload 5, 2) := by decide +kernel
theorem dX3_endOf_64 : decode cX3_endOf 64 = .ok (.i2l, 1) := by decide +kernel
theorem dX3_endOf_65 : decode cX3_endOf 65 = .ok (.ladd, 1) := by decide +kernel
theorem dX3_endOf_66 : decode cX3_endOf 66 = .ok (.lreturn, 1) := by decide +kernel
theorem dX3_slotOf_0 : decode cX3_slotOf 0 = .ok (.lload_n 0, 1) := by decide +kernel
theorem dX3_slotOf_1 : decode cX3_slotOf 1 = .ok (.ldc2_w 143, 3) := by decide +kernel
theorem dX3_slotOf_4 : decode cX3_slotOf 4 = .ok (.lmul, 1) := by decide +kernel
theorem dX3_slotOf_5 : decode cX3_slotOf 5 = .ok (.lstore_n 2, 1) := by decide +kernel
theorem dX3_slotOf_6 : decode cX3_slotOf 6 = .ok (.lload_n 2, 1) := by decide +kernel
theorem dX3_slotOf_7 : decode cX3_slotOf 7 = .ok (.bipush 40, 2) := by decide +kernel
theorem dX3_slotOf_9 : decode cX3_slotOf 9 = .ok (.lushr, 1) := by decide +kernel
theorem dX3_slotOf_10 : decode cX3_slotOf 10 = .ok (.l2i, 1) := by decide +kernel
theorem dX3_slotOf_11 : decode cX3_slotOf 11 = .ok (.sipush 1023, 3) := by decide +kernel
theorem dX3_slotOf_14 : decode cX3_slotOf 14 = .ok (.iand, 1) := by decide +kernel
theorem dX3_slotOf_15 : decode cX3_slotOf 15 = .ok (.ireturn, 1) := by decide +kernel
theorem dX4_init_0 : decode cX4_init 0 = .ok (.aload_n 0, 1) := by decide +kernel
theorem dX4_init_1 : decode cX4_init 1 = .ok (.invokespecial 3, 3) := by decide +kernel
theorem dX4_init_4 : decode cX4_init 4 = .ok (.aload_n 0, 1) := by decide +kernel
theorem dX4_init_5 : decode cX4_init 5 = .ok (.bipush 7, 2) := by decide +kernel
theorem dX4_init_7 : decode cX4_init 7 = .ok (.newarray .int, 2) := by decide +kernel
theorem dX4_init_9 : decode cX4_init 9 = .ok (.putfield 9, 3) := by decide +kernel
theorem dX4_init_12 : decode cX4_init 12 = .ok (.aload_n 0, 1) := by decide +kernel
theorem dX4_init_13 : decode cX4_init 13 = .ok (.bipush 6, 2) := by decide +kernel
theorem dX4_init_15 : decode cX4_init 15 = .ok (.newarray .int, 2) := by decide +kernel
theorem dX4_init_17 : decode cX4_init 17 = .ok (.putfield 15, 3) := by decide +kernel
theorem dX4_init_20 : decode cX4_init 20 = .ok (.aload_n 0, 1) := by decide +kernel
theorem dX4_init_21 : decode cX4_init 21 = .ok (.bipush 6, 2) := by decide +kernel
theorem dX4_init_23 : decode cX4_init 23 = .ok (.newarray .int, 2) := by decide +kernel
theorem dX4_init_25 : decode cX4_init 25 = .ok (.putfield 18, 3) := by decide +kernel
theorem dX4_init_28 : decode cX4_init 28 = .ok (.aload_n 0, 1) := by decide +kernel
theorem dX4_init_29 : decode cX4_init 29 = .ok (.aload_n 1, 1) := by decide +kernel
theorem dX4_init_30 : decode cX4_init 30 = .ok (.putfield 21, 3) := by decide +kernel
theorem dX4_init_33 : decode cX4_init 33 = .ok (.aload_n 0, 1) := by decide +kernel
theorem dX4_init_34 : decode cX4_init 34 = .ok (.aload_n 2, 1) := by decide +kernel
theorem dX4_init_35 : decode cX4_init 35 = .ok (.putfield 25, 3) := by decide +kernel
theorem dX4_init_38 : decode cX4_init 38 = .ok (.return_, 1) := by decide +kernel
theorem dX4_findsNearest_0 : decode cX4_findsNearest 0 = .ok (.aload_n 0, 1) := by decide +kernel
theorem dX4_findsNearest_1 : decode cX4_findsNearest 1 = .ok (.getfield 21, 3) := by decide +kernel
theorem dX4_findsNearest_4 : decode cX4_findsNearest 4 = .ok (.getfield 29, 3) := by decide +kernel
theorem dX4_findsNearest_7 : decode cX4_findsNearest 7 = .ok (.aload_n 0, 1) := by decide +kernel
theorem dX4_findsNearest_8 : decode cX4_findsNearest 8 = .ok (.getfield 9, 3) := by decide +kernel
theorem dX4_findsNearest_11 : decode cX4_findsNearest 11 = .ok (.invokestatic 34, 3) := by decide +kernel
theorem dX4_findsNearest_14 : decode cX4_findsNearest 14 = .ok (.aload_n 0, 1) := by decide +kernel
theorem dX4_findsNearest_15 : decode cX4_findsNearest 15 = .ok (.iconst 0, 1) := by decide +kernel
theorem dX4_findsNearest_16 : decode cX4_findsNearest 16 = .ok (.putfield 38, 3) := by decide +kernel
theorem dX4_findsNearest_19 : decode cX4_findsNearest 19 = .ok (.aload_n 0, 1) := by decide +kernel
theorem dX4_findsNearest_20 : decode cX4_findsNearest 20 = .ok (.iconst 0, 1) := by decide +kernel
theorem dX4_findsNearest_21 : decode cX4_findsNearest 21 = .ok (.iload_n 1, 1) := by decide +kernel
theorem dX4_findsNearest_22 : decode cX4_findsNearest 22 = .ok (.iconst 5, 1) := by decide +kernel
theorem dX4_findsNearest_23 : decode cX4_findsNearest 23 = .ok (.invokestatic 42, 3) := by decide +kernel
theorem dX4_findsNearest_26 : decode cX4_findsNearest 26 = .ok (.lconst 0, 1) := by decide +kernel
theorem dX4_findsNearest_27 : decode cX4_findsNearest 27 = .ok (.iconst 0, 1) := by decide +kernel
theorem dX4_findsNearest_28 : decode cX4_findsNearest 28 = .ok (.iconst 0, 1) := by decide +kernel
theorem dX4_findsNearest_29 : decode cX4_findsNearest 29 = .ok (.invokestatic 48, 3) := by decide +kernel
theorem dX4_findsNearest_32 : decode cX4_findsNearest 32 = .ok (.aload_n 0, 1) := by decide +kernel
theorem dX4_findsNearest_33 : decode cX4_findsNearest 33 = .ok (.getfield 38, 3) := by decide +kernel
theorem dX4_findsNearest_36 : decode cX4_findsNearest 36 = .ok (.ireturn, 1) := by decide +kernel
theorem dX4_rowsOf_0 : decode cX4_rowsOf 0 = .ok (.iconst 0, 1) := by decide +kernel
theorem dX4_rowsOf_1 : decode cX4_rowsOf 1 = .ok (.istore_n 3, 1) := by decide +kernel
theorem dX4_rowsOf_2 : decode cX4_rowsOf 2 = .ok (.iconst 0, 1) := by decide +kernel
theorem dX4_rowsOf_3 : decode cX4_rowsOf 3 = .ok (.istore 4, 2) := by decide +kernel
theorem dX4_rowsOf_5 : decode cX4_rowsOf 5 = .ok (.iload 4, 2) := by decide +kernel
theorem dX4_rowsOf_7 : decode cX4_rowsOf 7 = .ok (.iload_n 2, 1) := by decide +kernel
theorem dX4_rowsOf_8 : decode cX4_rowsOf 8 = .ok (.if_icmp .ge 18, 3) := by decide +kernel
theorem dX4_rowsOf_11 : decode cX4_rowsOf 11 = .ok (.iload_n 3, 1) := by decide +kernel
theorem dX4_rowsOf_12 : decode cX4_rowsOf 12 = .ok (.aload_n 1, 1) := by decide +kernel
theorem dX4_rowsOf_13 : decode cX4_rowsOf 13 = .ok (.iload 4, 2) := by decide +kernel
theorem dX4_rowsOf_15 : decode cX4_rowsOf 15 = .ok (.invokestatic 52, 3) := by decide +kernel
theorem dX4_rowsOf_18 : decode cX4_rowsOf 18 = .ok (.iadd, 1) := by decide +kernel
theorem dX4_rowsOf_19 : decode cX4_rowsOf 19 = .ok (.istore_n 3, 1) := by decide +kernel
theorem dX4_rowsOf_20 : decode cX4_rowsOf 20 = .ok (.iinc 4 1, 3) := by decide +kernel
theorem dX4_rowsOf_23 : decode cX4_rowsOf 23 = .ok (.goto (-18), 3) := by decide +kernel
theorem dX4_rowsOf_26 : decode cX4_rowsOf 26 = .ok (.iload_n 2, 1) := by decide +kernel
theorem dX4_rowsOf_27 : decode cX4_rowsOf 27 = .ok (.iconst 1, 1) := by decide +kernel
theorem dX4_rowsOf_28 : decode cX4_rowsOf 28 = .ok (.if_icmp .lt 10, 3) := by decide +kernel
theorem dX4_rowsOf_31 : decode cX4_rowsOf 31 = .ok (.iload_n 3, 1) := by decide +kernel
theorem dX4_rowsOf_32 : decode cX4_rowsOf 32 = .ok (.bipush 8, 2) := by decide +kernel
theorem dX4_rowsOf_34 : decode cX4_rowsOf 34 = .ok (.irem, 1) := by decide +kernel
theorem dX4_rowsOf_35 : decode cX4_rowsOf 35 = .ok (.ifCond .eq 5, 3) := by decide +kernel
theorem dX4_rowsOf_38 : decode cX4_rowsOf 38 = .ok (.iconst 0, 1) := by decide +kernel
theorem dX4_rowsOf_39 : decode cX4_rowsOf 39 = .ok (.ireturn, 1) := by decide +kernel
theorem dX4_rowsOf_40 : decode cX4_rowsOf 40 = .ok (.aload_n 0, 1) := by decide +kernel
theorem dX4_rowsOf_41 : decode cX4_rowsOf 41 = .ok (.getfield 21, 3) := by decide +kernel
theorem dX4_rowsOf_44 : decode cX4_rowsOf 44 = .ok (.getfield 29, 3) := by decide +kernel
theorem dX4_rowsOf_47 : decode cX4_rowsOf 47 = .ok (.aload_n 0, 1) := by decide +kernel
theorem dX4_rowsOf_48 : decode cX4_rowsOf 48 = .ok (.getfield 9, 3) := by decide +kernel
theorem dX4_rowsOf_51 : decode cX4_rowsOf 51 = .ok (.invokestatic 34, 3) := by decide +kernel
theorem dX4_rowsOf_54 : decode cX4_rowsOf 54 = .ok (.aload_n 0, 1) := by decide +kernel
theorem dX4_rowsOf_55 : decode cX4_rowsOf 55 = .ok (.iconst 0, 1) := by decide +kernel
theorem dX4_rowsOf_56 : decode cX4_rowsOf 56 = .ok (.iload_n 2, 1) := by decide +kernel
theorem dX4_rowsOf_57 : decode cX4_rowsOf 57 = .ok (.bipush 6, 2) := by decide +kernel
theorem dX4_rowsOf_59 : decode cX4_rowsOf 59 = .ok (.invokestatic 42, 3) := by decide +kernel
theorem dX4_rowsOf_62 : decode cX4_rowsOf 62 = .ok (.lconst 0, 1) := by decide +kernel
theorem dX4_rowsOf_63 : decode cX4_rowsOf 63 = .ok (.iconst 0, 1) := by decide +kernel
theorem dX4_rowsOf_64 : decode cX4_rowsOf 64 = .ok (.aload_n 1, 1) := by decide +kernel
theorem dX4_rowsOf_65 : decode cX4_rowsOf 65 = .ok (.invokestatic 56, 3) := by decide +kernel
theorem dX4_rowsOf_68 : decode cX4_rowsOf 68 = .ok (.ireturn, 1) := by decide +kernel
theorem dX4_layNear_0 : decode cX4_layNear 0 = .ok (.iload 5, 2) := by decide +kernel
theorem dX4_layNear_2 : decode cX4_layNear 2 = .ok (.bipush 8, 2) := by decide +kernel
theorem dX4_layNear_4 : decode cX4_layNear 4 = .ok (.iload 5, 2) := by decide +kernel
theorem dX4_layNear_6 : decode cX4_layNear 6 = .ok (.isub, 1) := by decide +kernel
theorem dX4_layNear_7 : decode cX4_layNear 7 = .ok (.invokestatic 42, 3) := by decide +kernel
theorem dX4_layNear_10 : decode cX4_layNear 10 = .ok (.istore 7, 2) := by decide +kernel
theorem dX4_layNear_12 : decode cX4_layNear 12 = .ok (.iload_n 1, 1) := by decide +kernel
theorem dX4_layNear_13 : decode cX4_layNear 13 = .ok (.iload_n 2, 1) := by decide +kernel
theorem dX4_layNear_14 : decode cX4_layNear 14 = .ok (.if_icmp .ge 13, 3) := by decide +kernel
theorem dX4_layNear_17 : decode cX4_layNear 17 = .ok (.iload 7, 2) := by decide +kernel
theorem dX4_layNear_19 : decode cX4_layNear 19 = .ok (.iconst 2, 1) := by decide +kernel
theorem dX4_layNear_20 : decode cX4_layNear 20 = .ok (.iload_n 2, 1) := by decide +kernel
theorem dX4_layNear_21 : decode cX4_layNear 21 = .ok (.iload_n 1, 1) := by decide +kernel
theorem dX4_layNear_22 : decode cX4_layNear 22 = .ok (.isub, 1) := by decide +kernel
theorem dX4_layNear_23 : decode cX4_layNear 23 = .ok (.imul, 1) := by decide +kernel
theorem dX4_layNear_24 : decode cX4_layNear 24 = .ok (.if_icmp .le 4, 3) := by decide +kernel
theorem dX4_layNear_27 : decode cX4_layNear 27 = .ok (.return_, 1) := by decide +kernel
theorem dX4_layNear_28 : decode cX4_layNear 28 = .ok (.iconst 0, 1) := by decide +kernel
theorem dX4_layNear_29 : decode cX4_layNear 29 = .ok (.istore 8, 2) := by decide +kernel
theorem dX4_layNear_31 : decode cX4_layNear 31 = .ok (.iload 8, 2) := by decide +kernel
theorem dX4_layNear_33 : decode cX4_layNear 33 = .ok (.bipush 10, 2) := by decide +kernel
theorem dX4_layNear_35 : decode cX4_layNear 35 = .ok (.if_icmp .ge 180, 3) := by decide +kernel
theorem dX4_layNear_38 : decode cX4_layNear 38 = .ok (.getstatic 60, 3) := by decide +kernel
theorem dX4_layNear_41 : decode cX4_layNear 41 = .ok (.iload 8, 2) := by decide +kernel
theorem dX4_layNear_43 : decode cX4_layNear 43 = .ok (.invokestatic 52, 3) := by decide +kernel
theorem dX4_layNear_46 : decode cX4_layNear 46 = .ok (.istore 9, 2) := by decide +kernel
theorem dX4_layNear_48 : decode cX4_layNear 48 = .ok (.getstatic 63, 3) := by decide +kernel
theorem dX4_layNear_51 : decode cX4_layNear 51 = .ok (.iload 8, 2) := by decide +kernel
theorem dX4_layNear_53 : decode cX4_layNear 53 = .ok (.invokestatic 52, 3) := by decide +kernel
theorem dX4_layNear_56 : decode cX4_layNear 56 = .ok (.istore 10, 2) := by decide +kernel
theorem dX4_layNear_58 : decode cX4_layNear 58 = .ok (.aload_n 0, 1) := by decide +kernel
theorem dX4_layNear_59 : decode cX4_layNear 59 = .ok (.getfield 9, 3) := by decide +kernel
theorem dX4_layNear_62 : decode cX4_layNear 62 = .ok (.iload 9, 2) := by decide +kernel
theorem dX4_layNear_64 : decode cX4_layNear 64 = .ok (.invokestatic 52, 3) := by decide +kernel
theorem dX4_layNear_67 : decode cX4_layNear 67 = .ok (.ifCond .le 142, 3) := by decide +kernel
theorem dX4_layNear_70 : decode cX4_layNear 70 = .ok (.iload 6, 2) := by decide +kernel
theorem dX4_layNear_72 : decode cX4_layNear 72 = .ok (.ifCond .ne 8, 3) := by decide +kernel
theorem dX4_layNear_75 : decode cX4_layNear 75 = .ok (.iload 10, 2) := by decide +kernel
theorem dX4_layNear_77 : decode cX4_layNear 77 = .ok (.ifCond .lt 132, 3) := by decide +kernel
theorem dX4_layNear_80 : decode cX4_layNear 80 = .ok (.lload_n 3, 1) := by decide +kernel
theorem dX4_layNear_81 : decode cX4_layNear 81 = .ok (.aload_n 0, 1) := by decide +kernel
theorem dX4_layNear_82 : decode cX4_layNear 82 = .ok (.getfield 25, 3) := by decide +kernel
theorem dX4_layNear_85 : decode cX4_layNear 85 = .ok (.iload 5, 2) := by decide +kernel
theorem dX4_layNear_87 : decode cX4_layNear 87 = .ok (.iload 8, 2) := by decide +kernel
theorem dX4_layNear_89 : decode cX4_layNear 89 = .ok (.invokevirtual 66, 3) := by decide +kernel
theorem dX4_layNear_92 : decode cX4_layNear 92 = .ok (.ladd, 1) := by decide +kernel
theorem dX4_layNear_93 : decode cX4_layNear 93 = .ok (.lstore 11, 2) := by decide +kernel
theorem dX4_layNear_95 : decode cX4_layNear 95 = .ok (.iload 5, 2) := by decide +kernel
theorem dX4_layNear_97 : decode cX4_layNear 97 = .ok (.iload 8, 2) := by decide +kernel
theorem dX4_layNear_99 : decode cX4_layNear 99 = .ok (.invokestatic 72, 3) := by decide +kernel
theorem dX4_layNear_102 : decode cX4_layNear 102 = .ok (.istore 13, 2) := by decide +kernel
theorem dX4_layNear_104 : decode cX4_layNear 104 = .ok (.aload_n 0, 1) := by decide +kernel
theorem dX4_layNear_105 : decode cX4_layNear 105 = .ok (.getfield 15, 3) := by decide +kernel
theorem dX4_layNear_108 : decode cX4_layNear 108 = .ok (.iload_n 1, 1) := by decide +kernel
theorem dX4_layNear_109 : decode cX4_layNear 109 = .ok (.iload 8, 2) := by decide +kernel
theorem dX4_layNear_111 : decode cX4_layNear 111 = .ok (.invokestatic 75, 3) := by decide +kernel
theorem dX4_layNear_114 : decode cX4_layNear 114 = .ok (.iload_n 1, 1) := by decide +kernel
theorem dX4_layNear_115 : decode cX4_layNear 115 = .ok (.iconst 1, 1) := by decide +kernel
theorem dX4_layNear_116 : decode cX4_layNear 116 = .ok (.iadd, 1) := by decide +kernel
theorem dX4_layNear_117 : decode cX4_layNear 117 = .ok (.iload_n 2, 1) := by decide +kernel
theorem dX4_layNear_118 : decode cX4_layNear 118 = .ok (.if_icmp .ge 73, 3) := by decide +kernel
theorem dX4_layNear_121 : decode cX4_layNear 121 = .ok (.aload_n 0, 1) := by decide +kernel
theorem dX4_layNear_122 : decode cX4_layNear 122 = .ok (.getfield 9, 3) := by decide +kernel
theorem dX4_layNear_125 : decode cX4_layNear 125 = .ok (.iload 9, 2) := by decide +kernel
theorem dX4_layNear_127 : decode cX4_layNear 127 = .ok (.aload_n 0, 1) := by decide +kernel
theorem dX4_layNear_128 : decode cX4_layNear 128 = .ok (.getfield 9, 3) := by decide +kernel
theorem dX4_layNear_131 : decode cX4_layNear 131 = .ok (.iload 9, 2) := by decide +kernel
theorem dX4_layNear_133 : decode cX4_layNear 133 = .ok (.invokestatic 52, 3) := by decide +kernel
theorem dX4_layNear_136 : decode cX4_layNear 136 = .ok (.iconst 1, 1) := by decide +kernel
theorem dX4_layNear_137 : decode cX4_layNear 137 = .ok (.isub, 1) := by decide +kernel
theorem dX4_layNear_138 : decode cX4_layNear 138 = .ok (.invokestatic 75, 3) := by decide +kernel
theorem dX4_layNear_141 : decode cX4_layNear 141 = .ok (.aload_n 0, 1) := by decide +kernel
theorem dX4_layNear_142 : decode cX4_layNear 142 = .ok (.iload_n 1, 1) := by decide +kernel
theorem dX4_layNear_143 : decode cX4_layNear 143 = .ok (.iconst 1, 1) := by decide +kernel
theorem dX4_layNear_144 : decode cX4_layNear 144 = .ok (.iadd, 1) := by decide +kernel
theorem dX4_layNear_145 : decode cX4_layNear 145 = .ok (.iload_n 2, 1) := by decide +kernel
theorem dX4_layNear_146 : decode cX4_layNear 146 = .ok (.lload 11, 2) := by decide +kernel
theorem dX4_layNear_148 : decode cX4_layNear 148 = .ok (.iload 13, 2) := by decide +kernel
theorem dX4_layNear_150 : decode cX4_layNear 150 = .ok (.iload 6, 2) := by decide +kernel
theorem dX4_layNear_152 : decode cX4_layNear 152 = .ok (.ifCond .ne 8, 3) := by decide +kernel
theorem dX4_layNear_155 : decode cX4_layNear 155 = .ok (.iload 10, 2) := by decide +kernel
theorem dX4_layNear_157 : decode cX4_layNear 157 = .ok (.ifCond .eq 7, 3) := by decide +kernel
theorem dX4_layNear_160 : decode cX4_layNear 160 = .ok (.iconst 1, 1) := by decide +kernel
theorem dX4_layNear_161 : decode cX4_layNear 161 = .ok (.goto 4, 3) := by decide +kernel
theorem dX4_layNear_164 : decode cX4_layNear 164 = .ok (.iconst 0, 1) := by decide +kernel
theorem dX4_layNear_165 : decode cX4_layNear 165 = .ok (.invokestatic 48, 3) := by decide +kernel
theorem dX4_layNear_168 : decode cX4_layNear 168 = .ok (.aload_n 0, 1) := by decide +kernel
theorem dX4_layNear_169 : decode cX4_layNear 169 = .ok (.getfield 9, 3) := by decide +kernel
theorem dX4_layNear_172 : decode cX4_layNear 172 = .ok (.iload 9, 2) := by decide +kernel
theorem dX4_layNear_174 : decode cX4_layNear 174 = .ok (.aload_n 0, 1) := by decide +kernel
theorem dX4_layNear_175 : decode cX4_layNear 175 = .ok (.getfield 9, 3) := by decide +kernel
theorem dX4_layNear_178 : decode cX4_layNear 178 = .ok (.iload 9, 2) := by decide +kernel
theorem dX4_layNear_180 : decode cX4_layNear 180 = .ok (.invokestatic 52, 3) := by decide +kernel
theorem dX4_layNear_183 : decode cX4_layNear 183 = .ok (.iconst 1, 1) := by decide +kernel
theorem dX4_layNear_184 : decode cX4_layNear 184 = .ok (.iadd, 1) := by decide +kernel
theorem dX4_layNear_185 : decode cX4_layNear 185 = .ok (.invokestatic 75, 3) := by decide +kernel
theorem dX4_layNear_188 : decode cX4_layNear 188 = .ok (.goto 21, 3) := by decide +kernel
theorem dX4_layNear_191 : decode cX4_layNear 191 = .ok (.iload 13, 2) := by decide +kernel
theorem dX4_layNear_193 : decode cX4_layNear 193 = .ok (.ifCond .ne 16, 3) := by decide +kernel
theorem dX4_layNear_196 : decode cX4_layNear 196 = .ok (.lload 11, 2) := by decide +kernel
theorem dX4_layNear_198 : decode cX4_layNear 198 = .ok (.lconst 0, 1) := by decide +kernel
theorem dX4_layNear_199 : decode cX4_layNear 199 = .ok (.lcmp, 1) := by decide +kernel
theorem dX4_layNear_200 : decode cX4_layNear 200 = .ok (.ifCond .eq 9, 3) := by decide +kernel
theorem dX4_layNear_203 : decode cX4_layNear 203 = .ok (.aload_n 0, 1) := by decide +kernel
theorem dX4_layNear_204 : decode cX4_layNear 204 = .ok (.lload 11, 2) := by decide +kernel
theorem dX4_layNear_206 : decode cX4_layNear 206 = .ok (.invokevirtual 79, 3) := by decide +kernel
theorem dX4_layNear_209 : decode cX4_layNear 209 = .ok (.iinc 8 1, 3) := by decide +kernel
theorem dX4_layNear_212 : decode cX4_layNear 212 = .ok (.goto (-181), 3) := by decide +kernel
theorem dX4_layNear_215 : decode cX4_layNear 215 = .ok (.return_, 1) := by decide +kernel
theorem dX4_keepIfNearer_0 : decode cX4_keepIfNearer 0 = .ok (.lload_n 1, 1) := by decide +kernel
theorem dX4_keepIfNearer_1 : decode cX4_keepIfNearer 1 = .ok (.invokestatic 83, 3) := by decide +kernel
theorem dX4_keepIfNearer_4 : decode cX4_keepIfNearer 4 = .ok (.lstore_n 3, 1) := by decide +kernel
theorem dX4_keepIfNearer_5 : decode cX4_keepIfNearer 5 = .ok (.lload_n 1, 1) := by decide +kernel
theorem dX4_keepIfNearer_6 : decode cX4_keepIfNearer 6 = .ok (.invokestatic 89, 3) := by decide +kernel
theorem dX4_keepIfNearer_9 : decode cX4_keepIfNearer 9 = .ok (.lstore 5, 2) := by decide +kernel
theorem dX4_keepIfNearer_11 : decode cX4_keepIfNearer 11 = .ok (.aload_n 0, 1) := by decide +kernel
theorem dX4_keepIfNearer_12 : decode cX4_keepIfNearer 12 = .ok (.getfield 38, 3) := by decide +kernel
theorem dX4_keepIfNearer_15 : decode cX4_keepIfNearer 15 = .ok (.ifCond .eq 22, 3) := by decide +kernel
theorem dX4_keepIfNearer_18 : decode cX4_keepIfNearer 18 = .ok (.lload_n 3, 1) := by decide +kernel
theorem dX4_keepIfNearer_19 : decode cX4_keepIfNearer 19 = .ok (.aload_n 0, 1) := by decide +kernel
theorem dX4_keepIfNearer_20 : decode cX4_keepIfNearer 20 = .ok (.getfield 92, 3) := by decide +kernel
theorem dX4_keepIfNearer_23 : decode cX4_keepIfNearer 23 = .ok (.lsub, 1) := by decide +kernel
theorem dX4_keepIfNearer_24 : decode cX4_keepIfNearer 24 = .ok (.lload 5, 2) := by decide +kernel
theorem dX4_keepIfNearer_26 : decode cX4_keepIfNearer 26 = .ok (.aload_n 0, 1) := by decide +kernel
theorem dX4_keepIfNearer_27 : decode cX4_keepIfNearer 27 = .ok (.getfield 96, 3) := by decide +kernel
theorem dX4_keepIfNearer_30 : decode cX4_keepIfNearer 30 = .ok (.lsub, 1) := by decide +kernel
theorem dX4_keepIfNearer_31 : decode cX4_keepIfNearer 31 = .ok (.invokestatic 99, 3) := by decide +kernel
theorem dX4_keepIfNearer_34 : decode cX4_keepIfNearer 34 = .ok (.ifCond .ge 30, 3) := by decide +kernel
theorem dX4_keepIfNearer_37 : decode cX4_keepIfNearer 37 = .ok (.aload_n 0, 1) := by decide +kernel
theorem dX4_keepIfNearer_38 : decode cX4_keepIfNearer 38 = .ok (.iconst 1, 1) := by decide +kernel
theorem dX4_keepIfNearer_39 : decode cX4_keepIfNearer 39 = .ok (.putfield 38, 3) := by decide +kernel
theorem dX4_keepIfNearer_42 : decode cX4_keepIfNearer 42 = .ok (.aload_n 0, 1) := by decide +kernel
theorem dX4_keepIfNearer_43 : decode cX4_keepIfNearer 43 = .ok (.lload_n 3, 1) := by decide +kernel
theorem dX4_keepIfNearer_44 : decode cX4_keepIfNearer 44 = .ok (.putfield 92, 3) := by decide +kernel
theorem dX4_keepIfNearer_47 : decode cX4_keepIfNearer 47 = .ok (.aload_n 0, 1) := by decide +kernel
theorem dX4_keepIfNearer_48 : decode cX4_keepIfNearer 48 = .ok (.lload 5, 2) := by decide +kernel
theorem dX4_keepIfNearer_50 : decode cX4_keepIfNearer 50 = .ok (.putfield 96, 3) := by decide +kernel
theorem dX4_keepIfNearer_53 : decode cX4_keepIfNearer 53 = .ok (.aload_n 0, 1) := by decide +kernel
theorem dX4_keepIfNearer_54 : decode cX4_keepIfNearer 54 = .ok (.getfield 15, 3) := by decide +kernel
theorem dX4_keepIfNearer_57 : decode cX4_keepIfNearer 57 = .ok (.aload_n 0, 1) := by decide +kernel
theorem dX4_keepIfNearer_58 : decode cX4_keepIfNearer 58 = .ok (.getfield 18, 3) := by decide +kernel
theorem dX4_keepIfNearer_61 : decode cX4_keepIfNearer 61 = .ok (.invokestatic 34, 3) := by decide +kernel
theorem dX4_keepIfNearer_64 : decode cX4_keepIfNearer 64 = .ok (.return_, 1) := by decide +kernel
theorem dX4_layTurns_0 : decode cX4_layTurns 0 = .ok (.iload_n 1, 1) := by decide +kernel
theorem dX4_layTurns_1 : decode cX4_layTurns 1 = .ok (.iload_n 2, 1) := by decide +kernel
theorem dX4_layTurns_2 : decode cX4_layTurns 2 = .ok (.if_icmp .lt 20, 3) := by decide +kernel
theorem dX4_layTurns_5 : decode cX4_layTurns 5 = .ok (.lload_n 3, 1) := by decide +kernel
theorem dX4_layTurns_6 : decode cX4_layTurns 6 = .ok (.lconst 0, 1) := by decide +kernel
theorem dX4_layTurns_7 : decode cX4_layTurns 7 = .ok (.lcmp, 1) := by decide +kernel
theorem dX4_layTurns_8 : decode cX4_layTurns 8 = .ok (.ifCond .ne 12, 3) := by decide +kernel
theorem dX4_layTurns_11 : decode cX4_layTurns 11 = .ok (.iload 5, 2) := by decide +kernel
theorem dX4_layTurns_13 : decode cX4_layTurns 13 = .ok (.ifCond .ne 7, 3) := by decide +kernel
theorem dX4_layTurns_16 : decode cX4_layTurns 16 = .ok (.iconst 1, 1) := by decide +kernel
theorem dX4_layTurns_17 : decode cX4_layTurns 17 = .ok (.goto 4, 3) := by decide +kernel
theorem dX4_layTurns_20 : decode cX4_layTurns 20 = .ok (.iconst 0, 1) := by decide +kernel
theorem dX4_layTurns_21 : decode cX4_layTurns 21 = .ok (.ireturn, 1) := by decide +kernel
theorem dX4_layTurns_22 : decode cX4_layTurns 22 = .ok (.iconst 0, 1) := by decide +kernel
theorem dX4_layTurns_23 : decode cX4_layTurns 23 = .ok (.istore 7, 2) := by decide +kernel
theorem dX4_layTurns_25 : decode cX4_layTurns 25 = .ok (.iconst 0, 1) := by decide +kernel
theorem dX4_layTurns_26 : decode cX4_layTurns 26 = .ok (.istore 8, 2) := by decide +kernel
theorem dX4_layTurns_28 : decode cX4_layTurns 28 = .ok (.iload 8, 2) := by decide +kernel
theorem dX4_layTurns_30 : decode cX4_layTurns 30 = .ok (.bipush 10, 2) := by decide +kernel
theorem dX4_layTurns_32 : decode cX4_layTurns 32 = .ok (.if_icmp .ge 127, 3) := by decide +kernel
theorem dX4_layTurns_35 : decode cX4_layTurns 35 = .ok (.getstatic 60, 3) := by decide +kernel
theorem dX4_layTurns_38 : decode cX4_layTurns 38 = .ok (.iload 8, 2) := by decide +kernel
theorem dX4_layTurns_40 : decode cX4_layTurns 40 = .ok (.invokestatic 52, 3) := by decide +kernel
theorem dX4_layTurns_43 : decode cX4_layTurns 43 = .ok (.istore 9, 2) := by decide +kernel
theorem dX4_layTurns_45 : decode cX4_layTurns 45 = .ok (.getstatic 63, 3) := by decide +kernel
theorem dX4_layTurns_48 : decode cX4_layTurns 48 = .ok (.iload 8, 2) := by decide +kernel
theorem dX4_layTurns_50 : decode cX4_layTurns 50 = .ok (.invokestatic 52, 3) := by decide +kernel
theorem dX4_layTurns_53 : decode cX4_layTurns 53 = .ok (.aload 6, 2) := by decide +kernel
theorem dX4_layTurns_55 : decode cX4_layTurns 55 = .ok (.iload_n 1, 1) := by decide +kernel
theorem dX4_layTurns_56 : decode cX4_layTurns 56 = .ok (.invokestatic 52, 3) := by decide +kernel
theorem dX4_layTurns_59 : decode cX4_layTurns 59 = .ok (.if_icmp .ne 94, 3) := by decide +kernel
theorem dX4_layTurns_62 : decode cX4_layTurns 62 = .ok (.aload_n 0, 1) := by decide +kernel
theorem dX4_layTurns_63 : decode cX4_layTurns 63 = .ok (.getfield 9, 3) := by decide +kernel
theorem dX4_layTurns_66 : decode cX4_layTurns 66 = .ok (.iload 9, 2) := by decide +kernel
theorem dX4_layTurns_68 : decode cX4_layTurns 68 = .ok (.invokestatic 52, 3) := by decide +kernel
theorem dX4_layTurns_71 : decode cX4_layTurns 71 = .ok (.ifCond .le 82, 3) := by decide +kernel
theorem dX4_layTurns_74 : decode cX4_layTurns 74 = .ok (.lload_n 3, 1) := by decide +kernel
theorem dX4_layTurns_75 : decode cX4_layTurns 75 = .ok (.aload_n 0, 1) := by decide +kernel
theorem dX4_layTurns_76 : decode cX4_layTurns 76 = .ok (.getfield 25, 3) := by decide +kernel
theorem dX4_layTurns_79 : decode cX4_layTurns 79 = .ok (.iload 5, 2) := by decide +kernel
theorem dX4_layTurns_81 : decode cX4_layTurns 81 = .ok (.iload 8, 2) := by decide +kernel
theorem dX4_layTurns_83 : decode cX4_layTurns 83 = .ok (.invokevirtual 66, 3) := by decide +kernel
theorem dX4_layTurns_86 : decode cX4_layTurns 86 = .ok (.ladd, 1) := by decide +kernel
theorem dX4_layTurns_87 : decode cX4_layTurns 87 = .ok (.lstore 10, 2) := by decide +kernel
theorem dX4_layTurns_89 : decode cX4_layTurns 89 = .ok (.aload_n 0, 1) := by decide +kernel
theorem dX4_layTurns_90 : decode cX4_layTurns 90 = .ok (.getfield 9, 3) := by decide +kernel
theorem dX4_layTurns_93 : decode cX4_layTurns 93 = .ok (.iload 9, 2) := by decide +kernel
theorem dX4_layTurns_95 : decode cX4_layTurns 95 = .ok (.aload_n 0, 1) := by decide +kernel
theorem dX4_layTurns_96 : decode cX4_layTurns 96 = .ok (.getfield 9, 3) := by decide +kernel
theorem dX4_layTurns_99 : decode cX4_layTurns 99 = .ok (.iload 9, 2) := by decide +kernel
theorem dX4_layTurns_101 : decode cX4_layTurns 101 = .ok (.invokestatic 52, 3) := by decide +kernel
theorem dX4_layTurns_104 : decode cX4_layTurns 104 = .ok (.iconst 1, 1) := by decide +kernel
theorem dX4_layTurns_105 : decode cX4_layTurns 105 = .ok (.isub, 1) := by decide +kernel
theorem dX4_layTurns_106 : decode cX4_layTurns 106 = .ok (.invokestatic 75, 3) := by decide +kernel
theorem dX4_layTurns_109 : decode cX4_layTurns 109 = .ok (.iload 7, 2) := by decide +kernel
theorem dX4_layTurns_111 : decode cX4_layTurns 111 = .ok (.aload_n 0, 1) := by decide +kernel
theorem dX4_layTurns_112 : decode cX4_layTurns 112 = .ok (.iload_n 1, 1) := by decide +kernel
theorem dX4_layTurns_113 : decode cX4_layTurns 113 = .ok (.iconst 1, 1) := by decide +kernel
theorem dX4_layTurns_114 : decode cX4_layTurns 114 = .ok (.iadd, 1) := by decide +kernel
theorem dX4_layTurns_115 : decode cX4_layTurns 115 = .ok (.iload_n 2, 1) := by decide +kernel
theorem dX4_layTurns_116 : decode cX4_layTurns 116 = .ok (.lload 10, 2) := by decide +kernel
theorem dX4_layTurns_118 : decode cX4_layTurns 118 = .ok (.iload 5, 2) := by decide +kernel
theorem dX4_layTurns_120 : decode cX4_layTurns 120 = .ok (.iload 8, 2) := by decide +kernel
theorem dX4_layTurns_122 : decode cX4_layTurns 122 = .ok (.invokestatic 72, 3) := by decide +kernel
theorem dX4_layTurns_125 : decode cX4_layTurns 125 = .ok (.aload 6, 2) := by decide +kernel
theorem dX4_layTurns_127 : decode cX4_layTurns 127 = .ok (.invokestatic 56, 3) := by decide +kernel
theorem dX4_layTurns_130 : decode cX4_layTurns 130 = .ok (.iadd, 1) := by decide +kernel
theorem dX4_layTurns_131 : decode cX4_layTurns 131 = .ok (.istore 7, 2) := by decide +kernel
theorem dX4_layTurns_133 : decode cX4_layTurns 133 = .ok (.aload_n 0, 1) := by decide +kernel
theorem dX4_layTurns_134 : decode cX4_layTurns 134 = .ok (.getfield 9, 3) := by decide +kernel
theorem dX4_layTurns_137 : decode cX4_layTurns 137 = .ok (.iload 9, 2) := by decide +kernel
theorem dX4_layTurns_139 : decode cX4_layTurns 139 = .ok (.aload_n 0, 1) := by decide +kernel
theorem dX4_layTurns_140 : decode cX4_layTurns 140 = .ok (.getfield 9, 3) := by decide +kernel
theorem dX4_layTurns_143 : decode cX4_layTurns 143 = .ok (.iload 9, 2) := by decide +kernel
theorem dX4_layTurns_145 : decode cX4_layTurns 145 = .ok (.invokestatic 52, 3) := by decide +kernel
theorem dX4_layTurns_148 : decode cX4_layTurns 148 = .ok (.iconst 1, 1) := by decide +kernel
theorem dX4_layTurns_149 : decode cX4_layTurns 149 = .ok (.iadd, 1) := by decide +kernel
theorem dX4_layTurns_150 : decode cX4_layTurns 150 = .ok (.invokestatic 75, 3) := by decide +kernel
theorem dX4_layTurns_153 : decode cX4_layTurns 153 = .ok (.iinc 8 1, 3) := by decide +kernel
theorem dX4_layTurns_156 : decode cX4_layTurns 156 = .ok (.goto (-128), 3) := by decide +kernel
theorem dX4_layTurns_159 : decode cX4_layTurns 159 = .ok (.iload 7, 2) := by decide +kernel
theorem dX4_layTurns_161 : decode cX4_layTurns 161 = .ok (.ireturn, 1) := by decide +kernel
theorem dX5_init_0 : decode cX5_init 0 = .ok (.aload_n 0, 1) := by decide +kernel
theorem dX5_init_1 : decode cX5_init 1 = .ok (.invokespecial 3, 3) := by decide +kernel
theorem dX5_init_4 : decode cX5_init 4 = .ok (.aload_n 0, 1) := by decide +kernel
theorem dX5_init_5 : decode cX5_init 5 = .ok (.bipush 25, 2) := by decide +kernel
theorem dX5_init_7 : decode cX5_init 7 = .ok (.newarray .long, 2) := by decide +kernel
theorem dX5_init_9 : decode cX5_init 9 = .ok (.putfield 9, 3) := by decide +kernel
theorem dX5_init_12 : decode cX5_init 12 = .ok (.aload_n 0, 1) := by decide +kernel
theorem dX5_init_13 : decode cX5_init 13 = .ok (.bipush 25, 2) := by decide +kernel
theorem dX5_init_15 : decode cX5_init 15 = .ok (.newarray .int, 2) := by decide +kernel
theorem dX5_init_17 : decode cX5_init 17 = .ok (.putfield 15, 3) := by decide +kernel
theorem dX5_init_20 : decode cX5_init 20 = .ok (.aload_n 0, 1) := by decide +kernel
theorem dX5_init_21 : decode cX5_init 21 = .ok (.bipush 24, 2) := by decide +kernel
theorem dX5_init_23 : decode cX5_init 23 = .ok (.newarray .int, 2) := by decide +kernel
theorem dX5_init_25 : decode cX5_init 25 = .ok (.putfield 19, 3) := by decide +kernel
theorem dX5_init_28 : decode cX5_init 28 = .ok (.aload_n 0, 1) := by decide +kernel
theorem dX5_init_29 : decode cX5_init 29 = .ok (.aload_n 1, 1) := by decide +kernel
theorem dX5_init_30 : decode cX5_init 30 = .ok (.putfield 22, 3) := by decide +kernel
theorem dX5_init_33 : decode cX5_init 33 = .ok (.return_, 1) := by decide +kernel
theorem dX5_follow_0 : decode cX5_follow 0 = .ok (.lconst 0, 1) := by decide +kernel
theorem dX5_follow_1 : decode cX5_follow 1 = .ok (.lstore_n 3, 1) := by decide +kernel
theorem dX5_follow_2 : decode cX5_follow 2 = .ok (.iconst 0, 1) := by decide +kernel
theorem dX5_follow_3 : decode cX5_follow 3 = .ok (.istore 5, 2) := by decide +kernel
theorem dX5_follow_5 : decode cX5_follow 5 = .ok (.iconst 0, 1) := by decide +kernel
theorem dX5_follow_6 : decode cX5_follow 6 = .ok (.istore 6, 2) := by decide +kernel
theorem dX5_follow_8 : decode cX5_follow 8 = .ok (.iload 6, 2) := by decide +kernel
theorem dX5_follow_10 : decode cX5_follow 10 = .ok (.iload_n 2, 1) := by decide +kernel
theorem dX5_follow_11 : decode cX5_follow 11 = .ok (.if_icmp .ge 76, 3) := by decide +kernel
theorem dX5_follow_14 : decode cX5_follow 14 = .ok (.aload_n 1, 1) := by decide +kernel
theorem dX5_follow_15 : decode cX5_follow 15 = .ok (.iload 6, 2) := by decide +kernel
theorem dX5_follow_17 : decode cX5_follow 17 = .ok (.invokestatic 26, 3) := by decide +kernel
theorem dX5_follow_20 : decode cX5_follow 20 = .ok (.istore 7, 2) := by decide +kernel
theorem dX5_follow_22 : decode cX5_follow 22 = .ok (.lload_n 3, 1) := by decide +kernel
theorem dX5_follow_23 : decode cX5_follow 23 = .ok (.aload_n 0, 1) := by decide +kernel
theorem dX5_follow_24 : decode cX5_follow 24 = .ok (.getfield 22, 3) := by decide +kernel
theorem dX5_follow_27 : decode cX5_follow 27 = .ok (.iload 5, 2) := by decide +kernel
theorem dX5_follow_29 : decode cX5_follow 29 = .ok (.iload 7, 2) := by decide +kernel
theorem dX5_follow_31 : decode cX5_follow 31 = .ok (.invokevirtual 30, 3) := by decide +kernel
theorem dX5_follow_34 : decode cX5_follow 34 = .ok (.ladd, 1) := by decide +kernel
theorem dX5_follow_35 : decode cX5_follow 35 = .ok (.lstore_n 3, 1) := by decide +kernel
theorem dX5_follow_36 : decode cX5_follow 36 = .ok (.iload 5, 2) := by decide +kernel
theorem dX5_follow_38 : decode cX5_follow 38 = .ok (.iload 7, 2) := by decide +kernel
theorem dX5_follow_40 : decode cX5_follow 40 = .ok (.invokestatic 36, 3) := by decide +kernel
theorem dX5_follow_43 : decode cX5_follow 43 = .ok (.istore 5, 2) := by decide +kernel
theorem dX5_follow_45 : decode cX5_follow 45 = .ok (.aload_n 0, 1) := by decide +kernel
theorem dX5_follow_46 : decode cX5_follow 46 = .ok (.getfield 19, 3) := by decide +kernel
theorem dX5_follow_49 : decode cX5_follow 49 = .ok (.iload 6, 2) := by decide +kernel
theorem dX5_follow_51 : decode cX5_follow 51 = .ok (.iload 7, 2) := by decide +kernel
theorem dX5_follow_53 : decode cX5_follow 53 = .ok (.invokestatic 40, 3) := by decide +kernel
theorem dX5_follow_56 : decode cX5_follow 56 = .ok (.aload_n 0, 1) := by decide +kernel
theorem dX5_follow_57 : decode cX5_follow 57 = .ok (.getfield 9, 3) := by decide +kernel
theorem dX5_follow_60 : decode cX5_follow 60 = .ok (.iload 6, 2) := by decide +kernel
theorem dX5_follow_62 : decode cX5_follow 62 = .ok (.iconst 1, 1) := by decide +kernel
theorem dX5_follow_63 : decode cX5_follow 63 = .ok (.iadd, 1) := by decide +kernel
theorem dX5_follow_64 : decode cX5_follow 64 = .ok (.lload_n 3, 1) := by decide +kernel
theorem dX5_follow_65 : decode cX5_follow 65 = .ok (.invokestatic 44, 3) := by decide +kernel
theorem dX5_follow_68 : decode cX5_follow 68 = .ok (.aload_n 0, 1) := by decide +kernel
theorem dX5_follow_69 : decode cX5_follow 69 = .ok (.getfield 15, 3) := by decide +kernel
theorem dX5_follow_72 : decode cX5_follow 72 = .ok (.iload 6, 2) := by decide +kernel
theorem dX5_follow_74 : decode cX5_follow 74 = .ok (.iconst 1, 1) := by decide +kernel
theorem dX5_follow_75 : decode cX5_follow 75 = .ok (.iadd, 1) := by decide +kernel
theorem dX5_follow_76 : decode cX5_follow 76 = .ok (.iload 5, 2) := by decide +kernel
theorem dX5_follow_78 : decode cX5_follow 78 = .ok (.invokestatic 40, 3) := by decide +kernel
theorem dX5_follow_81 : decode cX5_follow 81 = .ok (.iinc 6 1, 3) := by decide +kernel
theorem dX5_follow_84 : decode cX5_follow 84 = .ok (.goto (-76), 3) := by decide +kernel
theorem dX5_follow_87 : decode cX5_follow 87 = .ok (.aload_n 0, 1) := by decide +kernel
theorem dX5_follow_88 : decode cX5_follow 88 = .ok (.iload_n 2, 1) := by decide +kernel
theorem dX5_follow_89 : decode cX5_follow 89 = .ok (.putfield 48, 3) := by decide +kernel
theorem dX5_follow_92 : decode cX5_follow 92 = .ok (.return_, 1) := by decide +kernel
theorem dX5_end_0 : decode cX5_end 0 = .ok (.aload_n 0, 1) := by decide +kernel
theorem dX5_end_1 : decode cX5_end 1 = .ok (.getfield 9, 3) := by decide +kernel
theorem dX5_end_4 : decode cX5_end 4 = .ok (.aload_n 0, 1) := by decide +kernel
theorem dX5_end_5 : decode cX5_end 5 = .ok (.getfield 48, 3) := by decide +kernel
theorem dX5_end_8 : decode cX5_end 8 = .ok (.invokestatic 52, 3) := by decide +kernel
theorem dX5_end_11 : decode cX5_end 11 = .ok (.lreturn, 1) := by decide +kernel
theorem dX5_isClosed_0 : decode cX5_isClosed 0 = .ok (.aload_n 0, 1) := by decide +kernel
theorem dX5_isClosed_1 : decode cX5_isClosed 1 = .ok (.getfield 48, 3) := by decide +kernel
theorem dX5_isClosed_4 : decode cX5_isClosed 4 = .ok (.ifCond .le 30, 3) := by decide +kernel
theorem dX5_isClosed_7 : decode cX5_isClosed 7 = .ok (.aload_n 0, 1) := by decide +kernel
theorem dX5_isClosed_8 : decode cX5_isClosed 8 = .ok (.invokevirtual 56, 3) := by decide +kernel
theorem dX5_isClosed_11 : decode cX5_isClosed 11 = .ok (.lconst 0, 1) := by decide +kernel
theorem dX5_isClosed_12 : decode cX5_isClosed 12 = .ok (.lcmp, 1) := by decide +kernel
theorem dX5_isClosed_13 : decode cX5_isClosed 13 = .ok (.ifCond .ne 21, 3) := by decide +kernel
theorem dX5_isClosed_16 : decode cX5_isClosed 16 = .ok (.aload_n 0, 1) := by decide +kernel
theorem dX5_isClosed_17 : decode cX5_isClosed 17 = .ok (.getfield 15, 3) := by decide +kernel
theorem dX5_isClosed_20 : decode cX5_isClosed 20 = .ok (.aload_n 0, 1) := by decide +kernel
theorem dX5_isClosed_21 : decode cX5_isClosed 21 = .ok (.getfield 48, 3) := by decide +kernel
theorem dX5_isClosed_24 : decode cX5_isClosed 24 = .ok (.invokestatic 26, 3) := by decide +kernel
theorem dX5_isClosed_27 : decode cX5_isClosed 27 = .ok (.ifCond .ne 7, 3) := by decide +kernel
theorem dX5_isClosed_30 : decode cX5_isClosed 30 = .ok (.iconst 1, 1) := by decide +kernel
theorem dX5_isClosed_31 : decode cX5_isClosed 31 = .ok (.goto 4, 3) := by decide +kernel
theorem dX5_isClosed_34 : decode cX5_isClosed 34 = .ok (.iconst 0, 1) := by decide +kernel
theorem dX5_isClosed_35 : decode cX5_isClosed 35 = .ok (.ireturn, 1) := by decide +kernel
theorem dX5_firstTouch_0 : decode cX5_firstTouch 0 = .ok (.aload_n 0, 1) := by decide +kernel
theorem dX5_firstTouch_1 : decode cX5_firstTouch 1 = .ok (.invokevirtual 60, 3) := by decide +kernel
theorem dX5_firstTouch_4 : decode cX5_firstTouch 4 = .ok (.istore_n 1, 1) := by decide +kernel
theorem dX5_firstTouch_5 : decode cX5_firstTouch 5 = .ok (.iconst 1, 1) := by decide +kernel
theorem dX5_firstTouch_6 : decode cX5_firstTouch 6 = .ok (.istore_n 2, 1) := by decide +kernel
theorem dX5_firstTouch_7 : decode cX5_firstTouch 7 = .ok (.iload_n 2, 1) := by decide +kernel
theorem dX5_firstTouch_8 : decode cX5_firstTouch 8 = .ok (.aload_n 0, 1) := by decide +kernel
theorem dX5_firstTouch_9 : decode cX5_firstTouch 9 = .ok (.getfield 48, 3) := by decide +kernel
theorem dX5_firstTouch_12 : decode cX5_firstTouch 12 = .ok (.if_icmp .gt 93, 3) := by decide +kernel
theorem dX5_firstTouch_15 : decode cX5_firstTouch 15 = .ok (.iconst 0, 1) := by decide +kernel
theorem dX5_firstTouch_16 : decode cX5_firstTouch 16 = .ok (.istore_n 3, 1) := by decide +kernel
theorem dX5_firstTouch_17 : decode cX5_firstTouch 17 = .ok (.iload_n 3, 1) := by decide +kernel
theorem dX5_firstTouch_18 : decode cX5_firstTouch 18 = .ok (.iload_n 2, 1) := by decide +kernel
theorem dX5_firstTouch_19 : decode cX5_firstTouch 19 = .ok (.if_icmp .ge 80, 3) := by decide +kernel
theorem dX5_firstTouch_22 : decode cX5_firstTouch 22 = .ok (.aload_n 0, 1) := by decide +kernel
theorem dX5_firstTouch_23 : decode cX5_firstTouch 23 = .ok (.getfield 9, 3) := by decide +kernel
theorem dX5_firstTouch_26 : decode cX5_firstTouch 26 = .ok (.iload_n 2, 1) := by decide +kernel
theorem dX5_firstTouch_27 : decode cX5_firstTouch 27 = .ok (.invokestatic 52, 3) := by decide +kernel
theorem dX5_firstTouch_30 : decode cX5_firstTouch 30 = .ok (.aload_n 0, 1) := by decide +kernel
theorem dX5_firstTouch_31 : decode cX5_firstTouch 31 = .ok (.getfield 9, 3) := by decide +kernel
theorem dX5_firstTouch_34 : decode cX5_firstTouch 34 = .ok (.iload_n 3, 1) := by decide +kernel
theorem dX5_firstTouch_35 : decode cX5_firstTouch 35 = .ok (.invokestatic 52, 3) := by decide +kernel
theorem dX5_firstTouch_38 : decode cX5_firstTouch 38 = .ok (.lcmp, 1) := by decide +kernel
theorem dX5_firstTouch_39 : decode cX5_firstTouch 39 = .ok (.ifCond .ne 7, 3) := by decide +kernel
theorem dX5_firstTouch_42 : decode cX5_firstTouch 42 = .ok (.iconst 1, 1) := by decide +kernel
theorem dX5_firstTouch_43 : decode cX5_firstTouch 43 = .ok (.goto 4, 3) := by decide +kernel
theorem dX5_firstTouch_46 : decode cX5_firstTouch 46 = .ok (.iconst 0, 1) := by decide +kernel
theorem dX5_firstTouch_47 : decode cX5_firstTouch 47 = .ok (.istore 4, 2) := by decide +kernel
theorem dX5_firstTouch_49 : decode cX5_firstTouch 49 = .ok (.iload_n 1, 1) := by decide +kernel
theorem dX5_firstTouch_50 : decode cX5_firstTouch 50 = .ok (.ifCond .eq 19, 3) := by decide +kernel
theorem dX5_firstTouch_53 : decode cX5_firstTouch 53 = .ok (.iload_n 2, 1) := by decide +kernel
theorem dX5_firstTouch_54 : decode cX5_firstTouch 54 = .ok (.aload_n 0, 1) := by decide +kernel
theorem dX5_firstTouch_55 : decode cX5_firstTouch 55 = .ok (.getfield 48, 3) := by decide +kernel
theorem dX5_firstTouch_58 : decode cX5_firstTouch 58 = .ok (.if_icmp .ne 11, 3) := by decide +kernel
theorem dX5_firstTouch_61 : decode cX5_firstTouch 61 = .ok (.iload_n 3, 1) := by decide +kernel
theorem dX5_firstTouch_62 : decode cX5_firstTouch 62 = .ok (.ifCond .ne 7, 3) := by decide +kernel
theorem dX5_firstTouch_65 : decode cX5_firstTouch 65 = .ok (.iconst 1, 1) := by decide +kernel
theorem dX5_firstTouch_66 : decode cX5_firstTouch 66 = .ok (.goto 4, 3) := by decide +kernel
theorem dX5_firstTouch_69 : decode cX5_firstTouch 69 = .ok (.iconst 0, 1) := by decide +kernel
theorem dX5_firstTouch_70 : decode cX5_firstTouch 70 = .ok (.istore 5, 2) := by decide +kernel
theorem dX5_firstTouch_72 : decode cX5_firstTouch 72 = .ok (.iload 4, 2) := by decide +kernel
theorem dX5_firstTouch_74 : decode cX5_firstTouch 74 = .ok (.ifCond .eq 19, 3) := by decide +kernel
theorem dX5_firstTouch_77 : decode cX5_firstTouch 77 = .ok (.iload 5, 2) := by decide +kernel
theorem dX5_firstTouch_79 : decode cX5_firstTouch 79 = .ok (.ifCond .ne 14, 3) := by decide +kernel
theorem dX5_firstTouch_82 : decode cX5_firstTouch 82 = .ok (.aload_n 0, 1) := by decide +kernel
theorem dX5_firstTouch_83 : decode cX5_firstTouch 83 = .ok (.iload_n 2, 1) := by decide +kernel
theorem dX5_firstTouch_84 : decode cX5_firstTouch 84 = .ok (.iload_n 3, 1) := by decide +kernel
theorem dX5_firstTouch_85 : decode cX5_firstTouch 85 = .ok (.invokevirtual 64, 3) := by decide +kernel
theorem dX5_firstTouch_88 : decode cX5_firstTouch 88 = .ok (.ifCond .ne 5, 3) := by decide +kernel
theorem dX5_firstTouch_91 : decode cX5_firstTouch 91 = .ok (.iload_n 2, 1) := by decide +kernel
theorem dX5_firstTouch_92 : decode cX5_firstTouch 92 = .ok (.ireturn, 1) := by decide +kernel
theorem dX5_firstTouch_93 : decode cX5_firstTouch 93 = .ok (.iinc 3 1, 3) := by decide +kernel
theorem dX5_firstTouch_96 : decode cX5_firstTouch 96 = .ok (.goto (-79), 3) := by decide +kernel
theorem dX5_firstTouch_99 : decode cX5_firstTouch 99 = .ok (.iinc 2 1, 3) := by decide +kernel
theorem dX5_firstTouch_102 : decode cX5_firstTouch 102 = .ok (.goto (-95), 3) := by decide +kernel
theorem dX5_firstTouch_105 : decode cX5_firstTouch 105 = .ok (.bipush (-9), 2) := by decide +kernel
theorem dX5_firstTouch_107 : decode cX5_firstTouch 107 = .ok (.ireturn, 1) := by decide +kernel
theorem dX5_areCrossings_0 : decode cX5_areCrossings 0 = .ok (.iload_n 2, 1) := by decide +kernel
theorem dX5_areCrossings_1 : decode cX5_areCrossings 1 = .ok (.ifCond .le 37, 3) := by decide +kernel
theorem dX5_areCrossings_4 : decode cX5_areCrossings 4 = .ok (.aload_n 0, 1) := by decide +kernel
theorem dX5_areCrossings_5 : decode cX5_areCrossings 5 = .ok (.getfield 19, 3) := by decide +kernel
theorem dX5_areCrossings_8 : decode cX5_areCrossings 8 = .ok (.iload_n 1, 1) := by decide +kernel
theorem dX5_areCrossings_9 : decode cX5_areCrossings 9 = .ok (.iconst 1, 1) := by decide +kernel
theorem dX5_areCrossings_10 : decode cX5_areCrossings 10 = .ok (.isub, 1) := by decide +kernel
theorem dX5_areCrossings_11 : decode cX5_areCrossings 11 = .ok (.invokestatic 26, 3) := by decide +kernel
theorem dX5_areCrossings_14 : decode cX5_areCrossings 14 = .ok (.bipush 9, 2) := by decide +kernel
theorem dX5_areCrossings_16 : decode cX5_areCrossings 16 = .ok (.if_icmp .ne 22, 3) := by decide +kernel
theorem dX5_areCrossings_19 : decode cX5_areCrossings 19 = .ok (.aload_n 0, 1) := by decide +kernel
theorem dX5_areCrossings_20 : decode cX5_areCrossings 20 = .ok (.getfield 19, 3) := by decide +kernel
theorem dX5_areCrossings_23 : decode cX5_areCrossings 23 = .ok (.iload_n 2, 1) := by decide +kernel
theorem dX5_areCrossings_24 : decode cX5_areCrossings 24 = .ok (.iconst 1, 1) := by decide +kernel
theorem dX5_areCrossings_25 : decode cX5_areCrossings 25 = .ok (.isub, 1) := by decide +kernel
theorem dX5_areCrossings_26 : decode cX5_areCrossings 26 = .ok (.invokestatic 26, 3) := by decide +kernel
theorem dX5_areCrossings_29 : decode cX5_areCrossings 29 = .ok (.bipush 9, 2) := by decide +kernel
theorem dX5_areCrossings_31 : decode cX5_areCrossings 31 = .ok (.if_icmp .ne 7, 3) := by decide +kernel
theorem dX5_areCrossings_34 : decode cX5_areCrossings 34 = .ok (.iconst 1, 1) := by decide +kernel
theorem dX5_areCrossings_35 : decode cX5_areCrossings 35 = .ok (.goto 4, 3) := by decide +kernel
theorem dX5_areCrossings_38 : decode cX5_areCrossings 38 = .ok (.iconst 0, 1) := by decide +kernel
theorem dX5_areCrossings_39 : decode cX5_areCrossings 39 = .ok (.ireturn, 1) := by decide +kernel
theorem dX6_init_0 : decode cX6_init 0 = .ok (.aload_n 0, 1) := by decide +kernel
theorem dX6_init_1 : decode cX6_init 1 = .ok (.invokespecial 1, 3) := by decide +kernel
theorem dX6_init_4 : decode cX6_init 4 = .ok (.aload_n 0, 1) := by decide +kernel
theorem dX6_init_5 : decode cX6_init 5 = .ok (.new 7, 3) := by decide +kernel
theorem dX6_init_8 : decode cX6_init 8 = .ok (.dup, 1) := by decide +kernel
theorem dX6_init_9 : decode cX6_init 9 = .ok (.invokespecial 9, 3) := by decide +kernel
theorem dX6_init_12 : decode cX6_init 12 = .ok (.putfield 10, 3) := by decide +kernel
theorem dX6_init_15 : decode cX6_init 15 = .ok (.aload_n 0, 1) := by decide +kernel
theorem dX6_init_16 : decode cX6_init 16 = .ok (.new 7, 3) := by decide +kernel
theorem dX6_init_19 : decode cX6_init 19 = .ok (.dup, 1) := by decide +kernel
theorem dX6_init_20 : decode cX6_init 20 = .ok (.invokespecial 9, 3) := by decide +kernel
theorem dX6_init_23 : decode cX6_init 23 = .ok (.putfield 16, 3) := by decide +kernel
theorem dX6_init_26 : decode cX6_init 26 = .ok (.aload_n 0, 1) := by decide +kernel
theorem dX6_init_27 : decode cX6_init 27 = .ok (.new 19, 3) := by decide +kernel
theorem dX6_init_30 : decode cX6_init 30 = .ok (.dup, 1) := by decide +kernel
theorem dX6_init_31 : decode cX6_init 31 = .ok (.invokespecial 21, 3) := by decide +kernel
theorem dX6_init_34 : decode cX6_init 34 = .ok (.putfield 22, 3) := by decide +kernel
theorem dX6_init_37 : decode cX6_init 37 = .ok (.aload_n 0, 1) := by decide +kernel
theorem dX6_init_38 : decode cX6_init 38 = .ok (.new 26, 3) := by decide +kernel
theorem dX6_init_41 : decode cX6_init 41 = .ok (.dup, 1) := by decide +kernel
theorem dX6_init_42 : decode cX6_init 42 = .ok (.aload_n 0, 1) := by decide +kernel
theorem dX6_init_43 : decode cX6_init 43 = .ok (.getfield 22, 3) := by decide +kernel
theorem dX6_init_46 : decode cX6_init 46 = .ok (.invokespecial 28, 3) := by decide +kernel
theorem dX6_init_49 : decode cX6_init 49 = .ok (.putfield 31, 3) := by decide +kernel
theorem dX6_init_52 : decode cX6_init 52 = .ok (.aload_n 0, 1) := by decide +kernel
theorem dX6_init_53 : decode cX6_init 53 = .ok (.new 35, 3) := by decide +kernel
theorem dX6_init_56 : decode cX6_init 56 = .ok (.dup, 1) := by decide +kernel
theorem dX6_init_57 : decode cX6_init 57 = .ok (.aload_n 0, 1) := by decide +kernel
theorem dX6_init_58 : decode cX6_init 58 = .ok (.getfield 10, 3) := by decide +kernel
theorem dX6_init_61 : decode cX6_init 61 = .ok (.aload_n 0, 1) := by decide +kernel
theorem dX6_init_62 : decode cX6_init 62 = .ok (.getfield 22, 3) := by decide +kernel
theorem dX6_init_65 : decode cX6_init 65 = .ok (.aload_n 0, 1) := by decide +kernel
theorem dX6_init_66 : decode cX6_init 66 = .ok (.getfield 31, 3) := by decide +kernel
theorem dX6_init_69 : decode cX6_init 69 = .ok (.invokespecial 37, 3) := by decide +kernel
theorem dX6_init_72 : decode cX6_init 72 = .ok (.putfield 40, 3) := by decide +kernel
theorem dX6_init_75 : decode cX6_init 75 = .ok (.aload_n 0, 1) := by decide +kernel
theorem dX6_init_76 : decode cX6_init 76 = .ok (.new 44, 3) := by decide +kernel
theorem dX6_init_79 : decode cX6_init 79 = .ok (.dup, 1) := by decide +kernel
theorem dX6_init_80 : decode cX6_init 80 = .ok (.aload_n 0, 1) := by decide +kernel
theorem dX6_init_81 : decode cX6_init 81 = .ok (.getfield 10, 3) := by decide +kernel
theorem dX6_init_84 : decode cX6_init 84 = .ok (.aload_n 0, 1) := by decide +kernel
theorem dX6_init_85 : decode cX6_init 85 = .ok (.getfield 22, 3) := by decide +kernel
theorem dX6_init_88 : decode cX6_init 88 = .ok (.invokespecial 46, 3) := by decide +kernel
theorem dX6_init_91 : decode cX6_init 91 = .ok (.putfield 49, 3) := by decide +kernel
theorem dX6_init_94 : decode cX6_init 94 = .ok (.aload_n 0, 1) := by decide +kernel
theorem dX6_init_95 : decode cX6_init 95 = .ok (.bipush 24, 2) := by decide +kernel
theorem dX6_init_97 : decode cX6_init 97 = .ok (.newarray .int, 2) := by decide +kernel
theorem dX6_init_99 : decode cX6_init 99 = .ok (.putfield 53, 3) := by decide +kernel
theorem dX6_init_102 : decode cX6_init 102 = .ok (.aload_n 0, 1) := by decide +kernel
theorem dX6_init_103 : decode cX6_init 103 = .ok (.bipush 6, 2) := by decide +kernel
theorem dX6_init_105 : decode cX6_init 105 = .ok (.newarray .int, 2) := by decide +kernel
theorem dX6_init_107 : decode cX6_init 107 = .ok (.putfield 57, 3) := by decide +kernel
theorem dX6_init_110 : decode cX6_init 110 = .ok (.aload_n 0, 1) := by decide +kernel
theorem dX6_init_111 : decode cX6_init 111 = .ok (.bipush 7, 2) := by decide +kernel
theorem dX6_init_113 : decode cX6_init 113 = .ok (.newarray .int, 2) := by decide +kernel
theorem dX6_init_115 : decode cX6_init 115 = .ok (.putfield 60, 3) := by decide +kernel
theorem dX6_init_118 : decode cX6_init 118 = .ok (.aload_n 0, 1) := by decide +kernel
theorem dX6_init_119 : decode cX6_init 119 = .ok (.getfield 22, 3) := by decide +kernel
theorem dX6_init_122 : decode cX6_init 122 = .ok (.aload_n 0, 1) := by decide +kernel
theorem dX6_init_123 : decode cX6_init 123 = .ok (.getfield 10, 3) := by decide +kernel
theorem dX6_init_126 : decode cX6_init 126 = .ok (.getfield 63, 3) := by decide +kernel
theorem dX6_init_129 : decode cX6_init 129 = .ok (.invokevirtual 66, 3) := by decide +kernel
theorem dX6_init_132 : decode cX6_init 132 = .ok (.return_, 1) := by decide +kernel
theorem dX6_feed_0 : decode cX6_feed 0 = .ok (.iload_n 1, 1) := by decide +kernel
theorem dX6_feed_1 : decode cX6_feed 1 = .ok (.iconst 1, 1) := by decide +kernel
theorem dX6_feed_2 : decode cX6_feed 2 = .ok (.if_icmp .ge 10, 3) := by decide +kernel
theorem dX6_feed_5 : decode cX6_feed 5 = .ok (.aload_n 0, 1) := by decide +kernel
theorem dX6_feed_6 : decode cX6_feed 6 = .ok (.bipush (-4), 2) := by decide +kernel
theorem dX6_feed_8 : decode cX6_feed 8 = .ok (.invokevirtual 70, 3) := by decide +kernel
theorem dX6_feed_11 : decode cX6_feed 11 = .ok (.ireturn, 1) := by decide +kernel
theorem dX6_feed_12 : decode cX6_feed 12 = .ok (.iload_n 1, 1) := by decide +kernel
theorem dX6_feed_13 : decode cX6_feed 13 = .ok (.bipush 8, 2) := by decide +kernel
theorem dX6_feed_15 : decode cX6_feed 15 = .ok (.if_icmp .gt 14, 3) := by decide +kernel
theorem dX6_feed_18 : decode cX6_feed 18 = .ok (.aload_n 0, 1) := by decide +kernel
theorem dX6_feed_19 : decode cX6_feed 19 = .ok (.getfield 74, 3) := by decide +kernel
theorem dX6_feed_22 : decode cX6_feed 22 = .ok (.iload_n 1, 1) := by decide +kernel
theorem dX6_feed_23 : decode cX6_feed 23 = .ok (.iadd, 1) := by decide +kernel
theorem dX6_feed_24 : decode cX6_feed 24 = .ok (.bipush 24, 2) := by decide +kernel
theorem dX6_feed_26 : decode cX6_feed 26 = .ok (.if_icmp .le 10, 3) := by decide +kernel
theorem dX6_feed_29 : decode cX6_feed 29 = .ok (.aload_n 0, 1) := by decide +kernel
theorem dX6_feed_30 : decode cX6_feed 30 = .ok (.bipush (-6), 2) := by decide +kernel
theorem dX6_feed_32 : decode cX6_feed 32 = .ok (.invokevirtual 70, 3) := by decide +kernel
theorem dX6_feed_35 : decode cX6_feed 35 = .ok (.ireturn, 1) := by decide +kernel
theorem dX6_feed_36 : decode cX6_feed 36 = .ok (.iconst 0, 1) := by decide +kernel
theorem dX6_feed_37 : decode cX6_feed 37 = .ok (.istore 4, 2) := by decide +kernel
theorem dX6_feed_39 : decode cX6_feed 39 = .ok (.iload 4, 2) := by decide +kernel
theorem dX6_feed_41 : decode cX6_feed 41 = .ok (.iload_n 1, 1) := by decide +kernel
theorem dX6_feed_42 : decode cX6_feed 42 = .ok (.if_icmp .ge 35, 3) := by decide +kernel
theorem dX6_feed_45 : decode cX6_feed 45 = .ok (.aload_n 0, 1) := by decide +kernel
theorem dX6_feed_46 : decode cX6_feed 46 = .ok (.getfield 53, 3) := by decide +kernel
theorem dX6_feed_49 : decode cX6_feed 49 = .ok (.aload_n 0, 1) := by decide +kernel
theorem dX6_feed_50 : decode cX6_feed 50 = .ok (.getfield 74, 3) := by decide +kernel
theorem dX6_feed_53 : decode cX6_feed 53 = .ok (.iload 4, 2) := by decide +kernel
theorem dX6_feed_55 : decode cX6_feed 55 = .ok (.iadd, 1) := by decide +kernel
theorem dX6_feed_56 : decode cX6_feed 56 = .ok (.lload_n 2, 1) := by decide +kernel
theorem dX6_feed_57 : decode cX6_feed 57 = .ok (.bipush 8, 2) := by decide +kernel
theorem dX6_feed_59 : decode cX6_feed 59 = .ok (.iload 4, 2) := by decide +kernel
theorem dX6_feed_61 : decode cX6_feed 61 = .ok (.imul, 1) := by decide +kernel
theorem dX6_feed_62 : decode cX6_feed 62 = .ok (.lushr, 1) := by decide +kernel
theorem dX6_feed_63 : decode cX6_feed 63 = .ok (.l2i, 1) := by decide +kernel
theorem dX6_feed_64 : decode cX6_feed 64 = .ok (.sipush 255, 3) := by decide +kernel
theorem dX6_feed_67 : decode cX6_feed 67 = .ok (.iand, 1) := by decide +kernel
theorem dX6_feed_68 : decode cX6_feed 68 = .ok (.invokestatic 78, 3) := by decide +kernel
theorem dX6_feed_71 : decode cX6_feed 71 = .ok (.iinc 4 1, 3) := by decide +kernel
theorem dX6_feed_74 : decode cX6_feed 74 = .ok (.goto (-35), 3) := by decide +kernel
theorem dX6_feed_77 : decode cX6_feed 77 = .ok (.aload_n 0, 1) := by decide +kernel
theorem dX6_feed_78 : decode cX6_feed 78 = .ok (.dup, 1) := by decide +kernel
theorem dX6_feed_79 : decode cX6_feed 79 = .ok (.getfield 74, 3) := by decide +kernel
theorem dX6_feed_82 : decode cX6_feed 82 = .ok (.iload_n 1, 1) := by decide +kernel
theorem dX6_feed_83 : decode cX6_feed 83 = .ok (.iadd, 1) := by decide +kernel
theorem dX6_feed_84 : decode cX6_feed 84 = .ok (.putfield 74, 3) := by decide +kernel
theorem dX6_feed_87 : decode cX6_feed 87 = .ok (.aload_n 0, 1) := by decide +kernel
theorem dX6_feed_88 : decode cX6_feed 88 = .ok (.getfield 74, 3) := by decide +kernel
theorem dX6_feed_91 : decode cX6_feed 91 = .ok (.ireturn, 1) := by decide +kernel
theorem dX6_row_0 : decode cX6_row 0 = .ok (.aload_n 0, 1) := by decide +kernel
theorem dX6_row_1 : decode cX6_row 1 = .ok (.getfield 74, 3) := by decide +kernel
theorem dX6_row_4 : decode cX6_row 4 = .ok (.istore_n 1, 1) := by decide +kernel
theorem dX6_row_5 : decode cX6_row 5 = .ok (.aload_n 0, 1) := by decide +kernel
theorem dX6_row_6 : decode cX6_row 6 = .ok (.iconst 0, 1) := by decide +kernel
theorem dX6_row_7 : decode cX6_row 7 = .ok (.putfield 74, 3) := by decide +kernel
theorem dX6_row_10 : decode cX6_row 10 = .ok (.iconst 0, 1) := by decide +kernel
theorem dX6_row_11 : decode cX6_row 11 = .ok (.istore_n 2, 1) := by decide +kernel
theorem dX6_row_12 : decode cX6_row 12 = .ok (.iload_n 2, 1) := by decide +kernel
theorem dX6_row_13 : decode cX6_row 13 = .ok (.iload_n 1, 1) := by decide +kernel
theorem dX6_row_14 : decode cX6_row 14 = .ok (.if_icmp .ge 39, 3) := by decide +kernel
theorem dX6_row_17 : decode cX6_row 17 = .ok (.aload_n 0, 1) := by decide +kernel
theorem dX6_row_18 : decode cX6_row 18 = .ok (.getfield 53, 3) := by decide +kernel
theorem dX6_row_21 : decode cX6_row 21 = .ok (.iload_n 2, 1) := by decide +kernel
theorem dX6_row_22 : decode cX6_row 22 = .ok (.invokestatic 82, 3) := by decide +kernel
theorem dX6_row_25 : decode cX6_row 25 = .ok (.invokestatic 86, 3) := by decide +kernel
theorem dX6_row_28 : decode cX6_row 28 = .ok (.istore_n 3, 1) := by decide +kernel
theorem dX6_row_29 : decode cX6_row 29 = .ok (.iload_n 3, 1) := by decide +kernel
theorem dX6_row_30 : decode cX6_row 30 = .ok (.ifCond .ge 8, 3) := by decide +kernel
theorem dX6_row_33 : decode cX6_row 33 = .ok (.bipush (-20), 2) := by decide +kernel
theorem dX6_row_35 : decode cX6_row 35 = .ok (.iload_n 2, 1) := by decide +kernel
theorem dX6_row_36 : decode cX6_row 36 = .ok (.isub, 1) := by decide +kernel
theorem dX6_row_37 : decode cX6_row 37 = .ok (.ireturn, 1) := by decide +kernel
theorem dX6_row_38 : decode cX6_row 38 = .ok (.aload_n 0, 1) := by decide +kernel
theorem dX6_row_39 : decode cX6_row 39 = .ok (.getfield 53, 3) := by decide +kernel
theorem dX6_row_42 : decode cX6_row 42 = .ok (.iload_n 2, 1) := by decide +kernel
theorem dX6_row_43 : decode cX6_row 43 = .ok (.iload_n 3, 1) := by decide +kernel
theorem dX6_row_44 : decode cX6_row 44 = .ok (.invokestatic 78, 3) := by decide +kernel
theorem dX6_row_47 : decode cX6_row 47 = .ok (.iinc 2 1, 3) := by decide +kernel
theorem dX6_row_50 : decode cX6_row 50 = .ok (.goto (-38), 3) := by decide +kernel
theorem dX6_row_53 : decode cX6_row 53 = .ok (.aload_n 0, 1) := by decide +kernel
theorem dX6_row_54 : decode cX6_row 54 = .ok (.getfield 10, 3) := by decide +kernel
theorem dX6_row_57 : decode cX6_row 57 = .ok (.aload_n 0, 1) := by decide +kernel
theorem dX6_row_58 : decode cX6_row 58 = .ok (.getfield 53, 3) := by decide +kernel
theorem dX6_row_61 : decode cX6_row 61 = .ok (.iload_n 1, 1) := by decide +kernel
theorem dX6_row_62 : decode cX6_row 62 = .ok (.invokevirtual 89, 3) := by decide +kernel
theorem dX6_row_65 : decode cX6_row 65 = .ok (.aload_n 0, 1) := by decide +kernel
theorem dX6_row_66 : decode cX6_row 66 = .ok (.getfield 10, 3) := by decide +kernel
theorem dX6_row_69 : decode cX6_row 69 = .ok (.getfield 93, 3) := by decide +kernel
theorem dX6_row_72 : decode cX6_row 72 = .ok (.ireturn, 1) := by decide +kernel
theorem dX6_box_0 : decode cX6_box 0 = .ok (.iload_n 1, 1) := by decide +kernel
theorem dX6_box_1 : decode cX6_box 1 = .ok (.ifCond .lt 9, 3) := by decide +kernel
theorem dX6_box_4 : decode cX6_box 4 = .ok (.iload_n 1, 1) := by decide +kernel
theorem dX6_box_5 : decode cX6_box 5 = .ok (.bipush 7, 2) := by decide +kernel
theorem dX6_box_7 : decode cX6_box 7 = .ok (.if_icmp .lt 9, 3) := by decide +kernel
theorem dX6_box_10 : decode cX6_box 10 = .ok (.aload_n 0, 1) := by decide +kernel
theorem dX6_box_11 : decode cX6_box 11 = .ok (.iconst (-1), 1) := by decide +kernel
theorem dX6_box_12 : decode cX6_box 12 = .ok (.invokevirtual 70, 3) := by decide +kernel
theorem dX6_box_15 : decode cX6_box 15 = .ok (.ireturn, 1) := by decide +kernel
theorem dX6_box_16 : decode cX6_box 16 = .ok (.iload_n 2, 1) := by decide +kernel
theorem dX6_box_17 : decode cX6_box 17 = .ok (.ifCond .ge 10, 3) := by decide +kernel
theorem dX6_box_20 : decode cX6_box 20 = .ok (.aload_n 0, 1) := by decide +kernel
theorem dX6_box_21 : decode cX6_box 21 = .ok (.bipush (-4), 2) := by decide +kernel
theorem dX6_box_23 : decode cX6_box 23 = .ok (.invokevirtual 70, 3) := by decide +kernel
theorem dX6_box_26 : decode cX6_box 26 = .ok (.ireturn, 1) := by decide +kernel
theorem dX6_box_27 : decode cX6_box 27 = .ok (.iload_n 2, 1) := by decide +kernel
theorem dX6_box_28 : decode cX6_box 28 = .ok (.bipush 9, 2) := by decide +kernel
theorem dX6_box_30 : decode cX6_box 30 = .ok (.if_icmp .le 10, 3) := by decide +kernel
theorem dX6_box_33 : decode cX6_box 33 = .ok (.aload_n 0, 1) := by decide +kernel
theorem dX6_box_34 : decode cX6_box 34 = .ok (.bipush (-6), 2) := by decide +kernel
theorem dX6_box_36 : decode cX6_box 36 = .ok (.invokevirtual 70, 3) := by decide +kernel
theorem dX6_box_39 : decode cX6_box 39 = .ok (.ireturn, 1) := by decide +kernel
theorem dX6_box_40 : decode cX6_box 40 = .ok (.aload_n 0, 1) := by decide +kernel
theorem dX6_box_41 : decode cX6_box 41 = .ok (.getfield 10, 3) := by decide +kernel
theorem dX6_box_44 : decode cX6_box 44 = .ok (.getfield 96, 3) := by decide +kernel
theorem dX6_box_47 : decode cX6_box 47 = .ok (.iload_n 1, 1) := by decide +kernel
theorem dX6_box_48 : decode cX6_box 48 = .ok (.invokestatic 82, 3) := by decide +kernel
theorem dX6_box_51 : decode cX6_box 51 = .ok (.istore_n 3, 1) := by decide +kernel
theorem dX6_box_52 : decode cX6_box 52 = .ok (.aload_n 0, 1) := by decide +kernel
theorem dX6_box_53 : decode cX6_box 53 = .ok (.getfield 10, 3) := by decide +kernel
theorem dX6_box_56 : decode cX6_box 56 = .ok (.getfield 96, 3) := by decide +kernel
theorem dX6_box_59 : decode cX6_box 59 = .ok (.iload_n 1, 1) := by decide +kernel
theorem dX6_box_60 : decode cX6_box 60 = .ok (.iload_n 2, 1) := by decide +kernel
theorem dX6_box_61 : decode cX6_box 61 = .ok (.invokestatic 78, 3) := by decide +kernel
theorem dX6_box_64 : decode cX6_box 64 = .ok (.iload_n 3, 1) := by decide +kernel
theorem dX6_box_65 : decode cX6_box 65 = .ok (.ireturn, 1) := by decide +kernel
theorem dX6_size_0 : decode cX6_size 0 = .ok (.iload_n 1, 1) := by decide +kernel
theorem dX6_size_1 : decode cX6_size 1 = .ok (.ifCond .lt 9, 3) := by decide +kernel
theorem dX6_size_4 : decode cX6_size 4 = .ok (.iload_n 1, 1) := by decide +kernel
theorem dX6_size_5 : decode cX6_size 5 = .ok (.bipush 7, 2) := by decide +kernel
theorem dX6_size_7 : decode cX6_size 7 = .ok (.if_icmp .lt 9, 3) := by decide +kernel
theorem dX6_size_10 : decode cX6_size 10 = .ok (.aload_n 0, 1) := by decide +kernel
theorem dX6_size_11 : decode cX6_size 11 = .ok (.iconst (-1), 1) := by decide +kernel
theorem dX6_size_12 : decode cX6_size 12 = .ok (.invokevirtual 70, 3) := by decide +kernel
theorem dX6_size_15 : decode cX6_size 15 = .ok (.ireturn, 1) := by decide +kernel
theorem dX6_size_16 : decode cX6_size 16 = .ok (.iload_n 2, 1) := by decide +kernel
theorem dX6_size_17 : decode cX6_size 17 = .ok (.iconst 1, 1) := by decide +kernel
theorem dX6_size_18 : decode cX6_size 18 = .ok (.if_icmp .ge 10, 3) := by decide +kernel
theorem dX6_size_21 : decode cX6_size 21 = .ok (.aload_n 0, 1) := by decide +kernel
theorem dX6_size_22 : decode cX6_size 22 = .ok (.bipush (-4), 2) := by decide +kernel
theorem dX6_size_24 : decode cX6_size 24 = .ok (.invokevirtual 70, 3) := by decide +kernel
theorem dX6_size_27 : decode cX6_size 27 = .ok (.ireturn, 1) := by decide +kernel
theorem dX6_size_28 : decode cX6_size 28 = .ok (.iload_n 2, 1) := by decide +kernel
theorem dX6_size_29 : decode cX6_size 29 = .ok (.bipush 20, 2) := by decide +kernel
theorem dX6_size_31 : decode cX6_size 31 = .ok (.if_icmp .le 10, 3) := by decide +kernel
theorem dX6_size_34 : decode cX6_size 34 = .ok (.aload_n 0, 1) := by decide +kernel
theorem dX6_size_35 : decode cX6_size 35 = .ok (.bipush (-6), 2) := by decide +kernel
theorem dX6_size_37 : decode cX6_size 37 = .ok (.invokevirtual 70, 3) := by decide +kernel
theorem dX6_size_40 : decode cX6_size 40 = .ok (.ireturn, 1) := by decide +kernel
theorem dX6_size_41 : decode cX6_size 41 = .ok (.aload_n 0, 1) := by decide +kernel
theorem dX6_size_42 : decode cX6_size 42 = .ok (.getfield 10, 3) := by decide +kernel
theorem dX6_size_45 : decode cX6_size 45 = .ok (.getfield 63, 3) := by decide +kernel
theorem dX6_size_48 : decode cX6_size 48 = .ok (.iload_n 1, 1) := by decide +kernel
theorem dX6_size_49 : decode cX6_size 49 = .ok (.invokestatic 82, 3) := by decide +kernel
theorem dX6_size_52 : decode cX6_size 52 = .ok (.istore_n 3, 1) := by decide +kernel
theorem dX6_size_53 : decode cX6_size 53 = .ok (.aload_n 0, 1) := by decide +kernel
theorem dX6_size_54 : decode cX6_size 54 = .ok (.getfield 10, 3) := by decide +kernel
theorem dX6_size_57 : decode cX6_size 57 = .ok (.getfield 63, 3) := by decide +kernel
theorem dX6_size_60 : decode cX6_size 60 = .ok (.iload_n 1, 1) := by decide +kernel
theorem dX6_size_61 : decode cX6_size 61 = .ok (.iload_n 2, 1) := by decide +kernel
theorem dX6_size_62 : decode cX6_size 62 = .ok (.invokestatic 78, 3) := by decide +kernel
theorem dX6_size_65 : decode cX6_size 65 = .ok (.aload_n 0, 1) := by decide +kernel
theorem dX6_size_66 : decode cX6_size 66 = .ok (.invokevirtual 99, 3) := by decide +kernel
theorem dX6_size_69 : decode cX6_size 69 = .ok (.iload_n 3, 1) := by decide +kernel
theorem dX6_size_70 : decode cX6_size 70 = .ok (.ireturn, 1) := by decide +kernel
theorem dX6_piece_0 : decode cX6_piece 0 = .ok (.iload_n 1, 1) := by decide +kernel
theorem dX6_piece_1 : decode cX6_piece 1 = .ok (.ifCond .lt 14, 3) := by decide +kernel
theorem dX6_piece_4 : decode cX6_piece 4 = .ok (.iload_n 1, 1) := by decide +kernel
theorem dX6_piece_5 : decode cX6_piece 5 = .ok (.aload_n 0, 1) := by decide +kernel
theorem dX6_piece_6 : decode cX6_piece 6 = .ok (.getfield 10, 3) := by decide +kernel
theorem dX6_piece_9 : decode cX6_piece 9 = .ok (.getfield 93, 3) := by decide +kernel
theorem dX6_piece_12 : decode cX6_piece 12 = .ok (.if_icmp .lt 8, 3) := by decide +kernel
theorem dX6_piece_15 : decode cX6_piece 15 = .ok (.bipush (-9), 2) := by decide +kernel
theorem dX6_piece_17 : decode cX6_piece 17 = .ok (.goto 14, 3) := by decide +kernel
theorem dX6_piece_20 : decode cX6_piece 20 = .ok (.aload_n 0, 1) := by decide +kernel
theorem dX6_piece_21 : decode cX6_piece 21 = .ok (.getfield 10, 3) := by decide +kernel
theorem dX6_piece_24 : decode cX6_piece 24 = .ok (.getfield 102, 3) := by decide +kernel
theorem dX6_piece_27 : decode cX6_piece 27 = .ok (.iload_n 1, 1) := by decide +kernel
theorem dX6_piece_28 : decode cX6_piece 28 = .ok (.invokestatic 82, 3) := by decide +kernel
theorem dX6_piece_31 : decode cX6_piece 31 = .ok (.ireturn, 1) := by decide +kernel
theorem dX6_joint_0 : decode cX6_joint 0 = .ok (.iload_n 1, 1) := by decide +kernel
theorem dX6_joint_1 : decode cX6_joint 1 = .ok (.ifCond .lt 14, 3) := by decide +kernel
theorem dX6_joint_4 : decode cX6_joint 4 = .ok (.iload_n 1, 1) := by decide +kernel
theorem dX6_joint_5 : decode cX6_joint 5 = .ok (.aload_n 0, 1) := by decide +kernel
theorem dX6_joint_6 : decode cX6_joint 6 = .ok (.getfield 10, 3) := by decide +kernel
theorem dX6_joint_9 : decode cX6_joint 9 = .ok (.getfield 93, 3) := by decide +kernel
theorem dX6_joint_12 : decode cX6_joint 12 = .ok (.if_icmp .le 9, 3) := by decide +kernel
theorem dX6_joint_15 : decode cX6_joint 15 = .ok (.aload_n 0, 1) := by decide +kernel
theorem dX6_joint_16 : decode cX6_joint 16 = .ok (.iconst (-1), 1) := by decide +kernel
theorem dX6_joint_17 : decode cX6_joint 17 = .ok (.invokevirtual 105, 3) := by decide +kernel
theorem dX6_joint_20 : decode cX6_joint 20 = .ok (.ireturn, 1) := by decide +kernel
theorem dX6_joint_21 : decode cX6_joint 21 = .ok (.iload_n 2, 1) := by decide +kernel
theorem dX6_joint_22 : decode cX6_joint 22 = .ok (.ifCond .lt 8, 3) := by decide +kernel
theorem dX6_joint_25 : decode cX6_joint 25 = .ok (.iload_n 2, 1) := by decide +kernel
theorem dX6_joint_26 : decode cX6_joint 26 = .ok (.iconst 4, 1) := by decide +kernel
theorem dX6_joint_27 : decode cX6_joint 27 = .ok (.if_icmp .le 10, 3) := by decide +kernel
theorem dX6_joint_30 : decode cX6_joint 30 = .ok (.aload_n 0, 1) := by decide +kernel
theorem dX6_joint_31 : decode cX6_joint 31 = .ok (.bipush (-2), 2) := by decide +kernel
theorem dX6_joint_33 : decode cX6_joint 33 = .ok (.invokevirtual 105, 3) := by decide +kernel
theorem dX6_joint_36 : decode cX6_joint 36 = .ok (.ireturn, 1) := by decide +kernel
theorem dX6_joint_37 : decode cX6_joint 37 = .ok (.aload_n 0, 1) := by decide +kernel
theorem dX6_joint_38 : decode cX6_joint 38 = .ok (.getfield 31, 3) := by decide +kernel
theorem dX6_joint_41 : decode cX6_joint 41 = .ok (.aload_n 0, 1) := by decide +kernel
theorem dX6_joint_42 : decode cX6_joint 42 = .ok (.getfield 10, 3) := by decide +kernel
theorem dX6_joint_45 : decode cX6_joint 45 = .ok (.getfield 102, 3) := by decide +kernel
theorem dX6_joint_48 : decode cX6_joint 48 = .ok (.aload_n 0, 1) := by decide +kernel
theorem dX6_joint_49 : decode cX6_joint 49 = .ok (.getfield 10, 3) := by decide +kernel
theorem dX6_joint_52 : decode cX6_joint 52 = .ok (.getfield 93, 3) := by decide +kernel
theorem dX6_joint_55 : decode cX6_joint 55 = .ok (.invokevirtual 108, 3) := by decide +kernel
theorem dX6_joint_58 : decode cX6_joint 58 = .ok (.iload_n 2, 1) := by decide +kernel
theorem dX6_joint_59 : decode cX6_joint 59 = .ok (.iconst 4, 1) := by decide +kernel
theorem dX6_joint_60 : decode cX6_joint 60 = .ok (.if_icmp .ne 17, 3) := by decide +kernel
theorem dX6_joint_63 : decode cX6_joint 63 = .ok (.aload_n 0, 1) := by decide +kernel
theorem dX6_joint_64 : decode cX6_joint 64 = .ok (.getfield 31, 3) := by decide +kernel
theorem dX6_joint_67 : decode cX6_joint 67 = .ok (.getfield 111, 3) := by decide +kernel
theorem dX6_joint_70 : decode cX6_joint 70 = .ok (.iload_n 1, 1) := by decide +kernel
theorem dX6_joint_71 : decode cX6_joint 71 = .ok (.invokestatic 82, 3) := by decide +kernel
theorem dX6_joint_74 : decode cX6_joint 74 = .ok (.goto 18, 3) := by decide +kernel
theorem dX6_joint_77 : decode cX6_joint 77 = .ok (.aload_n 0, 1) := by decide +kernel
theorem dX6_joint_78 : decode cX6_joint 78 = .ok (.getfield 31, 3) := by decide +kernel
theorem dX6_joint_81 : decode cX6_joint 81 = .ok (.getfield 114, 3) := by decide +kernel
theorem dX6_joint_84 : decode cX6_joint 84 = .ok (.iload_n 1, 1) := by decide +kernel
theorem dX6_joint_85 : decode cX6_joint 85 = .ok (.invokestatic 118, 3) := by decide +kernel
theorem dX6_joint_88 : decode cX6_joint 88 = .ok (.iload_n 2, 1) := by decide +kernel
theorem dX6_joint_89 : decode cX6_joint 89 = .ok (.invokestatic 122, 3) := by decide +kernel
theorem dX6_joint_92 : decode cX6_joint 92 = .ok (.ireturn, 1) := by decide +kernel
theorem dX6_closes_0 : decode cX6_closes 0 = .ok (.aload_n 0, 1) := by decide +kernel
theorem dX6_closes_1 : decode cX6_closes 1 = .ok (.getfield 31, 3) := by decide +kernel
theorem dX6_closes_4 : decode cX6_closes 4 = .ok (.aload_n 0, 1) := by decide +kernel
theorem dX6_closes_5 : decode cX6_closes 5 = .ok (.getfield 10, 3) := by decide +kernel
theorem dX6_closes_8 : decode cX6_closes 8 = .ok (.getfield 102, 3) := by decide +kernel
theorem dX6_closes_11 : decode cX6_closes 11 = .ok (.aload_n 0, 1) := by decide +kernel
theorem dX6_closes_12 : decode cX6_closes 12 = .ok (.getfield 10, 3) := by decide +kernel
theorem dX6_closes_15 : decode cX6_closes 15 = .ok (.getfield 93, 3) := by decide +kernel
theorem dX6_closes_18 : decode cX6_closes 18 = .ok (.invokevirtual 108, 3) := by decide +kernel
theorem dX6_closes_21 : decode cX6_closes 21 = .ok (.aload_n 0, 1) := by decide +kernel
theorem dX6_closes_22 : decode cX6_closes 22 = .ok (.getfield 31, 3) := by decide +kernel
theorem dX6_closes_25 : decode cX6_closes 25 = .ok (.invokevirtual 128, 3) := by decide +kernel
theorem dX6_closes_28 : decode cX6_closes 28 = .ok (.invokestatic 132, 3) := by decide +kernel
theorem dX6_closes_31 : decode cX6_closes 31 = .ok (.ireturn, 1) := by decide +kernel
theorem dX6_uses_0 : decode cX6_uses 0 = .ok (.aload_n 0, 1) := by decide +kernel
theorem dX6_uses_1 : decode cX6_uses 1 = .ok (.getfield 10, 3) := by decide +kernel
theorem dX6_uses_4 : decode cX6_uses 4 = .ok (.aload_n 0, 1) := by decide +kernel
theorem dX6_uses_5 : decode cX6_uses 5 = .ok (.getfield 10, 3) := by decide +kernel
theorem dX6_uses_8 : decode cX6_uses 8 = .ok (.getfield 102, 3) := by decide +kernel
theorem dX6_uses_11 : decode cX6_uses 11 = .ok (.aload_n 0, 1) := by decide +kernel
theorem dX6_uses_12 : decode cX6_uses 12 = .ok (.getfield 10, 3) := by decide +kernel
theorem dX6_uses_15 : decode cX6_uses 15 = .ok (.getfield 93, 3) := by decide +kernel
theorem dX6_uses_18 : decode cX6_uses 18 = .ok (.invokevirtual 136, 3) := by decide +kernel
theorem dX6_uses_21 : decode cX6_uses 21 = .ok (.ifCond .ne 7, 3) := by decide +kernel
theorem dX6_uses_24 : decode cX6_uses 24 = .ok (.iconst 1, 1) := by decide +kernel
theorem dX6_uses_25 : decode cX6_uses 25 = .ok (.goto 4, 3) := by decide +kernel
theorem dX6_uses_28 : decode cX6_uses 28 = .ok (.iconst 0, 1) := by decide +kernel
theorem dX6_uses_29 : decode cX6_uses 29 = .ok (.invokestatic 132, 3) := by decide +kernel
theorem dX6_uses_32 : decode cX6_uses 32 = .ok (.ireturn, 1) := by decide +kernel
theorem dX6_sign_0 : decode cX6_sign 0 = .ok (.iload_n 1, 1) := by decide +kernel
theorem dX6_sign_1 : decode cX6_sign 1 = .ok (.ldc 139, 2) := by decide +kernel
theorem dX6_sign_3 : decode cX6_sign 3 = .ok (.if_icmp .lt 21, 3) := by decide +kernel
theorem dX6_sign_6 : decode cX6_sign 6 = .ok (.iload_n 1, 1) := by decide +kernel
theorem dX6_sign_7 : decode cX6_sign 7 = .ok (.ldc 140, 2) := by decide +kernel
theorem dX6_sign_9 : decode cX6_sign 9 = .ok (.if_icmp .gt 15, 3) := by decide +kernel
theorem dX6_sign_12 : decode cX6_sign 12 = .ok (.iload_n 2, 1) := by decide +kernel
theorem dX6_sign_13 : decode cX6_sign 13 = .ok (.ldc 139, 2) := by decide +kernel
theorem dX6_sign_15 : decode cX6_sign 15 = .ok (.if_icmp .lt 9, 3) := by decide +kernel
theorem dX6_sign_18 : decode cX6_sign 18 = .ok (.iload_n 2, 1) := by decide +kernel
theorem dX6_sign_19 : decode cX6_sign 19 = .ok (.ldc 140, 2) := by decide +kernel
theorem dX6_sign_21 : decode cX6_sign 21 = .ok (.if_icmp .le 10, 3) := by decide +kernel
theorem dX6_sign_24 : decode cX6_sign 24 = .ok (.aload_n 0, 1) := by decide +kernel
theorem dX6_sign_25 : decode cX6_sign 25 = .ok (.bipush (-3), 2) := by decide +kernel
theorem dX6_sign_27 : decode cX6_sign 27 = .ok (.invokevirtual 70, 3) := by decide +kernel
theorem dX6_sign_30 : decode cX6_sign 30 = .ok (.ireturn, 1) := by decide +kernel
theorem dX6_sign_31 : decode cX6_sign 31 = .ok (.iload_n 1, 1) := by decide +kernel
theorem dX6_sign_32 : decode cX6_sign 32 = .ok (.i2l, 1) := by decide +kernel
theorem dX6_sign_33 : decode cX6_sign 33 = .ok (.iload_n 2, 1) := by decide +kernel
theorem dX6_sign_34 : decode cX6_sign 34 = .ok (.i2l, 1) := by decide +kernel
theorem dX6_sign_35 : decode cX6_sign 35 = .ok (.invokestatic 141, 3) := by decide +kernel
theorem dX6_sign_38 : decode cX6_sign 38 = .ok (.ireturn, 1) := by decide +kernel
theorem dX6_gap_0 : decode cX6_gap 0 = .ok (.iload_n 1, 1) := by decide +kernel
theorem dX6_gap_1 : decode cX6_gap 1 = .ok (.ifCond .eq 15, 3) := by decide +kernel
theorem dX6_gap_4 : decode cX6_gap 4 = .ok (.iload_n 1, 1) := by decide +kernel
theorem dX6_gap_5 : decode cX6_gap 5 = .ok (.iconst 1, 1) := by decide +kernel
theorem dX6_gap_6 : decode cX6_gap 6 = .ok (.if_icmp .eq 10, 3) := by decide +kernel
theorem dX6_gap_9 : decode cX6_gap 9 = .ok (.aload_n 0, 1) := by decide +kernel
theorem dX6_gap_10 : decode cX6_gap 10 = .ok (.bipush (-2), 2) := by decide +kernel
theorem dX6_gap_12 : decode cX6_gap 12 = .ok (.invokevirtual 105, 3) := by decide +kernel
theorem dX6_gap_15 : decode cX6_gap 15 = .ok (.ireturn, 1) := by decide +kernel
theorem dX6_gap_16 : decode cX6_gap 16 = .ok (.aload_n 0, 1) := by decide +kernel
theorem dX6_gap_17 : decode cX6_gap 17 = .ok (.getfield 31, 3) := by decide +kernel
theorem dX6_gap_20 : decode cX6_gap 20 = .ok (.aload_n 0, 1) := by decide +kernel
theorem dX6_gap_21 : decode cX6_gap 21 = .ok (.getfield 10, 3) := by decide +kernel
theorem dX6_gap_24 : decode cX6_gap 24 = .ok (.getfield 102, 3) := by decide +kernel
theorem dX6_gap_27 : decode cX6_gap 27 = .ok (.aload_n 0, 1) := by decide +kernel
theorem dX6_gap_28 : decode cX6_gap 28 = .ok (.getfield 10, 3) := by decide +kernel
theorem dX6_gap_31 : decode cX6_gap 31 = .ok (.getfield 93, 3) := by decide +kernel
theorem dX6_gap_34 : decode cX6_gap 34 = .ok (.invokevirtual 108, 3) := by decide +kernel
theorem dX6_gap_37 : decode cX6_gap 37 = .ok (.aload_n 0, 1) := by decide +kernel
theorem dX6_gap_38 : decode cX6_gap 38 = .ok (.getfield 31, 3) := by decide +kernel
theorem dX6_gap_41 : decode cX6_gap 41 = .ok (.invokevirtual 145, 3) := by decide +kernel
theorem dX6_gap_44 : decode cX6_gap 44 = .ok (.lstore_n 2, 1) := by decide +kernel
theorem dX6_gap_45 : decode cX6_gap 45 = .ok (.iload_n 1, 1) := by decide +kernel
theorem dX6_gap_46 : decode cX6_gap 46 = .ok (.ifCond .ne 10, 3) := by decide +kernel
theorem dX6_gap_49 : decode cX6_gap 49 = .ok (.lload_n 2, 1) := by decide +kernel
theorem dX6_gap_50 : decode cX6_gap 50 = .ok (.invokestatic 149, 3) := by decide +kernel
theorem dX6_gap_53 : decode cX6_gap 53 = .ok (.goto 7, 3) := by decide +kernel
theorem dX6_gap_56 : decode cX6_gap 56 = .ok (.lload_n 2, 1) := by decide +kernel
theorem dX6_gap_57 : decode cX6_gap 57 = .ok (.invokestatic 153, 3) := by decide +kernel
theorem dX6_gap_60 : decode cX6_gap 60 = .ok (.l2i, 1) := by decide +kernel
theorem dX6_gap_61 : decode cX6_gap 61 = .ok (.ireturn, 1) := by decide +kernel
theorem dX6_nearer_0 : decode cX6_nearer 0 = .ok (.iload_n 1, 1) := by decide +kernel
theorem dX6_nearer_1 : decode cX6_nearer 1 = .ok (.ldc 139, 2) := by decide +kernel
theorem dX6_nearer_3 : decode cX6_nearer 3 = .ok (.if_icmp .lt 9, 3) := by decide +kernel
theorem dX6_nearer_6 : decode cX6_nearer 6 = .ok (.iload_n 2, 1) := by decide +kernel
theorem dX6_nearer_7 : decode cX6_nearer 7 = .ok (.ldc 139, 2) := by decide +kernel
theorem dX6_nearer_9 : decode cX6_nearer 9 = .ok (.if_icmp .ge 10, 3) := by decide +kernel
theorem dX6_nearer_12 : decode cX6_nearer 12 = .ok (.aload_n 0, 1) := by decide +kernel
theorem dX6_nearer_13 : decode cX6_nearer 13 = .ok (.bipush (-4), 2) := by decide +kernel
theorem dX6_nearer_15 : decode cX6_nearer 15 = .ok (.invokevirtual 70, 3) := by decide +kernel
theorem dX6_nearer_18 : decode cX6_nearer 18 = .ok (.ireturn, 1) := by decide +kernel
theorem dX6_nearer_19 : decode cX6_nearer 19 = .ok (.iload_n 1, 1) := by decide +kernel
theorem dX6_nearer_20 : decode cX6_nearer 20 = .ok (.ldc 140, 2) := by decide +kernel
theorem dX6_nearer_22 : decode cX6_nearer 22 = .ok (.if_icmp .gt 9, 3) := by decide +kernel
theorem dX6_nearer_25 : decode cX6_nearer 25 = .ok (.iload_n 2, 1) := by decide +kernel
theorem dX6_nearer_26 : decode cX6_nearer 26 = .ok (.ldc 140, 2) := by decide +kernel
theorem dX6_nearer_28 : decode cX6_nearer 28 = .ok (.if_icmp .le 10, 3) := by decide +kernel
theorem dX6_nearer_31 : decode cX6_nearer 31 = .ok (.aload_n 0, 1) := by decide +kernel
theorem dX6_nearer_32 : decode cX6_nearer 32 = .ok (.bipush (-6), 2) := by decide +kernel
theorem dX6_nearer_34 : decode cX6_nearer 34 = .ok (.invokevirtual 70, 3) := by decide +kernel
theorem dX6_nearer_37 : decode cX6_nearer 37 = .ok (.ireturn, 1) := by decide +kernel
theorem dX6_nearer_38 : decode cX6_nearer 38 = .ok (.aload_n 0, 1) := by decide +kernel
theorem dX6_nearer_39 : decode cX6_nearer 39 = .ok (.getfield 31, 3) := by decide +kernel
theorem dX6_nearer_42 : decode cX6_nearer 42 = .ok (.aload_n 0, 1) := by decide +kernel
theorem dX6_nearer_43 : decode cX6_nearer 43 = .ok (.getfield 10, 3) := by decide +kernel
theorem dX6_nearer_46 : decode cX6_nearer 46 = .ok (.getfield 102, 3) := by decide +kernel
theorem dX6_nearer_49 : decode cX6_nearer 49 = .ok (.aload_n 0, 1) := by decide +kernel
theorem dX6_nearer_50 : decode cX6_nearer 50 = .ok (.getfield 10, 3) := by decide +kernel
theorem dX6_nearer_53 : decode cX6_nearer 53 = .ok (.getfield 93, 3) := by decide +kernel
theorem dX6_nearer_56 : decode cX6_nearer 56 = .ok (.invokevirtual 108, 3) := by decide +kernel
theorem dX6_nearer_59 : decode cX6_nearer 59 = .ok (.aload_n 0, 1) := by decide +kernel
theorem dX6_nearer_60 : decode cX6_nearer 60 = .ok (.getfield 31, 3) := by decide +kernel
theorem dX6_nearer_63 : decode cX6_nearer 63 = .ok (.invokevirtual 145, 3) := by decide +kernel
theorem dX6_nearer_66 : decode cX6_nearer 66 = .ok (.lstore_n 3, 1) := by decide +kernel
theorem dX6_nearer_67 : decode cX6_nearer 67 = .ok (.lload_n 3, 1) := by decide +kernel
theorem dX6_nearer_68 : decode cX6_nearer 68 = .ok (.invokestatic 149, 3) := by decide +kernel
theorem dX6_nearer_71 : decode cX6_nearer 71 = .ok (.iload_n 1, 1) := by decide +kernel
theorem dX6_nearer_72 : decode cX6_nearer 72 = .ok (.i2l, 1) := by decide +kernel
theorem dX6_nearer_73 : decode cX6_nearer 73 = .ok (.lsub, 1) := by decide +kernel
theorem dX6_nearer_74 : decode cX6_nearer 74 = .ok (.lstore 5, 2) := by decide +kernel
theorem dX6_nearer_76 : decode cX6_nearer 76 = .ok (.lload_n 3, 1) := by decide +kernel
theorem dX6_nearer_77 : decode cX6_nearer 77 = .ok (.invokestatic 153, 3) := by decide +kernel
theorem dX6_nearer_80 : decode cX6_nearer 80 = .ok (.iload_n 2, 1) := by decide +kernel
theorem dX6_nearer_81 : decode cX6_nearer 81 = .ok (.i2l, 1) := by decide +kernel
theorem dX6_nearer_82 : decode cX6_nearer 82 = .ok (.lsub, 1) := by decide +kernel
theorem dX6_nearer_83 : decode cX6_nearer 83 = .ok (.lstore 7, 2) := by decide +kernel
theorem dX6_nearer_85 : decode cX6_nearer 85 = .ok (.lload 5, 2) := by decide +kernel
theorem dX6_nearer_87 : decode cX6_nearer 87 = .ok (.lload 7, 2) := by decide +kernel
theorem dX6_nearer_89 : decode cX6_nearer 89 = .ok (.invokestatic 141, 3) := by decide +kernel
theorem dX6_nearer_92 : decode cX6_nearer 92 = .ok (.ifCond .ge 7, 3) := by decide +kernel
theorem dX6_nearer_95 : decode cX6_nearer 95 = .ok (.iconst 1, 1) := by decide +kernel
theorem dX6_nearer_96 : decode cX6_nearer 96 = .ok (.goto 4, 3) := by decide +kernel
theorem dX6_nearer_99 : decode cX6_nearer 99 = .ok (.iconst 0, 1) := by decide +kernel
theorem dX6_nearer_100 : decode cX6_nearer 100 = .ok (.invokestatic 132, 3) := by decide +kernel
theorem dX6_nearer_103 : decode cX6_nearer 103 = .ok (.ireturn, 1) := by decide +kernel
theorem dX6_table_0 : decode cX6_table 0 = .ok (.iload_n 1, 1) := by decide +kernel
theorem dX6_table_1 : decode cX6_table 1 = .ok (.ifCond .lt 8, 3) := by decide +kernel
theorem dX6_table_4 : decode cX6_table 4 = .ok (.iload_n 1, 1) := by decide +kernel
theorem dX6_table_5 : decode cX6_table 5 = .ok (.iconst 3, 1) := by decide +kernel
theorem dX6_table_6 : decode cX6_table 6 = .ok (.if_icmp .le 10, 3) := by decide +kernel
theorem dX6_table_9 : decode cX6_table 9 = .ok (.aload_n 0, 1) := by decide +kernel
theorem dX6_table_10 : decode cX6_table 10 = .ok (.bipush (-2), 2) := by decide +kernel
theorem dX6_table_12 : decode cX6_table 12 = .ok (.invokevirtual 105, 3) := by decide +kernel
theorem dX6_table_15 : decode cX6_table 15 = .ok (.ireturn, 1) := by decide +kernel
theorem dX6_table_16 : decode cX6_table 16 = .ok (.iload_n 2, 1) := by decide +kernel
theorem dX6_table_17 : decode cX6_table 17 = .ok (.sipush (-400), 3) := by decide +kernel
theorem dX6_table_20 : decode cX6_table 20 = .ok (.if_icmp .ge 10, 3) := by decide +kernel
theorem dX6_table_23 : decode cX6_table 23 = .ok (.aload_n 0, 1) := by decide +kernel
theorem dX6_table_24 : decode cX6_table 24 = .ok (.bipush (-4), 2) := by decide +kernel
theorem dX6_table_26 : decode cX6_table 26 = .ok (.invokevirtual 105, 3) := by decide +kernel
theorem dX6_table_29 : decode cX6_table 29 = .ok (.ireturn, 1) := by decide +kernel
theorem dX6_table_30 : decode cX6_table 30 = .ok (.iload_n 2, 1) := by decide +kernel
theorem dX6_table_31 : decode cX6_table 31 = .ok (.sipush 400, 3) := by decide +kernel
theorem dX6_table_34 : decode cX6_table 34 = .ok (.if_icmp .le 10, 3) := by decide +kernel
theorem dX6_table_37 : decode cX6_table 37 = .ok (.aload_n 0, 1) := by decide +kernel
theorem dX6_table_38 : decode cX6_table 38 = .ok (.bipush (-6), 2) := by decide +kernel
theorem dX6_table_40 : decode cX6_table 40 = .ok (.invokevirtual 105, 3) := by decide +kernel
theorem dX6_table_43 : decode cX6_table 43 = .ok (.ireturn, 1) := by decide +kernel
theorem dX6_table_44 : decode cX6_table 44 = .ok (.aload_n 0, 1) := by decide +kernel
theorem dX6_table_45 : decode cX6_table 45 = .ok (.getfield 10, 3) := by decide +kernel
theorem dX6_table_48 : decode cX6_table 48 = .ok (.getfield 156, 3) := by decide +kernel
theorem dX6_table_51 : decode cX6_table 51 = .ok (.iload_n 1, 1) := by decide +kernel
theorem dX6_table_52 : decode cX6_table 52 = .ok (.invokestatic 82, 3) := by decide +kernel
theorem dX6_table_55 : decode cX6_table 55 = .ok (.istore_n 3, 1) := by decide +kernel
theorem dX6_table_56 : decode cX6_table 56 = .ok (.aload_n 0, 1) := by decide +kernel
theorem dX6_table_57 : decode cX6_table 57 = .ok (.getfield 10, 3) := by decide +kernel
theorem dX6_table_60 : decode cX6_table 60 = .ok (.getfield 156, 3) := by decide +kernel
theorem dX6_table_63 : decode cX6_table 63 = .ok (.iload_n 1, 1) := by decide +kernel
theorem dX6_table_64 : decode cX6_table 64 = .ok (.iload_n 2, 1) := by decide +kernel
theorem dX6_table_65 : decode cX6_table 65 = .ok (.invokestatic 78, 3) := by decide +kernel
theorem dX6_table_68 : decode cX6_table 68 = .ok (.iload_n 3, 1) := by decide +kernel
theorem dX6_table_69 : decode cX6_table 69 = .ok (.ireturn, 1) := by decide +kernel
theorem dX6_leg_0 : decode cX6_leg 0 = .ok (.iload_n 1, 1) := by decide +kernel
theorem dX6_leg_1 : decode cX6_leg 1 = .ok (.sipush (-400), 3) := by decide +kernel
theorem dX6_leg_4 : decode cX6_leg 4 = .ok (.if_icmp .lt 10, 3) := by decide +kernel
theorem dX6_leg_7 : decode cX6_leg 7 = .ok (.iload_n 2, 1) := by decide +kernel
theorem dX6_leg_8 : decode cX6_leg 8 = .ok (.sipush (-400), 3) := by decide +kernel
theorem dX6_leg_11 : decode cX6_leg 11 = .ok (.if_icmp .ge 10, 3) := by decide +kernel
theorem dX6_leg_14 : decode cX6_leg 14 = .ok (.aload_n 0, 1) := by decide +kernel
theorem dX6_leg_15 : decode cX6_leg 15 = .ok (.bipush (-4), 2) := by decide +kernel
theorem dX6_leg_17 : decode cX6_leg 17 = .ok (.invokevirtual 70, 3) := by decide +kernel
theorem dX6_leg_20 : decode cX6_leg 20 = .ok (.ireturn, 1) := by decide +kernel
theorem dX6_leg_21 : decode cX6_leg 21 = .ok (.iload_n 1, 1) := by decide +kernel
theorem dX6_leg_22 : decode cX6_leg 22 = .ok (.sipush 400, 3) := by decide +kernel
theorem dX6_leg_25 : decode cX6_leg 25 = .ok (.if_icmp .gt 22, 3) := by decide +kernel
theorem dX6_leg_28 : decode cX6_leg 28 = .ok (.iload_n 2, 1) := by decide +kernel
theorem dX6_leg_29 : decode cX6_leg 29 = .ok (.sipush 400, 3) := by decide +kernel
theorem dX6_leg_32 : decode cX6_leg 32 = .ok (.if_icmp .gt 15, 3) := by decide +kernel
theorem dX6_leg_35 : decode cX6_leg 35 = .ok (.aload_n 0, 1) := by decide +kernel
theorem dX6_leg_36 : decode cX6_leg 36 = .ok (.getfield 10, 3) := by decide +kernel
theorem dX6_leg_39 : decode cX6_leg 39 = .ok (.getfield 159, 3) := by decide +kernel
theorem dX6_leg_42 : decode cX6_leg 42 = .ok (.bipush 6, 2) := by decide +kernel
theorem dX6_leg_44 : decode cX6_leg 44 = .ok (.if_icmp .lt 10, 3) := by decide +kernel
theorem dX6_leg_47 : decode cX6_leg 47 = .ok (.aload_n 0, 1) := by decide +kernel
theorem dX6_leg_48 : decode cX6_leg 48 = .ok (.bipush (-6), 2) := by decide +kernel
theorem dX6_leg_50 : decode cX6_leg 50 = .ok (.invokevirtual 70, 3) := by decide +kernel
theorem dX6_leg_53 : decode cX6_leg 53 = .ok (.ireturn, 1) := by decide +kernel
theorem dX6_leg_54 : decode cX6_leg 54 = .ok (.aload_n 0, 1) := by decide +kernel
theorem dX6_leg_55 : decode cX6_leg 55 = .ok (.getfield 10, 3) := by decide +kernel
theorem dX6_leg_58 : decode cX6_leg 58 = .ok (.getfield 162, 3) := by decide +kernel
theorem dX6_leg_61 : decode cX6_leg 61 = .ok (.aload_n 0, 1) := by decide +kernel
theorem dX6_leg_62 : decode cX6_leg 62 = .ok (.getfield 10, 3) := by decide +kernel
theorem dX6_leg_65 : decode cX6_leg 65 = .ok (.getfield 159, 3) := by decide +kernel
theorem dX6_leg_68 : decode cX6_leg 68 = .ok (.iload_n 1, 1) := by decide +kernel
theorem dX6_leg_69 : decode cX6_leg 69 = .ok (.invokestatic 78, 3) := by decide +kernel
theorem dX6_leg_72 : decode cX6_leg 72 = .ok (.aload_n 0, 1) := by decide +kernel
theorem dX6_leg_73 : decode cX6_leg 73 = .ok (.getfield 10, 3) := by decide +kernel
theorem dX6_leg_76 : decode cX6_leg 76 = .ok (.getfield 165, 3) := by decide +kernel
theorem dX6_leg_79 : decode cX6_leg 79 = .ok (.aload_n 0, 1) := by decide +kernel
theorem dX6_leg_80 : decode cX6_leg 80 = .ok (.getfield 10, 3) := by decide +kernel
theorem dX6_leg_83 : decode cX6_leg 83 = .ok (.getfield 159, 3) := by decide +kernel
theorem dX6_leg_86 : decode cX6_leg 86 = .ok (.iload_n 2, 1) := by decide +kernel
theorem dX6_leg_87 : decode cX6_leg 87 = .ok (.invokestatic 78, 3) := by decide +kernel
theorem dX6_leg_90 : decode cX6_leg 90 = .ok (.aload_n 0, 1) := by decide +kernel
theorem dX6_leg_91 : decode cX6_leg 91 = .ok (.getfield 10, 3) := by decide +kernel
theorem dX6_leg_94 : decode cX6_leg 94 = .ok (.dup, 1) := by decide +kernel
theorem dX6_leg_95 : decode cX6_leg 95 = .ok (.getfield 159, 3) := by decide +kernel
theorem dX6_leg_98 : decode cX6_leg 98 = .ok (.iconst 1, 1) := by decide +kernel
theorem dX6_leg_99 : decode cX6_leg 99 = .ok (.iadd, 1) := by decide +kernel
theorem dX6_leg_100 : decode cX6_leg 100 = .ok (.putfield 159, 3) := by decide +kernel
theorem dX6_leg_103 : decode cX6_leg 103 = .ok (.aload_n 0, 1) := by decide +kernel
theorem dX6_leg_104 : decode cX6_leg 104 = .ok (.getfield 10, 3) := by decide +kernel
theorem dX6_leg_107 : decode cX6_leg 107 = .ok (.getfield 159, 3) := by decide +kernel
theorem dX6_leg_110 : decode cX6_leg 110 = .ok (.ireturn, 1) := by decide +kernel
theorem dX6_off_0 : decode cX6_off 0 = .ok (.aload_n 0, 1) := by decide +kernel
theorem dX6_off_1 : decode cX6_off 1 = .ok (.getfield 31, 3) := by decide +kernel
theorem dX6_off_4 : decode cX6_off 4 = .ok (.aload_n 0, 1) := by decide +kernel
theorem dX6_off_5 : decode cX6_off 5 = .ok (.getfield 10, 3) := by decide +kernel
theorem dX6_off_8 : decode cX6_off 8 = .ok (.getfield 102, 3) := by decide +kernel
theorem dX6_off_11 : decode cX6_off 11 = .ok (.aload_n 0, 1) := by decide +kernel
theorem dX6_off_12 : decode cX6_off 12 = .ok (.getfield 10, 3) := by decide +kernel
theorem dX6_off_15 : decode cX6_off 15 = .ok (.getfield 93, 3) := by decide +kernel
theorem dX6_off_18 : decode cX6_off 18 = .ok (.invokevirtual 108, 3) := by decide +kernel
theorem dX6_off_21 : decode cX6_off 21 = .ok (.aload_n 0, 1) := by decide +kernel
theorem dX6_off_22 : decode cX6_off 22 = .ok (.getfield 10, 3) := by decide +kernel
theorem dX6_off_25 : decode cX6_off 25 = .ok (.aload_n 0, 1) := by decide +kernel
theorem dX6_off_26 : decode cX6_off 26 = .ok (.getfield 31, 3) := by decide +kernel
theorem dX6_off_29 : decode cX6_off 29 = .ok (.invokevirtual 168, 3) := by decide +kernel
theorem dX6_off_32 : decode cX6_off 32 = .ok (.ireturn, 1) := by decide +kernel
theorem dX6_touches_0 : decode cX6_touches 0 = .ok (.aload_n 0, 1) := by decide +kernel
theorem dX6_touches_1 : decode cX6_touches 1 = .ok (.getfield 31, 3) := by decide +kernel
theorem dX6_touches_4 : decode cX6_touches 4 = .ok (.aload_n 0, 1) := by decide +kernel
theorem dX6_touches_5 : decode cX6_touches 5 = .ok (.getfield 10, 3) := by decide +kernel
theorem dX6_touches_8 : decode cX6_touches 8 = .ok (.getfield 102, 3) := by decide +kernel
theorem dX6_touches_11 : decode cX6_touches 11 = .ok (.aload_n 0, 1) := by decide +kernel
theorem dX6_touches_12 : decode cX6_touches 12 = .ok (.getfield 10, 3) := by decide +kernel
theorem dX6_touches_15 : decode cX6_touches 15 = .ok (.getfield 93, 3) := by decide +kernel
theorem dX6_touches_18 : decode cX6_touches 18 = .ok (.invokevirtual 108, 3) := by decide +kernel
theorem dX6_touches_21 : decode cX6_touches 21 = .ok (.aload_n 0, 1) := by decide +kernel
theorem dX6_touches_22 : decode cX6_touches 22 = .ok (.getfield 31, 3) := by decide +kernel
theorem dX6_touches_25 : decode cX6_touches 25 = .ok (.invokevirtual 172, 3) := by decide +kernel
theorem dX6_touches_28 : decode cX6_touches 28 = .ok (.ireturn, 1) := by decide +kernel
theorem dX6_lies_0 : decode cX6_lies 0 = .ok (.aload_n 0, 1) := by decide +kernel
theorem dX6_lies_1 : decode cX6_lies 1 = .ok (.getfield 31, 3) := by decide +kernel
theorem dX6_lies_4 : decode cX6_lies 4 = .ok (.aload_n 0, 1) := by decide +kernel
theorem dX6_lies_5 : decode cX6_lies 5 = .ok (.getfield 10, 3) := by decide +kernel
theorem dX6_lies_8 : decode cX6_lies 8 = .ok (.getfield 102, 3) := by decide +kernel
theorem dX6_lies_11 : decode cX6_lies 11 = .ok (.aload_n 0, 1) := by decide +kernel
theorem dX6_lies_12 : decode cX6_lies 12 = .ok (.getfield 10, 3) := by decide +kernel
theorem dX6_lies_15 : decode cX6_lies 15 = .ok (.getfield 93, 3) := by decide +kernel
theorem dX6_lies_18 : decode cX6_lies 18 = .ok (.invokevirtual 108, 3) := by decide +kernel
theorem dX6_lies_21 : decode cX6_lies 21 = .ok (.aload_n 0, 1) := by decide +kernel
theorem dX6_lies_22 : decode cX6_lies 22 = .ok (.getfield 10, 3) := by decide +kernel
theorem dX6_lies_25 : decode cX6_lies 25 = .ok (.aload_n 0, 1) := by decide +kernel
theorem dX6_lies_26 : decode cX6_lies 26 = .ok (.getfield 31, 3) := by decide +kernel
theorem dX6_lies_29 : decode cX6_lies 29 = .ok (.invokevirtual 168, 3) := by decide +kernel
theorem dX6_lies_32 : decode cX6_lies 32 = .ok (.bipush (-9), 2) := by decide +kernel
theorem dX6_lies_34 : decode cX6_lies 34 = .ok (.if_icmp .ne 19, 3) := by decide +kernel
theorem dX6_lies_37 : decode cX6_lies 37 = .ok (.aload_n 0, 1) := by decide +kernel
theorem dX6_lies_38 : decode cX6_lies 38 = .ok (.getfield 31, 3) := by decide +kernel
theorem dX6_lies_41 : decode cX6_lies 41 = .ok (.invokevirtual 172, 3) := by decide +kernel
theorem dX6_lies_44 : decode cX6_lies 44 = .ok (.bipush (-9), 2) := by decide +kernel
theorem dX6_lies_46 : decode cX6_lies 46 = .ok (.if_icmp .ne 7, 3) := by decide +kernel
theorem dX6_lies_49 : decode cX6_lies 49 = .ok (.iconst 1, 1) := by decide +kernel
theorem dX6_lies_50 : decode cX6_lies 50 = .ok (.goto 4, 3) := by decide +kernel
theorem dX6_lies_53 : decode cX6_lies 53 = .ok (.iconst 0, 1) := by decide +kernel
theorem dX6_lies_54 : decode cX6_lies 54 = .ok (.invokestatic 132, 3) := by decide +kernel
theorem dX6_lies_57 : decode cX6_lies 57 = .ok (.ireturn, 1) := by decide +kernel
theorem dX6_rings_0 : decode cX6_rings 0 = .ok (.iload_n 1, 1) := by decide +kernel
theorem dX6_rings_1 : decode cX6_rings 1 = .ok (.iconst 1, 1) := by decide +kernel
theorem dX6_rings_2 : decode cX6_rings 2 = .ok (.if_icmp .ge 10, 3) := by decide +kernel
theorem dX6_rings_5 : decode cX6_rings 5 = .ok (.aload_n 0, 1) := by decide +kernel
theorem dX6_rings_6 : decode cX6_rings 6 = .ok (.bipush (-4), 2) := by decide +kernel
theorem dX6_rings_8 : decode cX6_rings 8 = .ok (.invokevirtual 70, 3) := by decide +kernel
theorem dX6_rings_11 : decode cX6_rings 11 = .ok (.ireturn, 1) := by decide +kernel
theorem dX6_rings_12 : decode cX6_rings 12 = .ok (.iload_n 1, 1) := by decide +kernel
theorem dX6_rings_13 : decode cX6_rings 13 = .ok (.bipush 6, 2) := by decide +kernel
theorem dX6_rings_15 : decode cX6_rings 15 = .ok (.if_icmp .le 10, 3) := by decide +kernel
theorem dX6_rings_18 : decode cX6_rings 18 = .ok (.aload_n 0, 1) := by decide +kernel
theorem dX6_rings_19 : decode cX6_rings 19 = .ok (.bipush (-6), 2) := by decide +kernel
theorem dX6_rings_21 : decode cX6_rings 21 = .ok (.invokevirtual 70, 3) := by decide +kernel
theorem dX6_rings_24 : decode cX6_rings 24 = .ok (.ireturn, 1) := by decide +kernel
theorem dX6_rings_25 : decode cX6_rings 25 = .ok (.aload_n 0, 1) := by decide +kernel
theorem dX6_rings_26 : decode cX6_rings 26 = .ok (.getfield 40, 3) := by decide +kernel
theorem dX6_rings_29 : decode cX6_rings 29 = .ok (.iload_n 1, 1) := by decide +kernel
theorem dX6_rings_30 : decode cX6_rings 30 = .ok (.iload_n 2, 1) := by decide +kernel
theorem dX6_rings_31 : decode cX6_rings 31 = .ok (.iconst 0, 1) := by decide +kernel
theorem dX6_rings_32 : decode cX6_rings 32 = .ok (.ldc 176, 2) := by decide +kernel
theorem dX6_rings_34 : decode cX6_rings 34 = .ok (.invokevirtual 177, 3) := by decide +kernel
theorem dX6_rings_37 : decode cX6_rings 37 = .ok (.aload_n 0, 1) := by decide +kernel
theorem dX6_rings_38 : decode cX6_rings 38 = .ok (.getfield 40, 3) := by decide +kernel
theorem dX6_rings_41 : decode cX6_rings 41 = .ok (.getfield 181, 3) := by decide +kernel
theorem dX6_rings_44 : decode cX6_rings 44 = .ok (.ireturn, 1) := by decide +kernel
theorem dX6_ring_0 : decode cX6_ring 0 = .ok (.iload_n 1, 1) := by decide +kernel
theorem dX6_ring_1 : decode cX6_ring 1 = .ok (.iconst 1, 1) := by decide +kernel
theorem dX6_ring_2 : decode cX6_ring 2 = .ok (.if_icmp .ge 10, 3) := by decide +kernel
theorem dX6_ring_5 : decode cX6_ring 5 = .ok (.aload_n 0, 1) := by decide +kernel
theorem dX6_ring_6 : decode cX6_ring 6 = .ok (.bipush (-4), 2) := by decide +kernel
theorem dX6_ring_8 : decode cX6_ring 8 = .ok (.invokevirtual 70, 3) := by decide +kernel
theorem dX6_ring_11 : decode cX6_ring 11 = .ok (.ireturn, 1) := by decide +kernel
theorem dX6_ring_12 : decode cX6_ring 12 = .ok (.iload_n 1, 1) := by decide +kernel
theorem dX6_ring_13 : decode cX6_ring 13 = .ok (.bipush 6, 2) := by decide +kernel
theorem dX6_ring_15 : decode cX6_ring 15 = .ok (.if_icmp .le 10, 3) := by decide +kernel
theorem dX6_ring_18 : decode cX6_ring 18 = .ok (.aload_n 0, 1) := by decide +kernel
theorem dX6_ring_19 : decode cX6_ring 19 = .ok (.bipush (-6), 2) := by decide +kernel
theorem dX6_ring_21 : decode cX6_ring 21 = .ok (.invokevirtual 70, 3) := by decide +kernel
theorem dX6_ring_24 : decode cX6_ring 24 = .ok (.ireturn, 1) := by decide +kernel
theorem dX6_ring_25 : decode cX6_ring 25 = .ok (.iload_n 3, 1) := by decide +kernel
theorem dX6_ring_26 : decode cX6_ring 26 = .ok (.ifCond .ge 6, 3) := by decide +kernel
theorem dX6_ring_29 : decode cX6_ring 29 = .ok (.bipush (-9), 2) := by decide +kernel
theorem dX6_ring_31 : decode cX6_ring 31 = .ok (.ireturn, 1) := by decide +kernel
theorem dX6_ring_32 : decode cX6_ring 32 = .ok (.aload_n 0, 1) := by decide +kernel
theorem dX6_ring_33 : decode cX6_ring 33 = .ok (.getfield 40, 3) := by decide +kernel
theorem dX6_ring_36 : decode cX6_ring 36 = .ok (.iload_n 1, 1) := by decide +kernel
theorem dX6_ring_37 : decode cX6_ring 37 = .ok (.iload_n 2, 1) := by decide +kernel
theorem dX6_ring_38 : decode cX6_ring 38 = .ok (.iconst 0, 1) := by decide +kernel
theorem dX6_ring_39 : decode cX6_ring 39 = .ok (.iload_n 3, 1) := by decide +kernel
theorem dX6_ring_40 : decode cX6_ring 40 = .ok (.invokevirtual 177, 3) := by decide +kernel
theorem dX6_ring_43 : decode cX6_ring 43 = .ok (.aload_n 0, 1) := by decide +kernel
theorem dX6_ring_44 : decode cX6_ring 44 = .ok (.getfield 40, 3) := by decide +kernel
theorem dX6_ring_47 : decode cX6_ring 47 = .ok (.getfield 181, 3) := by decide +kernel
theorem dX6_ring_50 : decode cX6_ring 50 = .ok (.iload_n 3, 1) := by decide +kernel
theorem dX6_ring_51 : decode cX6_ring 51 = .ok (.if_icmp .gt 6, 3) := by decide +kernel
theorem dX6_ring_54 : decode cX6_ring 54 = .ok (.bipush (-9), 2) := by decide +kernel
theorem dX6_ring_56 : decode cX6_ring 56 = .ok (.ireturn, 1) := by decide +kernel
theorem dX6_ring_57 : decode cX6_ring 57 = .ok (.aload_n 0, 1) := by decide +kernel
theorem dX6_ring_58 : decode cX6_ring 58 = .ok (.getfield 10, 3) := by decide +kernel
theorem dX6_ring_61 : decode cX6_ring 61 = .ok (.aload_n 0, 1) := by decide +kernel
theorem dX6_ring_62 : decode cX6_ring 62 = .ok (.getfield 40, 3) := by decide +kernel
theorem dX6_ring_65 : decode cX6_ring 65 = .ok (.getfield 184, 3) := by decide +kernel
theorem dX6_ring_68 : decode cX6_ring 68 = .ok (.iload_n 1, 1) := by decide +kernel
theorem dX6_ring_69 : decode cX6_ring 69 = .ok (.invokevirtual 89, 3) := by decide +kernel
theorem dX6_ring_72 : decode cX6_ring 72 = .ok (.iconst 1, 1) := by decide +kernel
theorem dX6_ring_73 : decode cX6_ring 73 = .ok (.ireturn, 1) := by decide +kernel
theorem dX6_most_0 : decode cX6_most 0 = .ok (.bipush 6, 2) := by decide +kernel
theorem dX6_most_2 : decode cX6_most 2 = .ok (.istore_n 2, 1) := by decide +kernel
theorem dX6_most_3 : decode cX6_most 3 = .ok (.iload_n 2, 1) := by decide +kernel
theorem dX6_most_4 : decode cX6_most 4 = .ok (.iconst 1, 1) := by decide +kernel
theorem dX6_most_5 : decode cX6_most 5 = .ok (.if_icmp .lt 32, 3) := by decide +kernel
theorem dX6_most_8 : decode cX6_most 8 = .ok (.aload_n 0, 1) := by decide +kernel
theorem dX6_most_9 : decode cX6_most 9 = .ok (.getfield 40, 3) := by decide +kernel
theorem dX6_most_12 : decode cX6_most 12 = .ok (.iload_n 2, 1) := by decide +kernel
theorem dX6_most_13 : decode cX6_most 13 = .ok (.iload_n 1, 1) := by decide +kernel
theorem dX6_most_14 : decode cX6_most 14 = .ok (.iconst 0, 1) := by decide +kernel
theorem dX6_most_15 : decode cX6_most 15 = .ok (.iconst 0, 1) := by decide +kernel
theorem dX6_most_16 : decode cX6_most 16 = .ok (.invokevirtual 177, 3) := by decide +kernel
theorem dX6_most_19 : decode cX6_most 19 = .ok (.aload_n 0, 1) := by decide +kernel
theorem dX6_most_20 : decode cX6_most 20 = .ok (.getfield 40, 3) := by decide +kernel
theorem dX6_most_23 : decode cX6_most 23 = .ok (.getfield 181, 3) := by decide +kernel
theorem dX6_most_26 : decode cX6_most 26 = .ok (.ifCond .le 5, 3) := by decide +kernel
theorem dX6_most_29 : decode cX6_most 29 = .ok (.iload_n 2, 1) := by decide +kernel
theorem dX6_most_30 : decode cX6_most 30 = .ok (.ireturn, 1) := by decide +kernel
theorem dX6_most_31 : decode cX6_most 31 = .ok (.iinc 2 (-1), 3) := by decide +kernel
theorem dX6_most_34 : decode cX6_most 34 = .ok (.goto (-31), 3) := by decide +kernel
theorem dX6_most_37 : decode cX6_most 37 = .ok (.bipush (-9), 2) := by decide +kernel
theorem dX6_most_39 : decode cX6_most 39 = .ok (.ireturn, 1) := by decide +kernel
theorem dX6_opens_0 : decode cX6_opens 0 = .ok (.iload_n 1, 1) := by decide +kernel
theorem dX6_opens_1 : decode cX6_opens 1 = .ok (.iconst 1, 1) := by decide +kernel
theorem dX6_opens_2 : decode cX6_opens 2 = .ok (.if_icmp .ge 10, 3) := by decide +kernel
theorem dX6_opens_5 : decode cX6_opens 5 = .ok (.aload_n 0, 1) := by decide +kernel
theorem dX6_opens_6 : decode cX6_opens 6 = .ok (.bipush (-4), 2) := by decide +kernel
theorem dX6_opens_8 : decode cX6_opens 8 = .ok (.invokevirtual 70, 3) := by decide +kernel
theorem dX6_opens_11 : decode cX6_opens 11 = .ok (.ireturn, 1) := by decide +kernel
theorem dX6_opens_12 : decode cX6_opens 12 = .ok (.iload_n 1, 1) := by decide +kernel
theorem dX6_opens_13 : decode cX6_opens 13 = .ok (.bipush 6, 2) := by decide +kernel
theorem dX6_opens_15 : decode cX6_opens 15 = .ok (.if_icmp .le 10, 3) := by decide +kernel
theorem dX6_opens_18 : decode cX6_opens 18 = .ok (.aload_n 0, 1) := by decide +kernel
theorem dX6_opens_19 : decode cX6_opens 19 = .ok (.bipush (-6), 2) := by decide +kernel
theorem dX6_opens_21 : decode cX6_opens 21 = .ok (.invokevirtual 70, 3) := by decide +kernel
theorem dX6_opens_24 : decode cX6_opens 24 = .ok (.ireturn, 1) := by decide +kernel
theorem dX6_opens_25 : decode cX6_opens 25 = .ok (.aload_n 0, 1) := by decide +kernel
theorem dX6_opens_26 : decode cX6_opens 26 = .ok (.getfield 40, 3) := by decide +kernel
theorem dX6_opens_29 : decode cX6_opens 29 = .ok (.iload_n 1, 1) := by decide +kernel
theorem dX6_opens_30 : decode cX6_opens 30 = .ok (.iload_n 2, 1) := by decide +kernel
theorem dX6_opens_31 : decode cX6_opens 31 = .ok (.iconst 1, 1) := by decide +kernel
theorem dX6_opens_32 : decode cX6_opens 32 = .ok (.ldc 176, 2) := by decide +kernel
theorem dX6_opens_34 : decode cX6_opens 34 = .ok (.invokevirtual 177, 3) := by decide +kernel
theorem dX6_opens_37 : decode cX6_opens 37 = .ok (.bipush (-9), 2) := by decide +kernel
theorem dX6_opens_39 : decode cX6_opens 39 = .ok (.istore_n 3, 1) := by decide +kernel
theorem dX6_opens_40 : decode cX6_opens 40 = .ok (.iconst 0, 1) := by decide +kernel
theorem dX6_opens_41 : decode cX6_opens 41 = .ok (.istore 4, 2) := by decide +kernel
theorem dX6_opens_43 : decode cX6_opens 43 = .ok (.iconst 0, 1) := by decide +kernel
theorem dX6_opens_44 : decode cX6_opens 44 = .ok (.istore 5, 2) := by decide +kernel
theorem dX6_opens_46 : decode cX6_opens 46 = .ok (.iload 5, 2) := by decide +kernel
theorem dX6_opens_48 : decode cX6_opens 48 = .ok (.bipush 7, 2) := by decide +kernel
theorem dX6_opens_50 : decode cX6_opens 50 = .ok (.if_icmp .ge 37, 3) := by decide +kernel
theorem dX6_opens_53 : decode cX6_opens 53 = .ok (.aload_n 0, 1) := by decide +kernel
theorem dX6_opens_54 : decode cX6_opens 54 = .ok (.getfield 40, 3) := by decide +kernel
theorem dX6_opens_57 : decode cX6_opens 57 = .ok (.getfield 185, 3) := by decide +kernel
theorem dX6_opens_60 : decode cX6_opens 60 = .ok (.iload 5, 2) := by decide +kernel
theorem dX6_opens_62 : decode cX6_opens 62 = .ok (.invokestatic 82, 3) := by decide +kernel
theorem dX6_opens_65 : decode cX6_opens 65 = .ok (.istore 6, 2) := by decide +kernel
theorem dX6_opens_67 : decode cX6_opens 67 = .ok (.iload 6, 2) := by decide +kernel
theorem dX6_opens_69 : decode cX6_opens 69 = .ok (.iload 4, 2) := by decide +kernel
theorem dX6_opens_71 : decode cX6_opens 71 = .ok (.if_icmp .le 10, 3) := by decide +kernel
theorem dX6_opens_74 : decode cX6_opens 74 = .ok (.iload 6, 2) := by decide +kernel
theorem dX6_opens_76 : decode cX6_opens 76 = .ok (.istore 4, 2) := by decide +kernel
theorem dX6_opens_78 : decode cX6_opens 78 = .ok (.iload 5, 2) := by decide +kernel
theorem dX6_opens_80 : decode cX6_opens 80 = .ok (.istore_n 3, 1) := by decide +kernel
theorem dX6_opens_81 : decode cX6_opens 81 = .ok (.iinc 5 1, 3) := by decide +kernel
theorem dX6_opens_84 : decode cX6_opens 84 = .ok (.goto (-38), 3) := by decide +kernel
theorem dX6_opens_87 : decode cX6_opens 87 = .ok (.iload_n 3, 1) := by decide +kernel
theorem dX6_opens_88 : decode cX6_opens 88 = .ok (.ireturn, 1) := by decide +kernel
theorem dX6_nearest_0 : decode cX6_nearest 0 = .ok (.iload_n 1, 1) := by decide +kernel
theorem dX6_nearest_1 : decode cX6_nearest 1 = .ok (.iconst 1, 1) := by decide +kernel
theorem dX6_nearest_2 : decode cX6_nearest 2 = .ok (.if_icmp .ge 10, 3) := by decide +kernel
theorem dX6_nearest_5 : decode cX6_nearest 5 = .ok (.aload_n 0, 1) := by decide +kernel
theorem dX6_nearest_6 : decode cX6_nearest 6 = .ok (.bipush (-4), 2) := by decide +kernel
theorem dX6_nearest_8 : decode cX6_nearest 8 = .ok (.invokevirtual 70, 3) := by decide +kernel
theorem dX6_nearest_11 : decode cX6_nearest 11 = .ok (.ireturn, 1) := by decide +kernel
theorem dX6_nearest_12 : decode cX6_nearest 12 = .ok (.iload_n 1, 1) := by decide +kernel
theorem dX6_nearest_13 : decode cX6_nearest 13 = .ok (.iconst 5, 1) := by decide +kernel
theorem dX6_nearest_14 : decode cX6_nearest 14 = .ok (.if_icmp .le 10, 3) := by decide +kernel
theorem dX6_nearest_17 : decode cX6_nearest 17 = .ok (.aload_n 0, 1) := by decide +kernel
theorem dX6_nearest_18 : decode cX6_nearest 18 = .ok (.bipush (-6), 2) := by decide +kernel
theorem dX6_nearest_20 : decode cX6_nearest 20 = .ok (.invokevirtual 70, 3) := by decide +kernel
theorem dX6_nearest_23 : decode cX6_nearest 23 = .ok (.ireturn, 1) := by decide +kernel
theorem dX6_nearest_24 : decode cX6_nearest 24 = .ok (.aload_n 0, 1) := by decide +kernel
theorem dX6_nearest_25 : decode cX6_nearest 25 = .ok (.getfield 49, 3) := by decide +kernel
theorem dX6_nearest_28 : decode cX6_nearest 28 = .ok (.iload_n 1, 1) := by decide +kernel
theorem dX6_nearest_29 : decode cX6_nearest 29 = .ok (.invokevirtual 188, 3) := by decide +kernel
theorem dX6_nearest_32 : decode cX6_nearest 32 = .ok (.ifCond .ne 6, 3) := by decide +kernel
theorem dX6_nearest_35 : decode cX6_nearest 35 = .ok (.bipush (-9), 2) := by decide +kernel
theorem dX6_nearest_37 : decode cX6_nearest 37 = .ok (.ireturn, 1) := by decide +kernel
theorem dX6_nearest_38 : decode cX6_nearest 38 = .ok (.aload_n 0, 1) := by decide +kernel
theorem dX6_nearest_39 : decode cX6_nearest 39 = .ok (.getfield 10, 3) := by decide +kernel
theorem dX6_nearest_42 : decode cX6_nearest 42 = .ok (.aload_n 0, 1) := by decide +kernel
theorem dX6_nearest_43 : decode cX6_nearest 43 = .ok (.getfield 49, 3) := by decide +kernel
theorem dX6_nearest_46 : decode cX6_nearest 46 = .ok (.getfield 192, 3) := by decide +kernel
theorem dX6_nearest_49 : decode cX6_nearest 49 = .ok (.iload_n 1, 1) := by decide +kernel
theorem dX6_nearest_50 : decode cX6_nearest 50 = .ok (.invokevirtual 89, 3) := by decide +kernel
theorem dX6_nearest_53 : decode cX6_nearest 53 = .ok (.iconst 1, 1) := by decide +kernel
theorem dX6_nearest_54 : decode cX6_nearest 54 = .ok (.ireturn, 1) := by decide +kernel
theorem dX6_turn_0 : decode cX6_turn 0 = .ok (.iload_n 1, 1) := by decide +kernel
theorem dX6_turn_1 : decode cX6_turn 1 = .ok (.bipush (-2), 2) := by decide +kernel
theorem dX6_turn_3 : decode cX6_turn 3 = .ok (.if_icmp .ge 10, 3) := by decide +kernel
theorem dX6_turn_6 : decode cX6_turn 6 = .ok (.aload_n 0, 1) := by decide +kernel
theorem dX6_turn_7 : decode cX6_turn 7 = .ok (.bipush (-4), 2) := by decide +kernel
theorem dX6_turn_9 : decode cX6_turn 9 = .ok (.invokevirtual 70, 3) := by decide +kernel
theorem dX6_turn_12 : decode cX6_turn 12 = .ok (.ireturn, 1) := by decide +kernel
theorem dX6_turn_13 : decode cX6_turn 13 = .ok (.iload_n 1, 1) := by decide +kernel
theorem dX6_turn_14 : decode cX6_turn 14 = .ok (.iconst 2, 1) := by decide +kernel
theorem dX6_turn_15 : decode cX6_turn 15 = .ok (.if_icmp .gt 12, 3) := by decide +kernel
theorem dX6_turn_18 : decode cX6_turn 18 = .ok (.aload_n 0, 1) := by decide +kernel
theorem dX6_turn_19 : decode cX6_turn 19 = .ok (.getfield 195, 3) := by decide +kernel
theorem dX6_turn_22 : decode cX6_turn 22 = .ok (.bipush 6, 2) := by decide +kernel
theorem dX6_turn_24 : decode cX6_turn 24 = .ok (.if_icmp .lt 10, 3) := by decide +kernel
theorem dX6_turn_27 : decode cX6_turn 27 = .ok (.aload_n 0, 1) := by decide +kernel
theorem dX6_turn_28 : decode cX6_turn 28 = .ok (.bipush (-6), 2) := by decide +kernel
theorem dX6_turn_30 : decode cX6_turn 30 = .ok (.invokevirtual 70, 3) := by decide +kernel
theorem dX6_turn_33 : decode cX6_turn 33 = .ok (.ireturn, 1) := by decide +kernel
theorem dX6_turn_34 : decode cX6_turn 34 = .ok (.aload_n 0, 1) := by decide +kernel
theorem dX6_turn_35 : decode cX6_turn 35 = .ok (.getfield 57, 3) := by decide +kernel
theorem dX6_turn_38 : decode cX6_turn 38 = .ok (.aload_n 0, 1) := by decide +kernel
theorem dX6_turn_39 : decode cX6_turn 39 = .ok (.getfield 195, 3) := by decide +kernel
theorem dX6_turn_42 : decode cX6_turn 42 = .ok (.iload_n 1, 1) := by decide +kernel
theorem dX6_turn_43 : decode cX6_turn 43 = .ok (.invokestatic 78, 3) := by decide +kernel
theorem dX6_turn_46 : decode cX6_turn 46 = .ok (.aload_n 0, 1) := by decide +kernel
theorem dX6_turn_47 : decode cX6_turn 47 = .ok (.dup, 1) := by decide +kernel
theorem dX6_turn_48 : decode cX6_turn 48 = .ok (.getfield 195, 3) := by decide +kernel
theorem dX6_turn_51 : decode cX6_turn 51 = .ok (.iconst 1, 1) := by decide +kernel
theorem dX6_turn_52 : decode cX6_turn 52 = .ok (.iadd, 1) := by decide +kernel
theorem dX6_turn_53 : decode cX6_turn 53 = .ok (.putfield 195, 3) := by decide +kernel
theorem dX6_turn_56 : decode cX6_turn 56 = .ok (.aload_n 0, 1) := by decide +kernel
theorem dX6_turn_57 : decode cX6_turn 57 = .ok (.getfield 195, 3) := by decide +kernel
theorem dX6_turn_60 : decode cX6_turn 60 = .ok (.ireturn, 1) := by decide +kernel
theorem dX6_photo_0 : decode cX6_photo 0 = .ok (.aload_n 0, 1) := by decide +kernel
theorem dX6_photo_1 : decode cX6_photo 1 = .ok (.getfield 195, 3) := by decide +kernel
theorem dX6_photo_4 : decode cX6_photo 4 = .ok (.istore_n 1, 1) := by decide +kernel
theorem dX6_photo_5 : decode cX6_photo 5 = .ok (.aload_n 0, 1) := by decide +kernel
theorem dX6_photo_6 : decode cX6_photo 6 = .ok (.iconst 0, 1) := by decide +kernel
theorem dX6_photo_7 : decode cX6_photo 7 = .ok (.putfield 195, 3) := by decide +kernel
theorem dX6_photo_10 : decode cX6_photo 10 = .ok (.aload_n 0, 1) := by decide +kernel
theorem dX6_photo_11 : decode cX6_photo 11 = .ok (.getfield 49, 3) := by decide +kernel
theorem dX6_photo_14 : decode cX6_photo 14 = .ok (.aload_n 0, 1) := by decide +kernel
theorem dX6_photo_15 : decode cX6_photo 15 = .ok (.getfield 57, 3) := by decide +kernel
theorem dX6_photo_18 : decode cX6_photo 18 = .ok (.iload_n 1, 1) := by decide +kernel
theorem dX6_photo_19 : decode cX6_photo 19 = .ok (.invokevirtual 198, 3) := by decide +kernel
theorem dX6_photo_22 : decode cX6_photo 22 = .ok (.ireturn, 1) := by decide +kernel
theorem dX6_image_0 : decode cX6_image 0 = .ok (.aload_n 0, 1) := by decide +kernel
theorem dX6_image_1 : decode cX6_image 1 = .ok (.getfield 16, 3) := by decide +kernel
theorem dX6_image_4 : decode cX6_image 4 = .ok (.aload_n 0, 1) := by decide +kernel
theorem dX6_image_5 : decode cX6_image 5 = .ok (.getfield 10, 3) := by decide +kernel
theorem dX6_image_8 : decode cX6_image 8 = .ok (.invokevirtual 201, 3) := by decide +kernel
theorem dX6_image_11 : decode cX6_image 11 = .ok (.aload_n 0, 1) := by decide +kernel
theorem dX6_image_12 : decode cX6_image 12 = .ok (.iconst 1, 1) := by decide +kernel
theorem dX6_image_13 : decode cX6_image 13 = .ok (.putfield 205, 3) := by decide +kernel
theorem dX6_image_16 : decode cX6_image 16 = .ok (.aload_n 0, 1) := by decide +kernel
theorem dX6_image_17 : decode cX6_image 17 = .ok (.getfield 10, 3) := by decide +kernel
theorem dX6_image_20 : decode cX6_image 20 = .ok (.getfield 93, 3) := by decide +kernel
theorem dX6_image_23 : decode cX6_image 23 = .ok (.ireturn, 1) := by decide +kernel
theorem dX6_on_0 : decode cX6_on 0 = .ok (.aload_n 0, 1) := by decide +kernel
theorem dX6_on_1 : decode cX6_on 1 = .ok (.getfield 205, 3) := by decide +kernel
theorem dX6_on_4 : decode cX6_on 4 = .ok (.ifCond .ne 10, 3) := by decide +kernel
theorem dX6_on_7 : decode cX6_on 7 = .ok (.aload_n 0, 1) := by decide +kernel
theorem dX6_on_8 : decode cX6_on 8 = .ok (.bipush (-3), 2) := by decide +kernel
theorem dX6_on_10 : decode cX6_on 10 = .ok (.invokevirtual 70, 3) := by decide +kernel
theorem dX6_on_13 : decode cX6_on 13 = .ok (.ireturn, 1) := by decide +kernel
theorem dX6_on_14 : decode cX6_on 14 = .ok (.aload_n 0, 1) := by decide +kernel
theorem dX6_on_15 : decode cX6_on 15 = .ok (.getfield 10, 3) := by decide +kernel
theorem dX6_on_18 : decode cX6_on 18 = .ok (.aload_n 0, 1) := by decide +kernel
theorem dX6_on_19 : decode cX6_on 19 = .ok (.getfield 16, 3) := by decide +kernel
theorem dX6_on_22 : decode cX6_on 22 = .ok (.invokevirtual 201, 3) := by decide +kernel
theorem dX6_on_25 : decode cX6_on 25 = .ok (.aload_n 0, 1) := by decide +kernel
theorem dX6_on_26 : decode cX6_on 26 = .ok (.invokevirtual 99, 3) := by decide +kernel
theorem dX6_on_29 : decode cX6_on 29 = .ok (.aload_n 0, 1) := by decide +kernel
theorem dX6_on_30 : decode cX6_on 30 = .ok (.getfield 10, 3) := by decide +kernel
theorem dX6_on_33 : decode cX6_on 33 = .ok (.getfield 93, 3) := by decide +kernel
theorem dX6_on_36 : decode cX6_on 36 = .ok (.ireturn, 1) := by decide +kernel
theorem dX6_count_0 : decode cX6_count 0 = .ok (.iload_n 1, 1) := by decide +kernel
theorem dX6_count_1 : decode cX6_count 1 = .ok (.bipush 10, 2) := by decide +kernel
theorem dX6_count_3 : decode cX6_count 3 = .ok (.if_icmp .le 21, 3) := by decide +kernel
theorem dX6_count_6 : decode cX6_count 6 = .ok (.iload_n 1, 1) := by decide +kernel
theorem dX6_count_7 : decode cX6_count 7 = .ok (.bipush 16, 2) := by decide +kernel
theorem dX6_count_9 : decode cX6_count 9 = .ok (.if_icmp .gt 15, 3) := by decide +kernel
theorem dX6_count_12 : decode cX6_count 12 = .ok (.aload_n 0, 1) := by decide +kernel
theorem dX6_count_13 : decode cX6_count 13 = .ok (.getfield 60, 3) := by decide +kernel
theorem dX6_count_16 : decode cX6_count 16 = .ok (.iload_n 1, 1) := by decide +kernel
theorem dX6_count_17 : decode cX6_count 17 = .ok (.bipush 10, 2) := by decide +kernel
theorem dX6_count_19 : decode cX6_count 19 = .ok (.isub, 1) := by decide +kernel
theorem dX6_count_20 : decode cX6_count 20 = .ok (.invokestatic 82, 3) := by decide +kernel
theorem dX6_count_23 : decode cX6_count 23 = .ok (.ireturn, 1) := by decide +kernel
theorem dX6_count_24 : decode cX6_count 24 = .ok (.iload_n 1, 1) := by decide +kernel
theorem dX6_count_25 : decode cX6_count 25 = .ok (.tableswitch 69 0 4 #[35, 43, 51, 59, 64], 35) := by decide +kernel
theorem dX6_count_60 : decode cX6_count 60 = .ok (.aload_n 0, 1) := by decide +kernel
theorem dX6_count_61 : decode cX6_count 61 = .ok (.getfield 10, 3) := by decide +kernel
theorem dX6_count_64 : decode cX6_count 64 = .ok (.getfield 93, 3) := by decide +kernel
theorem dX6_count_67 : decode cX6_count 67 = .ok (.ireturn, 1) := by decide +kernel
theorem dX6_count_68 : decode cX6_count 68 = .ok (.aload_n 0, 1) := by decide +kernel
theorem dX6_count_69 : decode cX6_count 69 = .ok (.getfield 10, 3) := by decide +kernel
theorem dX6_count_72 : decode cX6_count 72 = .ok (.invokevirtual 209, 3) := by decide +kernel
theorem dX6_count_75 : decode cX6_count 75 = .ok (.ireturn, 1) := by decide +kernel
theorem dX6_count_76 : decode cX6_count 76 = .ok (.aload_n 0, 1) := by decide +kernel
theorem dX6_count_77 : decode cX6_count 77 = .ok (.getfield 10, 3) := by decide +kernel
theorem dX6_count_80 : decode cX6_count 80 = .ok (.getfield 159, 3) := by decide +kernel
theorem dX6_count_83 : decode cX6_count 83 = .ok (.ireturn, 1) := by decide +kernel
theorem dX6_count_84 : decode cX6_count 84 = .ok (.aload_n 0, 1) := by decide +kernel
theorem dX6_count_85 : decode cX6_count 85 = .ok (.getfield 74, 3) := by decide +kernel
theorem dX6_count_88 : decode cX6_count 88 = .ok (.ireturn, 1) := by decide +kernel
theorem dX6_count_89 : decode cX6_count 89 = .ok (.aload_n 0, 1) := by decide +kernel
theorem dX6_count_90 : decode cX6_count 90 = .ok (.getfield 195, 3) := by decide +kernel
theorem dX6_count_93 : decode cX6_count 93 = .ok (.ireturn, 1) := by decide +kernel
theorem dX6_count_94 : decode cX6_count 94 = .ok (.bipush (-9), 2) := by decide +kernel
theorem dX6_count_96 : decode cX6_count 96 = .ok (.ireturn, 1) := by decide +kernel
theorem dX6_measureAnew_0 : decode cX6_measureAnew 0 = .ok (.aload_n 0, 1) := by decide +kernel
theorem dX6_measureAnew_1 : decode cX6_measureAnew 1 = .ok (.getfield 22, 3) := by decide +kernel
theorem dX6_measureAnew_4 : decode cX6_measureAnew 4 = .ok (.aload_n 0, 1) := by decide +kernel
theorem dX6_measureAnew_5 : decode cX6_measureAnew 5 = .ok (.getfield 10, 3) := by decide +kernel
theorem dX6_measureAnew_8 : decode cX6_measureAnew 8 = .ok (.getfield 63, 3) := by decide +kernel
theorem dX6_measureAnew_11 : decode cX6_measureAnew 11 = .ok (.invokevirtual 66, 3) := by decide +kernel
theorem dX6_measureAnew_14 : decode cX6_measureAnew 14 = .ok (.aload_n 0, 1) := by decide +kernel
theorem dX6_measureAnew_15 : decode cX6_measureAnew 15 = .ok (.getfield 40, 3) := by decide +kernel
theorem dX6_measureAnew_18 : decode cX6_measureAnew 18 = .ok (.invokevirtual 212, 3) := by decide +kernel
theorem dX6_measureAnew_21 : decode cX6_measureAnew 21 = .ok (.return_, 1) := by decide +kernel
theorem dX6_refuse_0 : decode cX6_refuse 0 = .ok (.aload_n 0, 1) := by decide +kernel
theorem dX6_refuse_1 : decode cX6_refuse 1 = .ok (.getfield 60, 3) := by decide +kernel
theorem dX6_refuse_4 : decode cX6_refuse 4 = .ok (.iload_n 1, 1) := by decide +kernel
theorem dX6_refuse_5 : decode cX6_refuse 5 = .ok (.ineg, 1) := by decide +kernel
theorem dX6_refuse_6 : decode cX6_refuse 6 = .ok (.aload_n 0, 1) := by decide +kernel
theorem dX6_refuse_7 : decode cX6_refuse 7 = .ok (.getfield 60, 3) := by decide +kernel
theorem dX6_refuse_10 : decode cX6_refuse 10 = .ok (.iload_n 1, 1) := by decide +kernel
theorem dX6_refuse_11 : decode cX6_refuse 11 = .ok (.ineg, 1) := by decide +kernel
theorem dX6_refuse_12 : decode cX6_refuse 12 = .ok (.invokestatic 82, 3) := by decide +kernel
theorem dX6_refuse_15 : decode cX6_refuse 15 = .ok (.iconst 1, 1) := by decide +kernel
theorem dX6_refuse_16 : decode cX6_refuse 16 = .ok (.iadd, 1) := by decide +kernel
theorem dX6_refuse_17 : decode cX6_refuse 17 = .ok (.invokestatic 78, 3) := by decide +kernel
theorem dX6_refuse_20 : decode cX6_refuse 20 = .ok (.iload_n 1, 1) := by decide +kernel
theorem dX6_refuse_21 : decode cX6_refuse 21 = .ok (.ireturn, 1) := by decide +kernel
theorem dX6_refuseFar_0 : decode cX6_refuseFar 0 = .ok (.ldc 176, 2) := by decide +kernel
theorem dX6_refuseFar_2 : decode cX6_refuseFar 2 = .ok (.aload_n 0, 1) := by decide +kernel
theorem dX6_refuseFar_3 : decode cX6_refuseFar 3 = .ok (.iload_n 1, 1) := by decide +kernel
theorem dX6_refuseFar_4 : decode cX6_refuseFar 4 = .ok (.invokevirtual 70, 3) := by decide +kernel
theorem dX6_refuseFar_7 : decode cX6_refuseFar 7 = .ok (.isub, 1) := by decide +kernel
theorem dX6_refuseFar_8 : decode cX6_refuseFar 8 = .ok (.ireturn, 1) := by decide +kernel
theorem dX6_yes_0 : decode cX6_yes 0 = .ok (.iload_n 0, 1) := by decide +kernel
theorem dX6_yes_1 : decode cX6_yes 1 = .ok (.ifCond .eq 7, 3) := by decide +kernel
theorem dX6_yes_4 : decode cX6_yes 4 = .ok (.iconst 1, 1) := by decide +kernel
theorem dX6_yes_5 : decode cX6_yes 5 = .ok (.goto 4, 3) := by decide +kernel
theorem dX6_yes_8 : decode cX6_yes 8 = .ok (.iconst 0, 1) := by decide +kernel
theorem dX6_yes_9 : decode cX6_yes 9 = .ok (.ireturn, 1) := by decide +kernel
theorem dX6_letterOf_0 : decode cX6_letterOf 0 = .ok (.iconst 0, 1) := by decide +kernel
theorem dX6_letterOf_1 : decode cX6_letterOf 1 = .ok (.istore_n 1, 1) := by decide +kernel
theorem dX6_letterOf_2 : decode cX6_letterOf 2 = .ok (.iload_n 1, 1) := by decide +kernel
theorem dX6_letterOf_3 : decode cX6_letterOf 3 = .ok (.getstatic 215, 3) := by decide +kernel
theorem dX6_letterOf_6 : decode cX6_letterOf 6 = .ok (.arraylength, 1) := by decide +kernel
theorem dX6_letterOf_7 : decode cX6_letterOf 7 = .ok (.if_icmp .ge 20, 3) := by decide +kernel
theorem dX6_letterOf_10 : decode cX6_letterOf 10 = .ok (.getstatic 215, 3) := by decide +kernel
theorem dX6_letterOf_13 : decode cX6_letterOf 13 = .ok (.iload_n 1, 1) := by decide +kernel
theorem dX6_letterOf_14 : decode cX6_letterOf 14 = .ok (.iaload, 1) := by decide +kernel
theorem dX6_letterOf_15 : decode cX6_letterOf 15 = .ok (.iload_n 0, 1) := by decide +kernel
theorem dX6_letterOf_16 : decode cX6_letterOf 16 = .ok (.if_icmp .ne 5, 3) := by decide +kernel
theorem dX6_letterOf_19 : decode cX6_letterOf 19 = .ok (.iload_n 1, 1) := by decide +kernel
theorem dX6_letterOf_20 : decode cX6_letterOf 20 = .ok (.ireturn, 1) := by decide +kernel
theorem dX6_letterOf_21 : decode cX6_letterOf 21 = .ok (.iinc 1 1, 3) := by decide +kernel
theorem dX6_letterOf_24 : decode cX6_letterOf 24 = .ok (.goto (-22), 3) := by decide +kernel
theorem dX6_letterOf_27 : decode cX6_letterOf 27 = .ok (.iconst (-1), 1) := by decide +kernel
theorem dX6_letterOf_28 : decode cX6_letterOf 28 = .ok (.ireturn, 1) := by decide +kernel
theorem dX6_at_0 : decode cX6_at 0 = .ok (.iload_n 1, 1) := by decide +kernel
theorem dX6_at_1 : decode cX6_at 1 = .ok (.ifCond .lt 15, 3) := by decide +kernel
theorem dX6_at_4 : decode cX6_at 4 = .ok (.iload_n 1, 1) := by decide +kernel
theorem dX6_at_5 : decode cX6_at 5 = .ok (.aload_n 0, 1) := by decide +kernel
theorem dX6_at_6 : decode cX6_at 6 = .ok (.arraylength, 1) := by decide +kernel
theorem dX6_at_7 : decode cX6_at 7 = .ok (.if_icmp .ge 9, 3) := by decide +kernel
theorem dX6_at_10 : decode cX6_at 10 = .ok (.aload_n 0, 1) := by decide +kernel
theorem dX6_at_11 : decode cX6_at 11 = .ok (.iload_n 1, 1) := by decide +kernel
theorem dX6_at_12 : decode cX6_at 12 = .ok (.iaload, 1) := by decide +kernel
theorem dX6_at_13 : decode cX6_at 13 = .ok (.goto 4, 3) := by decide +kernel
theorem dX6_at_16 : decode cX6_at 16 = .ok (.iconst 0, 1) := by decide +kernel
theorem dX6_at_17 : decode cX6_at 17 = .ok (.ireturn, 1) := by decide +kernel
theorem dX6_put_0 : decode cX6_put 0 = .ok (.iload_n 1, 1) := by decide +kernel
theorem dX6_put_1 : decode cX6_put 1 = .ok (.ifCond .lt 13, 3) := by decide +kernel
theorem dX6_put_4 : decode cX6_put 4 = .ok (.iload_n 1, 1) := by decide +kernel
theorem dX6_put_5 : decode cX6_put 5 = .ok (.aload_n 0, 1) := by decide +kernel
theorem dX6_put_6 : decode cX6_put 6 = .ok (.arraylength, 1) := by decide +kernel
theorem dX6_put_7 : decode cX6_put 7 = .ok (.if_icmp .ge 7, 3) := by decide +kernel
theorem dX6_put_10 : decode cX6_put 10 = .ok (.aload_n 0, 1) := by decide +kernel
theorem dX6_put_11 : decode cX6_put 11 = .ok (.iload_n 1, 1) := by decide +kernel
theorem dX6_put_12 : decode cX6_put 12 = .ok (.iload_n 2, 1) := by decide +kernel
theorem dX6_put_13 : decode cX6_put 13 = .ok (.iastore, 1) := by decide +kernel
theorem dX6_put_14 : decode cX6_put 14 = .ok (.return_, 1) := by decide +kernel
theorem dX6_placeAt_0 : decode cX6_placeAt 0 = .ok (.iload_n 1, 1) := by decide +kernel
theorem dX6_placeAt_1 : decode cX6_placeAt 1 = .ok (.ifCond .lt 15, 3) := by decide +kernel
theorem dX6_placeAt_4 : decode cX6_placeAt 4 = .ok (.iload_n 1, 1) := by decide +kernel
theorem dX6_placeAt_5 : decode cX6_placeAt 5 = .ok (.aload_n 0, 1) := by decide +kernel
theorem dX6_placeAt_6 : decode cX6_placeAt 6 = .ok (.arraylength, 1) := by decide +kernel
theorem dX6_placeAt_7 : decode cX6_placeAt 7 = .ok (.if_icmp .ge 9, 3) := by decide +kernel
theorem dX6_placeAt_10 : decode cX6_placeAt 10 = .ok (.aload_n 0, 1) := by decide +kernel
theorem dX6_placeAt_11 : decode cX6_placeAt 11 = .ok (.iload_n 1, 1) := by decide +kernel
theorem dX6_placeAt_12 : decode cX6_placeAt 12 = .ok (.laload, 1) := by decide +kernel
theorem dX6_placeAt_13 : decode cX6_placeAt 13 = .ok (.goto 4, 3) := by decide +kernel
theorem dX6_placeAt_16 : decode cX6_placeAt 16 = .ok (.lconst 0, 1) := by decide +kernel
theorem dX6_placeAt_17 : decode cX6_placeAt 17 = .ok (.lreturn, 1) := by decide +kernel
theorem dX6_putPlace_0 : decode cX6_putPlace 0 = .ok (.iload_n 1, 1) := by decide +kernel
theorem dX6_putPlace_1 : decode cX6_putPlace 1 = .ok (.ifCond .lt 13, 3) := by decide +kernel
theorem dX6_putPlace_4 : decode cX6_putPlace 4 = .ok (.iload_n 1, 1) := by decide +kernel
theorem dX6_putPlace_5 : decode cX6_putPlace 5 = .ok (.aload_n 0, 1) := by decide +kernel
theorem dX6_putPlace_6 : decode cX6_putPlace 6 = .ok (.arraylength, 1) := by decide +kernel
theorem dX6_putPlace_7 : decode cX6_putPlace 7 = .ok (.if_icmp .ge 7, 3) := by decide +kernel
theorem dX6_putPlace_10 : decode cX6_putPlace 10 = .ok (.aload_n 0, 1) := by decide +kernel
theorem dX6_putPlace_11 : decode cX6_putPlace 11 = .ok (.iload_n 1, 1) := by decide +kernel
theorem dX6_putPlace_12 : decode cX6_putPlace 12 = .ok (.lload_n 2, 1) := by decide +kernel
theorem dX6_putPlace_13 : decode cX6_putPlace 13 = .ok (.lastore, 1) := by decide +kernel
theorem dX6_putPlace_14 : decode cX6_putPlace 14 = .ok (.return_, 1) := by decide +kernel
theorem dX6_copyAll_0 : decode cX6_copyAll 0 = .ok (.iconst 0, 1) := by decide +kernel
theorem dX6_copyAll_1 : decode cX6_copyAll 1 = .ok (.istore_n 2, 1) := by decide +kernel
theorem dX6_copyAll_2 : decode cX6_copyAll 2 = .ok (.iload_n 2, 1) := by decide +kernel
theorem dX6_copyAll_3 : decode cX6_copyAll 3 = .ok (.aload_n 1, 1) := by decide +kernel
theorem dX6_copyAll_4 : decode cX6_copyAll 4 = .ok (.arraylength, 1) := by decide +kernel
theorem dX6_copyAll_5 : decode cX6_copyAll 5 = .ok (.if_icmp .ge 17, 3) := by decide +kernel
theorem dX6_copyAll_8 : decode cX6_copyAll 8 = .ok (.aload_n 1, 1) := by decide +kernel
theorem dX6_copyAll_9 : decode cX6_copyAll 9 = .ok (.iload_n 2, 1) := by decide +kernel
theorem dX6_copyAll_10 : decode cX6_copyAll 10 = .ok (.aload_n 0, 1) := by decide +kernel
theorem dX6_copyAll_11 : decode cX6_copyAll 11 = .ok (.iload_n 2, 1) := by decide +kernel
theorem dX6_copyAll_12 : decode cX6_copyAll 12 = .ok (.invokestatic 82, 3) := by decide +kernel
theorem dX6_copyAll_15 : decode cX6_copyAll 15 = .ok (.iastore, 1) := by decide +kernel
theorem dX6_copyAll_16 : decode cX6_copyAll 16 = .ok (.iinc 2 1, 3) := by decide +kernel
theorem dX6_copyAll_19 : decode cX6_copyAll 19 = .ok (.goto (-17), 3) := by decide +kernel
theorem dX6_copyAll_22 : decode cX6_copyAll 22 = .ok (.return_, 1) := by decide +kernel
theorem dX7_init_0 : decode cX7_init 0 = .ok (.aload_n 0, 1) := by decide +kernel
theorem dX7_init_1 : decode cX7_init 1 = .ok (.invokespecial 1, 3) := by decide +kernel
theorem dX7_init_4 : decode cX7_init 4 = .ok (.aload_n 0, 1) := by decide +kernel
theorem dX7_init_5 : decode cX7_init 5 = .ok (.bipush 7, 2) := by decide +kernel
theorem dX7_init_7 : decode cX7_init 7 = .ok (.newarray .int, 2) := by decide +kernel
theorem dX7_init_9 : decode cX7_init 9 = .ok (.putfield 7, 3) := by decide +kernel
theorem dX7_init_12 : decode cX7_init 12 = .ok (.aload_n 0, 1) := by decide +kernel
theorem dX7_init_13 : decode cX7_init 13 = .ok (.bipush 56, 2) := by decide +kernel
theorem dX7_init_15 : decode cX7_init 15 = .ok (.newarray .int, 2) := by decide +kernel
theorem dX7_init_17 : decode cX7_init 17 = .ok (.putfield 13, 3) := by decide +kernel
theorem dX7_init_20 : decode cX7_init 20 = .ok (.aload_n 0, 1) := by decide +kernel
theorem dX7_init_21 : decode cX7_init 21 = .ok (.bipush 56, 2) := by decide +kernel
theorem dX7_init_23 : decode cX7_init 23 = .ok (.newarray .int, 2) := by decide +kernel
theorem dX7_init_25 : decode cX7_init 25 = .ok (.putfield 16, 3) := by decide +kernel
theorem dX7_init_28 : decode cX7_init 28 = .ok (.aload_n 0, 1) := by decide +kernel
theorem dX7_init_29 : decode cX7_init 29 = .ok (.bipush 24, 2) := by decide +kernel
theorem dX7_init_31 : decode cX7_init 31 = .ok (.newarray .int, 2) := by decide +kernel
theorem dX7_init_33 : decode cX7_init 33 = .ok (.putfield 19, 3) := by decide +kernel
theorem dX7_init_36 : decode cX7_init 36 = .ok (.aload_n 0, 1) := by decide +kernel
theorem dX7_init_37 : decode cX7_init 37 = .ok (.bipush 125, 2) := by decide +kernel
theorem dX7_init_39 : decode cX7_init 39 = .ok (.newarray .int, 2) := by decide +kernel
theorem dX7_init_41 : decode cX7_init 41 = .ok (.putfield 22, 3) := by decide +kernel
theorem dX7_init_44 : decode cX7_init 44 = .ok (.aload_n 0, 1) := by decide +kernel
theorem dX7_init_45 : decode cX7_init 45 = .ok (.bipush 24, 2) := by decide +kernel
theorem dX7_init_47 : decode cX7_init 47 = .ok (.newarray .int, 2) := by decide +kernel
theorem dX7_init_49 : decode cX7_init 49 = .ok (.putfield 25, 3) := by decide +kernel
theorem dX7_init_52 : decode cX7_init 52 = .ok (.aload_n 0, 1) := by decide +kernel
theorem dX7_init_53 : decode cX7_init 53 = .ok (.bipush 7, 2) := by decide +kernel
theorem dX7_init_55 : decode cX7_init 55 = .ok (.newarray .int, 2) := by decide +kernel
theorem dX7_init_57 : decode cX7_init 57 = .ok (.putfield 28, 3) := by decide +kernel
theorem dX7_init_60 : decode cX7_init 60 = .ok (.aload_n 0, 1) := by decide +kernel
theorem dX7_init_61 : decode cX7_init 61 = .ok (.bipush 6, 2) := by decide +kernel
theorem dX7_init_63 : decode cX7_init 63 = .ok (.newarray .int, 2) := by decide +kernel
theorem dX7_init_65 : decode cX7_init 65 = .ok (.putfield 31, 3) := by decide +kernel
theorem dX7_init_68 : decode cX7_init 68 = .ok (.aload_n 0, 1) := by decide +kernel
theorem dX7_init_69 : decode cX7_init 69 = .ok (.bipush 6, 2) := by decide +kernel
theorem dX7_init_71 : decode cX7_init 71 = .ok (.newarray .int, 2) := by decide +kernel
theorem dX7_init_73 : decode cX7_init 73 = .ok (.putfield 34, 3) := by decide +kernel
theorem dX7_init_76 : decode cX7_init 76 = .ok (.aload_n 0, 1) := by decide +kernel
theorem dX7_init_77 : decode cX7_init 77 = .ok (.bipush 6, 2) := by decide +kernel
theorem dX7_init_79 : decode cX7_init 79 = .ok (.newarray .int, 2) := by decide +kernel
theorem dX7_init_81 : decode cX7_init 81 = .ok (.putfield 37, 3) := by decide +kernel
theorem dX7_init_84 : decode cX7_init 84 = .ok (.aload_n 0, 1) := by decide +kernel
theorem dX7_init_85 : decode cX7_init 85 = .ok (.iconst 4, 1) := by decide +kernel
theorem dX7_init_86 : decode cX7_init 86 = .ok (.iconst 2, 1) := by decide +kernel
theorem dX7_init_87 : decode cX7_init 87 = .ok (.iconst 1, 1) := by decide +kernel
theorem dX7_init_88 : decode cX7_init 88 = .ok (.iconst 4, 1) := by decide +kernel
theorem dX7_init_89 : decode cX7_init 89 = .ok (.invokevirtual 40, 3) := by decide +kernel
theorem dX7_init_92 : decode cX7_init 92 = .ok (.aload_n 0, 1) := by decide +kernel
theorem dX7_init_93 : decode cX7_init 93 = .ok (.getfield 13, 3) := by decide +kernel
theorem dX7_init_96 : decode cX7_init 96 = .ok (.bipush 11, 2) := by decide +kernel
theorem dX7_init_98 : decode cX7_init 98 = .ok (.bipush 6, 2) := by decide +kernel
theorem dX7_init_100 : decode cX7_init 100 = .ok (.iastore, 1) := by decide +kernel
theorem dX7_init_101 : decode cX7_init 101 = .ok (.aload_n 0, 1) := by decide +kernel
theorem dX7_init_102 : decode cX7_init 102 = .ok (.getfield 13, 3) := by decide +kernel
theorem dX7_init_105 : decode cX7_init 105 = .ok (.bipush 12, 2) := by decide +kernel
theorem dX7_init_107 : decode cX7_init 107 = .ok (.iconst 4, 1) := by decide +kernel
theorem dX7_init_108 : decode cX7_init 108 = .ok (.iastore, 1) := by decide +kernel
theorem dX7_init_109 : decode cX7_init 109 = .ok (.aload_n 0, 1) := by decide +kernel
theorem dX7_init_110 : decode cX7_init 110 = .ok (.getfield 13, 3) := by decide +kernel
theorem dX7_init_113 : decode cX7_init 113 = .ok (.bipush 13, 2) := by decide +kernel
theorem dX7_init_115 : decode cX7_init 115 = .ok (.iconst 4, 1) := by decide +kernel
theorem dX7_init_116 : decode cX7_init 116 = .ok (.iastore, 1) := by decide +kernel
theorem dX7_init_117 : decode cX7_init 117 = .ok (.aload_n 0, 1) := by decide +kernel
theorem dX7_init_118 : decode cX7_init 118 = .ok (.getfield 13, 3) := by decide +kernel
theorem dX7_init_121 : decode cX7_init 121 = .ok (.bipush 14, 2) := by decide +kernel
theorem dX7_init_123 : decode cX7_init 123 = .ok (.sipush (-400), 3) := by decide +kernel
theorem dX7_init_126 : decode cX7_init 126 = .ok (.iastore, 1) := by decide +kernel
theorem dX7_init_127 : decode cX7_init 127 = .ok (.aload_n 0, 1) := by decide +kernel
theorem dX7_init_128 : decode cX7_init 128 = .ok (.getfield 13, 3) := by decide +kernel
theorem dX7_init_131 : decode cX7_init 131 = .ok (.bipush 15, 2) := by decide +kernel
theorem dX7_init_133 : decode cX7_init 133 = .ok (.sipush 400, 3) := by decide +kernel
theorem dX7_init_136 : decode cX7_init 136 = .ok (.iastore, 1) := by decide +kernel
theorem dX7_init_137 : decode cX7_init 137 = .ok (.aload_n 0, 1) := by decide +kernel
theorem dX7_init_138 : decode cX7_init 138 = .ok (.getfield 13, 3) := by decide +kernel
theorem dX7_init_141 : decode cX7_init 141 = .ok (.bipush 16, 2) := by decide +kernel
theorem dX7_init_143 : decode cX7_init 143 = .ok (.sipush (-400), 3) := by decide +kernel
theorem dX7_init_146 : decode cX7_init 146 = .ok (.iastore, 1) := by decide +kernel
theorem dX7_init_147 : decode cX7_init 147 = .ok (.aload_n 0, 1) := by decide +kernel
theorem dX7_init_148 : decode cX7_init 148 = .ok (.getfield 13, 3) := by decide +kernel
theorem dX7_init_151 : decode cX7_init 151 = .ok (.bipush 17, 2) := by decide +kernel
theorem dX7_init_153 : decode cX7_init 153 = .ok (.sipush 400, 3) := by decide +kernel
theorem dX7_init_156 : decode cX7_init 156 = .ok (.iastore, 1) := by decide +kernel
theorem dX7_init_157 : decode cX7_init 157 = .ok (.return_, 1) := by decide +kernel
theorem dX7_sizes_0 : decode cX7_sizes 0 = .ok (.aload_n 0, 1) := by decide +kernel
theorem dX7_sizes_1 : decode cX7_sizes 1 = .ok (.getfield 13, 3) := by decide +kernel
theorem dX7_sizes_4 : decode cX7_sizes 4 = .ok (.bipush 7, 2) := by decide +kernel
theorem dX7_sizes_6 : decode cX7_sizes 6 = .ok (.iload_n 1, 1) := by decide +kernel
theorem dX7_sizes_7 : decode cX7_sizes 7 = .ok (.iastore, 1) := by decide +kernel
theorem dX7_sizes_8 : decode cX7_sizes 8 = .ok (.aload_n 0, 1) := by decide +kernel
theorem dX7_sizes_9 : decode cX7_sizes 9 = .ok (.getfield 13, 3) := by decide +kernel
theorem dX7_sizes_12 : decode cX7_sizes 12 = .ok (.bipush 8, 2) := by decide +kernel
theorem dX7_sizes_14 : decode cX7_sizes 14 = .ok (.iload_n 2, 1) := by decide +kernel
theorem dX7_sizes_15 : decode cX7_sizes 15 = .ok (.iastore, 1) := by decide +kernel
theorem dX7_sizes_16 : decode cX7_sizes 16 = .ok (.aload_n 0, 1) := by decide +kernel
theorem dX7_sizes_17 : decode cX7_sizes 17 = .ok (.getfield 13, 3) := by decide +kernel
theorem dX7_sizes_20 : decode cX7_sizes 20 = .ok (.bipush 9, 2) := by decide +kernel
theorem dX7_sizes_22 : decode cX7_sizes 22 = .ok (.iload_n 3, 1) := by decide +kernel
theorem dX7_sizes_23 : decode cX7_sizes 23 = .ok (.iastore, 1) := by decide +kernel
theorem dX7_sizes_24 : decode cX7_sizes 24 = .ok (.aload_n 0, 1) := by decide +kernel
theorem dX7_sizes_25 : decode cX7_sizes 25 = .ok (.getfield 13, 3) := by decide +kernel
theorem dX7_sizes_28 : decode cX7_sizes 28 = .ok (.bipush 10, 2) := by decide +kernel
theorem dX7_sizes_30 : decode cX7_sizes 30 = .ok (.iload 4, 2) := by decide +kernel
theorem dX7_sizes_32 : decode cX7_sizes 32 = .ok (.iastore, 1) := by decide +kernel
theorem dX7_sizes_33 : decode cX7_sizes 33 = .ok (.return_, 1) := by decide +kernel
theorem dX7_refuse_0 : decode cX7_refuse 0 = .ok (.aload_n 0, 1) := by decide +kernel
theorem dX7_refuse_1 : decode cX7_refuse 1 = .ok (.getfield 7, 3) := by decide +kernel
theorem dX7_refuse_4 : decode cX7_refuse 4 = .ok (.iload_n 1, 1) := by decide +kernel
theorem dX7_refuse_5 : decode cX7_refuse 5 = .ok (.ineg, 1) := by decide +kernel
theorem dX7_refuse_6 : decode cX7_refuse 6 = .ok (.dup2, 1) := by decide +kernel
theorem dX7_refuse_7 : decode cX7_refuse 7 = .ok (.iaload, 1) := by decide +kernel
theorem dX7_refuse_8 : decode cX7_refuse 8 = .ok (.iconst 1, 1) := by decide +kernel
theorem dX7_refuse_9 : decode cX7_refuse 9 = .ok (.iadd, 1) := by decide +kernel
theorem dX7_refuse_10 : decode cX7_refuse 10 = .ok (.iastore, 1) := by decide +kernel
theorem dX7_refuse_11 : decode cX7_refuse 11 = .ok (.iload_n 1, 1) := by decide +kernel
theorem dX7_refuse_12 : decode cX7_refuse 12 = .ok (.ireturn, 1) := by decide +kernel
theorem dX7_isIn_0 : decode cX7_isIn 0 = .ok (.iload_n 0, 1) := by decide +kernel
theorem dX7_isIn_1 : decode cX7_isIn 1 = .ok (.ifCond .lt 12, 3) := by decide +kernel
theorem dX7_isIn_4 : decode cX7_isIn 4 = .ok (.iload_n 0, 1) := by decide +kernel
theorem dX7_isIn_5 : decode cX7_isIn 5 = .ok (.iload_n 1, 1) := by decide +kernel
theorem dX7_isIn_6 : decode cX7_isIn 6 = .ok (.if_icmp .ge 7, 3) := by decide +kernel
theorem dX7_isIn_9 : decode cX7_isIn 9 = .ok (.iconst 1, 1) := by decide +kernel
theorem dX7_isIn_10 : decode cX7_isIn 10 = .ok (.goto 4, 3) := by decide +kernel
theorem dX7_isIn_13 : decode cX7_isIn 13 = .ok (.iconst 0, 1) := by decide +kernel
theorem dX7_isIn_14 : decode cX7_isIn 14 = .ok (.ireturn, 1) := by decide +kernel
theorem dX7_within_0 : decode cX7_within 0 = .ok (.iload_n 0, 1) := by decide +kernel
theorem dX7_within_1 : decode cX7_within 1 = .ok (.iload_n 1, 1) := by decide +kernel
theorem dX7_within_2 : decode cX7_within 2 = .ok (.if_icmp .ge 8, 3) := by decide +kernel
theorem dX7_within_5 : decode cX7_within 5 = .ok (.bipush (-4), 2) := by decide +kernel
theorem dX7_within_7 : decode cX7_within 7 = .ok (.goto 14, 3) := by decide +kernel
theorem dX7_within_10 : decode cX7_within 10 = .ok (.iload_n 0, 1) := by decide +kernel
theorem dX7_within_11 : decode cX7_within 11 = .ok (.iload_n 2, 1) := by decide +kernel
theorem dX7_within_12 : decode cX7_within 12 = .ok (.if_icmp .le 8, 3) := by decide +kernel
theorem dX7_within_15 : decode cX7_within 15 = .ok (.bipush (-6), 2) := by decide +kernel
theorem dX7_within_17 : decode cX7_within 17 = .ok (.goto 4, 3) := by decide +kernel
theorem dX7_within_20 : decode cX7_within 20 = .ok (.iconst 0, 1) := by decide +kernel
theorem dX7_within_21 : decode cX7_within 21 = .ok (.ireturn, 1) := by decide +kernel
theorem dX7_layingOf_0 : decode cX7_layingOf 0 = .ok (.iload_n 0, 1) := by decide +kernel
theorem dX7_layingOf_1 : decode cX7_layingOf 1 = .ok (.tableswitch 135 97 120 #[111, 113, 115, 135, 135, 135, 135, 135, 135, 135, 135, 117, 119, 135, 135, 135, 126, 121, 123, 129, 135, 135, 135, 132], 111) := by decide +kernel
theorem dX7_layingOf_112 : decode cX7_layingOf 112 = .ok (.iconst 0, 1) := by decide +kernel
theorem dX7_layingOf_113 : decode cX7_layingOf 113 = .ok (.ireturn, 1) := by decide +kernel
theorem dX7_layingOf_114 : decode cX7_layingOf 114 = .ok (.iconst 1, 1) := by decide +kernel
theorem dX7_layingOf_115 : decode cX7_layingOf 115 = .ok (.ireturn, 1) := by decide +kernel
theorem dX7_layingOf_116 : decode cX7_layingOf 116 = .ok (.iconst 2, 1) := by decide +kernel
theorem dX7_layingOf_117 : decode cX7_layingOf 117 = .ok (.ireturn, 1) := by decide +kernel
theorem dX7_layingOf_118 : decode cX7_layingOf 118 = .ok (.iconst 3, 1) := by decide +kernel
theorem dX7_layingOf_119 : decode cX7_layingOf 119 = .ok (.ireturn, 1) := by decide +kernel
theorem dX7_layingOf_120 : decode cX7_layingOf 120 = .ok (.iconst 4, 1) := by decide +kernel
theorem dX7_layingOf_121 : decode cX7_layingOf 121 = .ok (.ireturn, 1) := by decide +kernel
theorem dX7_layingOf_122 : decode cX7_layingOf 122 = .ok (.iconst 5, 1) := by decide +kernel
theorem dX7_layingOf_123 : decode cX7_layingOf 123 = .ok (.ireturn, 1) := by decide +kernel
theorem dX7_layingOf_124 : decode cX7_layingOf 124 = .ok (.bipush 6, 2) := by decide +kernel
theorem dX7_layingOf_126 : decode cX7_layingOf 126 = .ok (.ireturn, 1) := by decide +kernel
theorem dX7_layingOf_127 : decode cX7_layingOf 127 = .ok (.bipush 7, 2) := by decide +kernel
theorem dX7_layingOf_129 : decode cX7_layingOf 129 = .ok (.ireturn, 1) := by decide +kernel
theorem dX7_layingOf_130 : decode cX7_layingOf 130 = .ok (.bipush 8, 2) := by decide +kernel
theorem dX7_layingOf_132 : decode cX7_layingOf 132 = .ok (.ireturn, 1) := by decide +kernel
theorem dX7_layingOf_133 : decode cX7_layingOf 133 = .ok (.bipush 9, 2) := by decide +kernel
theorem dX7_layingOf_135 : decode cX7_layingOf 135 = .ok (.ireturn, 1) := by decide +kernel
theorem dX7_layingOf_136 : decode cX7_layingOf 136 = .ok (.bipush (-9), 2) := by decide +kernel
theorem dX7_layingOf_138 : decode cX7_layingOf 138 = .ok (.ireturn, 1) := by decide +kernel
theorem dX7_kindOf_0 : decode cX7_kindOf 0 = .ok (.iload_n 0, 1) := by decide +kernel
theorem dX7_kindOf_1 : decode cX7_kindOf 1 = .ok (.iconst 5, 1) := by decide +kernel
theorem dX7_kindOf_2 : decode cX7_kindOf 2 = .ok (.if_icmp .ge 7, 3) := by decide +kernel
theorem dX7_kindOf_5 : decode cX7_kindOf 5 = .ok (.iload_n 0, 1) := by decide +kernel
theorem dX7_kindOf_6 : decode cX7_kindOf 6 = .ok (.goto 27, 3) := by decide +kernel
theorem dX7_kindOf_9 : decode cX7_kindOf 9 = .ok (.iload_n 0, 1) := by decide +kernel
theorem dX7_kindOf_10 : decode cX7_kindOf 10 = .ok (.bipush 7, 2) := by decide +kernel
theorem dX7_kindOf_12 : decode cX7_kindOf 12 = .ok (.if_icmp .ge 9, 3) := by decide +kernel
theorem dX7_kindOf_15 : decode cX7_kindOf 15 = .ok (.iload_n 0, 1) := by decide +kernel
theorem dX7_kindOf_16 : decode cX7_kindOf 16 = .ok (.iconst 2, 1) := by decide +kernel
theorem dX7_kindOf_17 : decode cX7_kindOf 17 = .ok (.isub, 1) := by decide +kernel
theorem dX7_kindOf_18 : decode cX7_kindOf 18 = .ok (.goto 15, 3) := by decide +kernel
theorem dX7_kindOf_21 : decode cX7_kindOf 21 = .ok (.iload_n 0, 1) := by decide +kernel
theorem dX7_kindOf_22 : decode cX7_kindOf 22 = .ok (.bipush 9, 2) := by decide +kernel
theorem dX7_kindOf_24 : decode cX7_kindOf 24 = .ok (.if_icmp .ge 7, 3) := by decide +kernel
theorem dX7_kindOf_27 : decode cX7_kindOf 27 = .ok (.iconst 5, 1) := by decide +kernel
theorem dX7_kindOf_28 : decode cX7_kindOf 28 = .ok (.goto 5, 3) := by decide +kernel
theorem dX7_kindOf_31 : decode cX7_kindOf 31 = .ok (.bipush 6, 2) := by decide +kernel
theorem dX7_kindOf_33 : decode cX7_kindOf 33 = .ok (.ireturn, 1) := by decide +kernel
theorem dX7_turnOf_0 : decode cX7_turnOf 0 = .ok (.iload_n 0, 1) := by decide +kernel
theorem dX7_turnOf_1 : decode cX7_turnOf 1 = .ok (.iconst 3, 1) := by decide +kernel
theorem dX7_turnOf_2 : decode cX7_turnOf 2 = .ok (.if_icmp .eq 8, 3) := by decide +kernel
theorem dX7_turnOf_5 : decode cX7_turnOf 5 = .ok (.iload_n 0, 1) := by decide +kernel
theorem dX7_turnOf_6 : decode cX7_turnOf 6 = .ok (.iconst 4, 1) := by decide +kernel
theorem dX7_turnOf_7 : decode cX7_turnOf 7 = .ok (.if_icmp .ne 7, 3) := by decide +kernel
theorem dX7_turnOf_10 : decode cX7_turnOf 10 = .ok (.iconst 1, 1) := by decide +kernel
theorem dX7_turnOf_11 : decode cX7_turnOf 11 = .ok (.goto 40, 3) := by decide +kernel
theorem dX7_turnOf_14 : decode cX7_turnOf 14 = .ok (.iload_n 0, 1) := by decide +kernel
theorem dX7_turnOf_15 : decode cX7_turnOf 15 = .ok (.iconst 5, 1) := by decide +kernel
theorem dX7_turnOf_16 : decode cX7_turnOf 16 = .ok (.if_icmp .eq 9, 3) := by decide +kernel
theorem dX7_turnOf_19 : decode cX7_turnOf 19 = .ok (.iload_n 0, 1) := by decide +kernel
theorem dX7_turnOf_20 : decode cX7_turnOf 20 = .ok (.bipush 6, 2) := by decide +kernel
theorem dX7_turnOf_22 : decode cX7_turnOf 22 = .ok (.if_icmp .ne 7, 3) := by decide +kernel
theorem dX7_turnOf_25 : decode cX7_turnOf 25 = .ok (.iconst (-1), 1) := by decide +kernel
theorem dX7_turnOf_26 : decode cX7_turnOf 26 = .ok (.goto 25, 3) := by decide +kernel
theorem dX7_turnOf_29 : decode cX7_turnOf 29 = .ok (.iload_n 0, 1) := by decide +kernel
theorem dX7_turnOf_30 : decode cX7_turnOf 30 = .ok (.bipush 7, 2) := by decide +kernel
theorem dX7_turnOf_32 : decode cX7_turnOf 32 = .ok (.if_icmp .ne 7, 3) := by decide +kernel
theorem dX7_turnOf_35 : decode cX7_turnOf 35 = .ok (.iconst 2, 1) := by decide +kernel
theorem dX7_turnOf_36 : decode cX7_turnOf 36 = .ok (.goto 15, 3) := by decide +kernel
theorem dX7_turnOf_39 : decode cX7_turnOf 39 = .ok (.iload_n 0, 1) := by decide +kernel
theorem dX7_turnOf_40 : decode cX7_turnOf 40 = .ok (.bipush 8, 2) := by decide +kernel
theorem dX7_turnOf_42 : decode cX7_turnOf 42 = .ok (.if_icmp .ne 8, 3) := by decide +kernel
theorem dX7_turnOf_45 : decode cX7_turnOf 45 = .ok (.bipush (-2), 2) := by decide +kernel
theorem dX7_turnOf_47 : decode cX7_turnOf 47 = .ok (.goto 4, 3) := by decide +kernel
theorem dX7_turnOf_50 : decode cX7_turnOf 50 = .ok (.iconst 0, 1) := by decide +kernel
theorem dX7_turnOf_51 : decode cX7_turnOf 51 = .ok (.ireturn, 1) := by decide +kernel
theorem dX7_mirrored_0 : decode cX7_mirrored 0 = .ok (.iload_n 0, 1) := by decide +kernel
theorem dX7_mirrored_1 : decode cX7_mirrored 1 = .ok (.iconst 3, 1) := by decide +kernel
theorem dX7_mirrored_2 : decode cX7_mirrored 2 = .ok (.if_icmp .eq 8, 3) := by decide +kernel
theorem dX7_mirrored_5 : decode cX7_mirrored 5 = .ok (.iload_n 0, 1) := by decide +kernel
theorem dX7_mirrored_6 : decode cX7_mirrored 6 = .ok (.iconst 4, 1) := by decide +kernel
theorem dX7_mirrored_7 : decode cX7_mirrored 7 = .ok (.if_icmp .ne 9, 3) := by decide +kernel
theorem dX7_mirrored_10 : decode cX7_mirrored 10 = .ok (.iload_n 0, 1) := by decide +kernel
theorem dX7_mirrored_11 : decode cX7_mirrored 11 = .ok (.iconst 2, 1) := by decide +kernel
theorem dX7_mirrored_12 : decode cX7_mirrored 12 = .ok (.iadd, 1) := by decide +kernel
theorem dX7_mirrored_13 : decode cX7_mirrored 13 = .ok (.goto 43, 3) := by decide +kernel
theorem dX7_mirrored_16 : decode cX7_mirrored 16 = .ok (.iload_n 0, 1) := by decide +kernel
theorem dX7_mirrored_17 : decode cX7_mirrored 17 = .ok (.iconst 5, 1) := by decide +kernel
theorem dX7_mirrored_18 : decode cX7_mirrored 18 = .ok (.if_icmp .eq 9, 3) := by decide +kernel
theorem dX7_mirrored_21 : decode cX7_mirrored 21 = .ok (.iload_n 0, 1) := by decide +kernel
theorem dX7_mirrored_22 : decode cX7_mirrored 22 = .ok (.bipush 6, 2) := by decide +kernel
theorem dX7_mirrored_24 : decode cX7_mirrored 24 = .ok (.if_icmp .ne 9, 3) := by decide +kernel
theorem dX7_mirrored_27 : decode cX7_mirrored 27 = .ok (.iload_n 0, 1) := by decide +kernel
theorem dX7_mirrored_28 : decode cX7_mirrored 28 = .ok (.iconst 2, 1) := by decide +kernel
theorem dX7_mirrored_29 : decode cX7_mirrored 29 = .ok (.isub, 1) := by decide +kernel
theorem dX7_mirrored_30 : decode cX7_mirrored 30 = .ok (.goto 26, 3) := by decide +kernel
theorem dX7_mirrored_33 : decode cX7_mirrored 33 = .ok (.iload_n 0, 1) := by decide +kernel
theorem dX7_mirrored_34 : decode cX7_mirrored 34 = .ok (.bipush 7, 2) := by decide +kernel
theorem dX7_mirrored_36 : decode cX7_mirrored 36 = .ok (.if_icmp .ne 8, 3) := by decide +kernel
theorem dX7_mirrored_39 : decode cX7_mirrored 39 = .ok (.bipush 8, 2) := by decide +kernel
theorem dX7_mirrored_41 : decode cX7_mirrored 41 = .ok (.goto 15, 3) := by decide +kernel
theorem dX7_mirrored_44 : decode cX7_mirrored 44 = .ok (.iload_n 0, 1) := by decide +kernel
theorem dX7_mirrored_45 : decode cX7_mirrored 45 = .ok (.bipush 8, 2) := by decide +kernel
theorem dX7_mirrored_47 : decode cX7_mirrored 47 = .ok (.if_icmp .ne 8, 3) := by decide +kernel
theorem dX7_mirrored_50 : decode cX7_mirrored 50 = .ok (.bipush 7, 2) := by decide +kernel
theorem dX7_mirrored_52 : decode cX7_mirrored 52 = .ok (.goto 4, 3) := by decide +kernel
theorem dX7_mirrored_55 : decode cX7_mirrored 55 = .ok (.iload_n 0, 1) := by decide +kernel
theorem dX7_mirrored_56 : decode cX7_mirrored 56 = .ok (.ireturn, 1) := by decide +kernel
theorem dX7_feed_0 : decode cX7_feed 0 = .ok (.iload_n 1, 1) := by decide +kernel
theorem dX7_feed_1 : decode cX7_feed 1 = .ok (.iconst 1, 1) := by decide +kernel
theorem dX7_feed_2 : decode cX7_feed 2 = .ok (.if_icmp .ge 10, 3) := by decide +kernel
theorem dX7_feed_5 : decode cX7_feed 5 = .ok (.aload_n 0, 1) := by decide +kernel
theorem dX7_feed_6 : decode cX7_feed 6 = .ok (.bipush (-4), 2) := by decide +kernel
theorem dX7_feed_8 : decode cX7_feed 8 = .ok (.invokevirtual 44, 3) := by decide +kernel
theorem dX7_feed_11 : decode cX7_feed 11 = .ok (.ireturn, 1) := by decide +kernel
theorem dX7_feed_12 : decode cX7_feed 12 = .ok (.iload_n 1, 1) := by decide +kernel
theorem dX7_feed_13 : decode cX7_feed 13 = .ok (.bipush 8, 2) := by decide +kernel
theorem dX7_feed_15 : decode cX7_feed 15 = .ok (.if_icmp .gt 14, 3) := by decide +kernel
theorem dX7_feed_18 : decode cX7_feed 18 = .ok (.aload_n 0, 1) := by decide +kernel
theorem dX7_feed_19 : decode cX7_feed 19 = .ok (.getfield 48, 3) := by decide +kernel
theorem dX7_feed_22 : decode cX7_feed 22 = .ok (.iload_n 1, 1) := by decide +kernel
theorem dX7_feed_23 : decode cX7_feed 23 = .ok (.iadd, 1) := by decide +kernel
theorem dX7_feed_24 : decode cX7_feed 24 = .ok (.bipush 24, 2) := by decide +kernel
theorem dX7_feed_26 : decode cX7_feed 26 = .ok (.if_icmp .le 10, 3) := by decide +kernel
theorem dX7_feed_29 : decode cX7_feed 29 = .ok (.aload_n 0, 1) := by decide +kernel
theorem dX7_feed_30 : decode cX7_feed 30 = .ok (.bipush (-6), 2) := by decide +kernel
theorem dX7_feed_32 : decode cX7_feed 32 = .ok (.invokevirtual 44, 3) := by decide +kernel
theorem dX7_feed_35 : decode cX7_feed 35 = .ok (.ireturn, 1) := by decide +kernel
theorem dX7_feed_36 : decode cX7_feed 36 = .ok (.iconst 0, 1) := by decide +kernel
theorem dX7_feed_37 : decode cX7_feed 37 = .ok (.istore 4, 2) := by decide +kernel
theorem dX7_feed_39 : decode cX7_feed 39 = .ok (.iload 4, 2) := by decide +kernel
theorem dX7_feed_41 : decode cX7_feed 41 = .ok (.iload_n 1, 1) := by decide +kernel
theorem dX7_feed_42 : decode cX7_feed 42 = .ok (.if_icmp .ge 40, 3) := by decide +kernel
theorem dX7_feed_45 : decode cX7_feed 45 = .ok (.aload_n 0, 1) := by decide +kernel
theorem dX7_feed_46 : decode cX7_feed 46 = .ok (.getfield 19, 3) := by decide +kernel
theorem dX7_feed_49 : decode cX7_feed 49 = .ok (.aload_n 0, 1) := by decide +kernel
theorem dX7_feed_50 : decode cX7_feed 50 = .ok (.getfield 48, 3) := by decide +kernel
theorem dX7_feed_53 : decode cX7_feed 53 = .ok (.lload_n 2, 1) := by decide +kernel
theorem dX7_feed_54 : decode cX7_feed 54 = .ok (.bipush 8, 2) := by decide +kernel
theorem dX7_feed_56 : decode cX7_feed 56 = .ok (.iload 4, 2) := by decide +kernel
theorem dX7_feed_58 : decode cX7_feed 58 = .ok (.imul, 1) := by decide +kernel
theorem dX7_feed_59 : decode cX7_feed 59 = .ok (.lshr, 1) := by decide +kernel
theorem dX7_feed_60 : decode cX7_feed 60 = .ok (.ldc2_w 52, 3) := by decide +kernel
theorem dX7_feed_63 : decode cX7_feed 63 = .ok (.land, 1) := by decide +kernel
theorem dX7_feed_64 : decode cX7_feed 64 = .ok (.l2i, 1) := by decide +kernel
theorem dX7_feed_65 : decode cX7_feed 65 = .ok (.iastore, 1) := by decide +kernel
theorem dX7_feed_66 : decode cX7_feed 66 = .ok (.aload_n 0, 1) := by decide +kernel
theorem dX7_feed_67 : decode cX7_feed 67 = .ok (.dup, 1) := by decide +kernel
theorem dX7_feed_68 : decode cX7_feed 68 = .ok (.getfield 48, 3) := by decide +kernel
theorem dX7_feed_71 : decode cX7_feed 71 = .ok (.iconst 1, 1) := by decide +kernel
theorem dX7_feed_72 : decode cX7_feed 72 = .ok (.iadd, 1) := by decide +kernel
theorem dX7_feed_73 : decode cX7_feed 73 = .ok (.putfield 48, 3) := by decide +kernel
theorem dX7_feed_76 : decode cX7_feed 76 = .ok (.iinc 4 1, 3) := by decide +kernel
theorem dX7_feed_79 : decode cX7_feed 79 = .ok (.goto (-40), 3) := by decide +kernel
theorem dX7_feed_82 : decode cX7_feed 82 = .ok (.aload_n 0, 1) := by decide +kernel
theorem dX7_feed_83 : decode cX7_feed 83 = .ok (.getfield 48, 3) := by decide +kernel
theorem dX7_feed_86 : decode cX7_feed 86 = .ok (.ireturn, 1) := by decide +kernel
theorem dX7_row_0 : decode cX7_row 0 = .ok (.aload_n 0, 1) := by decide +kernel
theorem dX7_row_1 : decode cX7_row 1 = .ok (.getfield 48, 3) := by decide +kernel
theorem dX7_row_4 : decode cX7_row 4 = .ok (.istore_n 1, 1) := by decide +kernel
theorem dX7_row_5 : decode cX7_row 5 = .ok (.aload_n 0, 1) := by decide +kernel
theorem dX7_row_6 : decode cX7_row 6 = .ok (.iconst 0, 1) := by decide +kernel
theorem dX7_row_7 : decode cX7_row 7 = .ok (.putfield 48, 3) := by decide +kernel
theorem dX7_row_10 : decode cX7_row 10 = .ok (.iconst 0, 1) := by decide +kernel
theorem dX7_row_11 : decode cX7_row 11 = .ok (.istore_n 2, 1) := by decide +kernel
theorem dX7_row_12 : decode cX7_row 12 = .ok (.iload_n 2, 1) := by decide +kernel
theorem dX7_row_13 : decode cX7_row 13 = .ok (.iload_n 1, 1) := by decide +kernel
theorem dX7_row_14 : decode cX7_row 14 = .ok (.if_icmp .ge 26, 3) := by decide +kernel
theorem dX7_row_17 : decode cX7_row 17 = .ok (.aload_n 0, 1) := by decide +kernel
theorem dX7_row_18 : decode cX7_row 18 = .ok (.getfield 19, 3) := by decide +kernel
theorem dX7_row_21 : decode cX7_row 21 = .ok (.iload_n 2, 1) := by decide +kernel
theorem dX7_row_22 : decode cX7_row 22 = .ok (.iaload, 1) := by decide +kernel
theorem dX7_row_23 : decode cX7_row 23 = .ok (.invokestatic 54, 3) := by decide +kernel
theorem dX7_row_26 : decode cX7_row 26 = .ok (.ifCond .ge 8, 3) := by decide +kernel
theorem dX7_row_29 : decode cX7_row 29 = .ok (.bipush (-20), 2) := by decide +kernel
theorem dX7_row_31 : decode cX7_row 31 = .ok (.iload_n 2, 1) := by decide +kernel
theorem dX7_row_32 : decode cX7_row 32 = .ok (.isub, 1) := by decide +kernel
theorem dX7_row_33 : decode cX7_row 33 = .ok (.ireturn, 1) := by decide +kernel
theorem dX7_row_34 : decode cX7_row 34 = .ok (.iinc 2 1, 3) := by decide +kernel
theorem dX7_row_37 : decode cX7_row 37 = .ok (.goto (-25), 3) := by decide +kernel
theorem dX7_row_40 : decode cX7_row 40 = .ok (.iconst 0, 1) := by decide +kernel
theorem dX7_row_41 : decode cX7_row 41 = .ok (.istore_n 2, 1) := by decide +kernel
theorem dX7_row_42 : decode cX7_row 42 = .ok (.iload_n 2, 1) := by decide +kernel
theorem dX7_row_43 : decode cX7_row 43 = .ok (.iload_n 1, 1) := by decide +kernel
theorem dX7_row_44 : decode cX7_row 44 = .ok (.if_icmp .ge 27, 3) := by decide +kernel
theorem dX7_row_47 : decode cX7_row 47 = .ok (.aload_n 0, 1) := by decide +kernel
theorem dX7_row_48 : decode cX7_row 48 = .ok (.getfield 13, 3) := by decide +kernel
theorem dX7_row_51 : decode cX7_row 51 = .ok (.bipush 31, 2) := by decide +kernel
theorem dX7_row_53 : decode cX7_row 53 = .ok (.iload_n 2, 1) := by decide +kernel
theorem dX7_row_54 : decode cX7_row 54 = .ok (.iadd, 1) := by decide +kernel
theorem dX7_row_55 : decode cX7_row 55 = .ok (.aload_n 0, 1) := by decide +kernel
theorem dX7_row_56 : decode cX7_row 56 = .ok (.getfield 19, 3) := by decide +kernel
theorem dX7_row_59 : decode cX7_row 59 = .ok (.iload_n 2, 1) := by decide +kernel
theorem dX7_row_60 : decode cX7_row 60 = .ok (.iaload, 1) := by decide +kernel
theorem dX7_row_61 : decode cX7_row 61 = .ok (.invokestatic 54, 3) := by decide +kernel
theorem dX7_row_64 : decode cX7_row 64 = .ok (.iastore, 1) := by decide +kernel
theorem dX7_row_65 : decode cX7_row 65 = .ok (.iinc 2 1, 3) := by decide +kernel
theorem dX7_row_68 : decode cX7_row 68 = .ok (.goto (-26), 3) := by decide +kernel
theorem dX7_row_71 : decode cX7_row 71 = .ok (.aload_n 0, 1) := by decide +kernel
theorem dX7_row_72 : decode cX7_row 72 = .ok (.getfield 13, 3) := by decide +kernel
theorem dX7_row_75 : decode cX7_row 75 = .ok (.bipush 55, 2) := by decide +kernel
theorem dX7_row_77 : decode cX7_row 77 = .ok (.iload_n 1, 1) := by decide +kernel
theorem dX7_row_78 : decode cX7_row 78 = .ok (.iastore, 1) := by decide +kernel
theorem dX7_row_79 : decode cX7_row 79 = .ok (.iload_n 1, 1) := by decide +kernel
theorem dX7_row_80 : decode cX7_row 80 = .ok (.ireturn, 1) := by decide +kernel
theorem dX7_box_0 : decode cX7_box 0 = .ok (.iload_n 1, 1) := by decide +kernel
theorem dX7_box_1 : decode cX7_box 1 = .ok (.bipush 7, 2) := by decide +kernel
theorem dX7_box_3 : decode cX7_box 3 = .ok (.invokestatic 57, 3) := by decide +kernel
theorem dX7_box_6 : decode cX7_box 6 = .ok (.ifCond .eq 13, 3) := by decide +kernel
theorem dX7_box_9 : decode cX7_box 9 = .ok (.iload_n 2, 1) := by decide +kernel
theorem dX7_box_10 : decode cX7_box 10 = .ok (.iconst 0, 1) := by decide +kernel
theorem dX7_box_11 : decode cX7_box 11 = .ok (.bipush 9, 2) := by decide +kernel
theorem dX7_box_13 : decode cX7_box 13 = .ok (.invokestatic 61, 3) := by decide +kernel
theorem dX7_box_16 : decode cX7_box 16 = .ok (.goto 4, 3) := by decide +kernel
theorem dX7_box_19 : decode cX7_box 19 = .ok (.iconst (-1), 1) := by decide +kernel
theorem dX7_box_20 : decode cX7_box 20 = .ok (.istore_n 3, 1) := by decide +kernel
theorem dX7_box_21 : decode cX7_box 21 = .ok (.iload_n 3, 1) := by decide +kernel
theorem dX7_box_22 : decode cX7_box 22 = .ok (.ifCond .eq 9, 3) := by decide +kernel
theorem dX7_box_25 : decode cX7_box 25 = .ok (.aload_n 0, 1) := by decide +kernel
theorem dX7_box_26 : decode cX7_box 26 = .ok (.iload_n 3, 1) := by decide +kernel
theorem dX7_box_27 : decode cX7_box 27 = .ok (.invokevirtual 44, 3) := by decide +kernel
theorem dX7_box_30 : decode cX7_box 30 = .ok (.ireturn, 1) := by decide +kernel
theorem dX7_box_31 : decode cX7_box 31 = .ok (.aload_n 0, 1) := by decide +kernel
theorem dX7_box_32 : decode cX7_box 32 = .ok (.getfield 13, 3) := by decide +kernel
theorem dX7_box_35 : decode cX7_box 35 = .ok (.iload_n 1, 1) := by decide +kernel
theorem dX7_box_36 : decode cX7_box 36 = .ok (.iaload, 1) := by decide +kernel
theorem dX7_box_37 : decode cX7_box 37 = .ok (.istore 4, 2) := by decide +kernel
theorem dX7_box_39 : decode cX7_box 39 = .ok (.aload_n 0, 1) := by decide +kernel
theorem dX7_box_40 : decode cX7_box 40 = .ok (.getfield 13, 3) := by decide +kernel
theorem dX7_box_43 : decode cX7_box 43 = .ok (.iload_n 1, 1) := by decide +kernel
theorem dX7_box_44 : decode cX7_box 44 = .ok (.iload_n 2, 1) := by decide +kernel
theorem dX7_box_45 : decode cX7_box 45 = .ok (.iastore, 1) := by decide +kernel
theorem dX7_box_46 : decode cX7_box 46 = .ok (.iload 4, 2) := by decide +kernel
theorem dX7_box_48 : decode cX7_box 48 = .ok (.ireturn, 1) := by decide +kernel
theorem dX7_size_0 : decode cX7_size 0 = .ok (.iload_n 1, 1) := by decide +kernel
theorem dX7_size_1 : decode cX7_size 1 = .ok (.bipush 7, 2) := by decide +kernel
theorem dX7_size_3 : decode cX7_size 3 = .ok (.invokestatic 57, 3) := by decide +kernel
theorem dX7_size_6 : decode cX7_size 6 = .ok (.ifCond .eq 13, 3) := by decide +kernel
theorem dX7_size_9 : decode cX7_size 9 = .ok (.iload_n 2, 1) := by decide +kernel
theorem dX7_size_10 : decode cX7_size 10 = .ok (.iconst 1, 1) := by decide +kernel
theorem dX7_size_11 : decode cX7_size 11 = .ok (.bipush 20, 2) := by decide +kernel
theorem dX7_size_13 : decode cX7_size 13 = .ok (.invokestatic 61, 3) := by decide +kernel
theorem dX7_size_16 : decode cX7_size 16 = .ok (.goto 4, 3) := by decide +kernel
theorem dX7_size_19 : decode cX7_size 19 = .ok (.iconst (-1), 1) := by decide +kernel
theorem dX7_size_20 : decode cX7_size 20 = .ok (.istore_n 3, 1) := by decide +kernel
theorem dX7_size_21 : decode cX7_size 21 = .ok (.iload_n 3, 1) := by decide +kernel
theorem dX7_size_22 : decode cX7_size 22 = .ok (.ifCond .eq 9, 3) := by decide +kernel
theorem dX7_size_25 : decode cX7_size 25 = .ok (.aload_n 0, 1) := by decide +kernel
theorem dX7_size_26 : decode cX7_size 26 = .ok (.iload_n 3, 1) := by decide +kernel
theorem dX7_size_27 : decode cX7_size 27 = .ok (.invokevirtual 44, 3) := by decide +kernel
theorem dX7_size_30 : decode cX7_size 30 = .ok (.ireturn, 1) := by decide +kernel
theorem dX7_size_31 : decode cX7_size 31 = .ok (.aload_n 0, 1) := by decide +kernel
theorem dX7_size_32 : decode cX7_size 32 = .ok (.getfield 13, 3) := by decide +kernel
theorem dX7_size_35 : decode cX7_size 35 = .ok (.bipush 7, 2) := by decide +kernel
theorem dX7_size_37 : decode cX7_size 37 = .ok (.iload_n 1, 1) := by decide +kernel
theorem dX7_size_38 : decode cX7_size 38 = .ok (.iadd, 1) := by decide +kernel
theorem dX7_size_39 : decode cX7_size 39 = .ok (.iaload, 1) := by decide +kernel
theorem dX7_size_40 : decode cX7_size 40 = .ok (.istore 4, 2) := by decide +kernel
theorem dX7_size_42 : decode cX7_size 42 = .ok (.aload_n 0, 1) := by decide +kernel
theorem dX7_size_43 : decode cX7_size 43 = .ok (.getfield 13, 3) := by decide +kernel
theorem dX7_size_46 : decode cX7_size 46 = .ok (.bipush 7, 2) := by decide +kernel
theorem dX7_size_48 : decode cX7_size 48 = .ok (.iload_n 1, 1) := by decide +kernel
theorem dX7_size_49 : decode cX7_size 49 = .ok (.iadd, 1) := by decide +kernel
theorem dX7_size_50 : decode cX7_size 50 = .ok (.iload_n 2, 1) := by decide +kernel
theorem dX7_size_51 : decode cX7_size 51 = .ok (.iastore, 1) := by decide +kernel
theorem dX7_size_52 : decode cX7_size 52 = .ok (.iload 4, 2) := by decide +kernel
theorem dX7_size_54 : decode cX7_size 54 = .ok (.ireturn, 1) := by decide +kernel
theorem dX7_piece_0 : decode cX7_piece 0 = .ok (.iload_n 1, 1) := by decide +kernel
theorem dX7_piece_1 : decode cX7_piece 1 = .ok (.aload_n 0, 1) := by decide +kernel
theorem dX7_piece_2 : decode cX7_piece 2 = .ok (.getfield 13, 3) := by decide +kernel
theorem dX7_piece_5 : decode cX7_piece 5 = .ok (.bipush 55, 2) := by decide +kernel
theorem dX7_piece_7 : decode cX7_piece 7 = .ok (.iaload, 1) := by decide +kernel
theorem dX7_piece_8 : decode cX7_piece 8 = .ok (.invokestatic 57, 3) := by decide +kernel
theorem dX7_piece_11 : decode cX7_piece 11 = .ok (.ifCond .eq 15, 3) := by decide +kernel
theorem dX7_piece_14 : decode cX7_piece 14 = .ok (.aload_n 0, 1) := by decide +kernel
theorem dX7_piece_15 : decode cX7_piece 15 = .ok (.getfield 13, 3) := by decide +kernel
theorem dX7_piece_18 : decode cX7_piece 18 = .ok (.bipush 31, 2) := by decide +kernel
theorem dX7_piece_20 : decode cX7_piece 20 = .ok (.iload_n 1, 1) := by decide +kernel
theorem dX7_piece_21 : decode cX7_piece 21 = .ok (.iadd, 1) := by decide +kernel
theorem dX7_piece_22 : decode cX7_piece 22 = .ok (.iaload, 1) := by decide +kernel
theorem dX7_piece_23 : decode cX7_piece 23 = .ok (.goto 5, 3) := by decide +kernel
theorem dX7_piece_26 : decode cX7_piece 26 = .ok (.bipush (-9), 2) := by decide +kernel
theorem dX7_piece_28 : decode cX7_piece 28 = .ok (.ireturn, 1) := by decide +kernel
theorem dX7_along_0 : decode cX7_along 0 = .ok (.iload_n 3, 1) := by decide +kernel
theorem dX7_along_1 : decode cX7_along 1 = .ok (.bipush 7, 2) := by decide +kernel
theorem dX7_along_3 : decode cX7_along 3 = .ok (.iand, 1) := by decide +kernel
theorem dX7_along_4 : decode cX7_along 4 = .ok (.tableswitch 100 0 7 #[48, 59, 100, 72, 87, 72, 100, 59], 48) := by decide +kernel
theorem dX7_along_52 : decode cX7_along 52 = .ok (.aload_n 0, 1) := by decide +kernel
theorem dX7_along_53 : decode cX7_along 53 = .ok (.iload_n 1, 1) := by decide +kernel
theorem dX7_along_54 : decode cX7_along 54 = .ok (.putfield 65, 3) := by decide +kernel
theorem dX7_along_57 : decode cX7_along 57 = .ok (.aload_n 0, 1) := by decide +kernel
theorem dX7_along_58 : decode cX7_along 58 = .ok (.iload_n 2, 1) := by decide +kernel
theorem dX7_along_59 : decode cX7_along 59 = .ok (.putfield 68, 3) := by decide +kernel
theorem dX7_along_62 : decode cX7_along 62 = .ok (.return_, 1) := by decide +kernel
theorem dX7_along_63 : decode cX7_along 63 = .ok (.aload_n 0, 1) := by decide +kernel
theorem dX7_along_64 : decode cX7_along 64 = .ok (.iload_n 2, 1) := by decide +kernel
theorem dX7_along_65 : decode cX7_along 65 = .ok (.putfield 65, 3) := by decide +kernel
theorem dX7_along_68 : decode cX7_along 68 = .ok (.aload_n 0, 1) := by decide +kernel
theorem dX7_along_69 : decode cX7_along 69 = .ok (.iload_n 1, 1) := by decide +kernel
theorem dX7_along_70 : decode cX7_along 70 = .ok (.iconst 2, 1) := by decide +kernel
theorem dX7_along_71 : decode cX7_along 71 = .ok (.idiv, 1) := by decide +kernel
theorem dX7_along_72 : decode cX7_along 72 = .ok (.putfield 68, 3) := by decide +kernel
theorem dX7_along_75 : decode cX7_along 75 = .ok (.return_, 1) := by decide +kernel
theorem dX7_along_76 : decode cX7_along 76 = .ok (.aload_n 0, 1) := by decide +kernel
theorem dX7_along_77 : decode cX7_along 77 = .ok (.iload_n 2, 1) := by decide +kernel
theorem dX7_along_78 : decode cX7_along 78 = .ok (.ineg, 1) := by decide +kernel
theorem dX7_along_79 : decode cX7_along 79 = .ok (.putfield 65, 3) := by decide +kernel
theorem dX7_along_82 : decode cX7_along 82 = .ok (.aload_n 0, 1) := by decide +kernel
theorem dX7_along_83 : decode cX7_along 83 = .ok (.iload_n 1, 1) := by decide +kernel
theorem dX7_along_84 : decode cX7_along 84 = .ok (.ineg, 1) := by decide +kernel
theorem dX7_along_85 : decode cX7_along 85 = .ok (.iconst 2, 1) := by decide +kernel
theorem dX7_along_86 : decode cX7_along 86 = .ok (.idiv, 1) := by decide +kernel
theorem dX7_along_87 : decode cX7_along 87 = .ok (.putfield 68, 3) := by decide +kernel
theorem dX7_along_90 : decode cX7_along 90 = .ok (.return_, 1) := by decide +kernel
theorem dX7_along_91 : decode cX7_along 91 = .ok (.aload_n 0, 1) := by decide +kernel
theorem dX7_along_92 : decode cX7_along 92 = .ok (.iload_n 1, 1) := by decide +kernel
theorem dX7_along_93 : decode cX7_along 93 = .ok (.ineg, 1) := by decide +kernel
theorem dX7_along_94 : decode cX7_along 94 = .ok (.putfield 65, 3) := by decide +kernel
theorem dX7_along_97 : decode cX7_along 97 = .ok (.aload_n 0, 1) := by decide +kernel
theorem dX7_along_98 : decode cX7_along 98 = .ok (.iload_n 2, 1) := by decide +kernel
theorem dX7_along_99 : decode cX7_along 99 = .ok (.ineg, 1) := by decide +kernel
theorem dX7_along_100 : decode cX7_along 100 = .ok (.putfield 68, 3) := by decide +kernel
theorem dX7_along_103 : decode cX7_along 103 = .ok (.return_, 1) := by decide +kernel
theorem dX7_along_104 : decode cX7_along 104 = .ok (.aload_n 0, 1) := by decide +kernel
theorem dX7_along_105 : decode cX7_along 105 = .ok (.iconst 0, 1) := by decide +kernel
theorem dX7_along_106 : decode cX7_along 106 = .ok (.putfield 65, 3) := by decide +kernel
theorem dX7_along_109 : decode cX7_along 109 = .ok (.aload_n 0, 1) := by decide +kernel
theorem dX7_along_110 : decode cX7_along 110 = .ok (.iconst 0, 1) := by decide +kernel
theorem dX7_along_111 : decode cX7_along 111 = .ok (.putfield 68, 3) := by decide +kernel
theorem dX7_along_114 : decode cX7_along 114 = .ok (.return_, 1) := by decide +kernel
theorem dX7_adds_0 : decode cX7_adds 0 = .ok (.aload_n 0, 1) := by decide +kernel
theorem dX7_adds_1 : decode cX7_adds 1 = .ok (.iload_n 2, 1) := by decide +kernel
theorem dX7_adds_2 : decode cX7_adds 2 = .ok (.iload_n 3, 1) := by decide +kernel
theorem dX7_adds_3 : decode cX7_adds 3 = .ok (.iload 4, 2) := by decide +kernel
theorem dX7_adds_5 : decode cX7_adds 5 = .ok (.invokevirtual 71, 3) := by decide +kernel
theorem dX7_adds_8 : decode cX7_adds 8 = .ok (.aload_n 0, 1) := by decide +kernel
theorem dX7_adds_9 : decode cX7_adds 9 = .ok (.getfield 22, 3) := by decide +kernel
theorem dX7_adds_12 : decode cX7_adds 12 = .ok (.iload_n 1, 1) := by decide +kernel
theorem dX7_adds_13 : decode cX7_adds 13 = .ok (.dup2, 1) := by decide +kernel
theorem dX7_adds_14 : decode cX7_adds 14 = .ok (.iaload, 1) := by decide +kernel
theorem dX7_adds_15 : decode cX7_adds 15 = .ok (.aload_n 0, 1) := by decide +kernel
theorem dX7_adds_16 : decode cX7_adds 16 = .ok (.getfield 65, 3) := by decide +kernel
theorem dX7_adds_19 : decode cX7_adds 19 = .ok (.iadd, 1) := by decide +kernel
theorem dX7_adds_20 : decode cX7_adds 20 = .ok (.iastore, 1) := by decide +kernel
theorem dX7_adds_21 : decode cX7_adds 21 = .ok (.aload_n 0, 1) := by decide +kernel
theorem dX7_adds_22 : decode cX7_adds 22 = .ok (.getfield 22, 3) := by decide +kernel
theorem dX7_adds_25 : decode cX7_adds 25 = .ok (.iload_n 1, 1) := by decide +kernel
theorem dX7_adds_26 : decode cX7_adds 26 = .ok (.iconst 1, 1) := by decide +kernel
theorem dX7_adds_27 : decode cX7_adds 27 = .ok (.iadd, 1) := by decide +kernel
theorem dX7_adds_28 : decode cX7_adds 28 = .ok (.dup2, 1) := by decide +kernel
theorem dX7_adds_29 : decode cX7_adds 29 = .ok (.iaload, 1) := by decide +kernel
theorem dX7_adds_30 : decode cX7_adds 30 = .ok (.aload_n 0, 1) := by decide +kernel
theorem dX7_adds_31 : decode cX7_adds 31 = .ok (.getfield 68, 3) := by decide +kernel
theorem dX7_adds_34 : decode cX7_adds 34 = .ok (.iadd, 1) := by decide +kernel
theorem dX7_adds_35 : decode cX7_adds 35 = .ok (.iastore, 1) := by decide +kernel
theorem dX7_adds_36 : decode cX7_adds 36 = .ok (.aload_n 0, 1) := by decide +kernel
theorem dX7_adds_37 : decode cX7_adds 37 = .ok (.iload_n 2, 1) := by decide +kernel
theorem dX7_adds_38 : decode cX7_adds 38 = .ok (.iload_n 3, 1) := by decide +kernel
theorem dX7_adds_39 : decode cX7_adds 39 = .ok (.iload 4, 2) := by decide +kernel
theorem dX7_adds_41 : decode cX7_adds 41 = .ok (.iconst 2, 1) := by decide +kernel
theorem dX7_adds_42 : decode cX7_adds 42 = .ok (.isub, 1) := by decide +kernel
theorem dX7_adds_43 : decode cX7_adds 43 = .ok (.invokevirtual 71, 3) := by decide +kernel
theorem dX7_adds_46 : decode cX7_adds 46 = .ok (.aload_n 0, 1) := by decide +kernel
theorem dX7_adds_47 : decode cX7_adds 47 = .ok (.getfield 22, 3) := by decide +kernel
theorem dX7_adds_50 : decode cX7_adds 50 = .ok (.iload_n 1, 1) := by decide +kernel
theorem dX7_adds_51 : decode cX7_adds 51 = .ok (.iconst 2, 1) := by decide +kernel
theorem dX7_adds_52 : decode cX7_adds 52 = .ok (.iadd, 1) := by decide +kernel
theorem dX7_adds_53 : decode cX7_adds 53 = .ok (.dup2, 1) := by decide +kernel
theorem dX7_adds_54 : decode cX7_adds 54 = .ok (.iaload, 1) := by decide +kernel
theorem dX7_adds_55 : decode cX7_adds 55 = .ok (.aload_n 0, 1) := by decide +kernel
theorem dX7_adds_56 : decode cX7_adds 56 = .ok (.getfield 65, 3) := by decide +kernel
theorem dX7_adds_59 : decode cX7_adds 59 = .ok (.iadd, 1) := by decide +kernel
theorem dX7_adds_60 : decode cX7_adds 60 = .ok (.iastore, 1) := by decide +kernel
theorem dX7_adds_61 : decode cX7_adds 61 = .ok (.aload_n 0, 1) := by decide +kernel
theorem dX7_adds_62 : decode cX7_adds 62 = .ok (.getfield 22, 3) := by decide +kernel
theorem dX7_adds_65 : decode cX7_adds 65 = .ok (.iload_n 1, 1) := by decide +kernel
theorem dX7_adds_66 : decode cX7_adds 66 = .ok (.iconst 3, 1) := by decide +kernel
theorem dX7_adds_67 : decode cX7_adds 67 = .ok (.iadd, 1) := by decide +kernel
theorem dX7_adds_68 : decode cX7_adds 68 = .ok (.dup2, 1) := by decide +kernel
theorem dX7_adds_69 : decode cX7_adds 69 = .ok (.iaload, 1) := by decide +kernel
theorem dX7_adds_70 : decode cX7_adds 70 = .ok (.aload_n 0, 1) := by decide +kernel
theorem dX7_adds_71 : decode cX7_adds 71 = .ok (.getfield 68, 3) := by decide +kernel
theorem dX7_adds_74 : decode cX7_adds 74 = .ok (.iadd, 1) := by decide +kernel
theorem dX7_adds_75 : decode cX7_adds 75 = .ok (.iastore, 1) := by decide +kernel
theorem dX7_adds_76 : decode cX7_adds 76 = .ok (.return_, 1) := by decide +kernel
theorem dX7_lays_0 : decode cX7_lays 0 = .ok (.aload_n 0, 1) := by decide +kernel
theorem dX7_lays_1 : decode cX7_lays 1 = .ok (.getfield 25, 3) := by decide +kernel
theorem dX7_lays_4 : decode cX7_lays 4 = .ok (.iload_n 1, 1) := by decide +kernel
theorem dX7_lays_5 : decode cX7_lays 5 = .ok (.iaload, 1) := by decide +kernel
theorem dX7_lays_6 : decode cX7_lays 6 = .ok (.istore_n 2, 1) := by decide +kernel
theorem dX7_lays_7 : decode cX7_lays 7 = .ok (.iconst 5, 1) := by decide +kernel
theorem dX7_lays_8 : decode cX7_lays 8 = .ok (.iload_n 1, 1) := by decide +kernel
theorem dX7_lays_9 : decode cX7_lays 9 = .ok (.iconst 1, 1) := by decide +kernel
theorem dX7_lays_10 : decode cX7_lays 10 = .ok (.iadd, 1) := by decide +kernel
theorem dX7_lays_11 : decode cX7_lays 11 = .ok (.imul, 1) := by decide +kernel
theorem dX7_lays_12 : decode cX7_lays 12 = .ok (.istore_n 3, 1) := by decide +kernel
theorem dX7_lays_13 : decode cX7_lays 13 = .ok (.iconst 0, 1) := by decide +kernel
theorem dX7_lays_14 : decode cX7_lays 14 = .ok (.istore 4, 2) := by decide +kernel
theorem dX7_lays_16 : decode cX7_lays 16 = .ok (.iload 4, 2) := by decide +kernel
theorem dX7_lays_18 : decode cX7_lays 18 = .ok (.iconst 5, 1) := by decide +kernel
theorem dX7_lays_19 : decode cX7_lays 19 = .ok (.if_icmp .ge 29, 3) := by decide +kernel
theorem dX7_lays_22 : decode cX7_lays 22 = .ok (.aload_n 0, 1) := by decide +kernel
theorem dX7_lays_23 : decode cX7_lays 23 = .ok (.getfield 22, 3) := by decide +kernel
theorem dX7_lays_26 : decode cX7_lays 26 = .ok (.iload_n 3, 1) := by decide +kernel
theorem dX7_lays_27 : decode cX7_lays 27 = .ok (.iload 4, 2) := by decide +kernel
theorem dX7_lays_29 : decode cX7_lays 29 = .ok (.iadd, 1) := by decide +kernel
theorem dX7_lays_30 : decode cX7_lays 30 = .ok (.aload_n 0, 1) := by decide +kernel
theorem dX7_lays_31 : decode cX7_lays 31 = .ok (.getfield 22, 3) := by decide +kernel
theorem dX7_lays_34 : decode cX7_lays 34 = .ok (.iload_n 3, 1) := by decide +kernel
theorem dX7_lays_35 : decode cX7_lays 35 = .ok (.iconst 5, 1) := by decide +kernel
theorem dX7_lays_36 : decode cX7_lays 36 = .ok (.isub, 1) := by decide +kernel
theorem dX7_lays_37 : decode cX7_lays 37 = .ok (.iload 4, 2) := by decide +kernel
theorem dX7_lays_39 : decode cX7_lays 39 = .ok (.iadd, 1) := by decide +kernel
theorem dX7_lays_40 : decode cX7_lays 40 = .ok (.iaload, 1) := by decide +kernel
theorem dX7_lays_41 : decode cX7_lays 41 = .ok (.iastore, 1) := by decide +kernel
theorem dX7_lays_42 : decode cX7_lays 42 = .ok (.iinc 4 1, 3) := by decide +kernel
theorem dX7_lays_45 : decode cX7_lays 45 = .ok (.goto (-29), 3) := by decide +kernel
theorem dX7_lays_48 : decode cX7_lays 48 = .ok (.aload_n 0, 1) := by decide +kernel
theorem dX7_lays_49 : decode cX7_lays 49 = .ok (.getfield 22, 3) := by decide +kernel
theorem dX7_lays_52 : decode cX7_lays 52 = .ok (.iload_n 3, 1) := by decide +kernel
theorem dX7_lays_53 : decode cX7_lays 53 = .ok (.iconst 4, 1) := by decide +kernel
theorem dX7_lays_54 : decode cX7_lays 54 = .ok (.iadd, 1) := by decide +kernel
theorem dX7_lays_55 : decode cX7_lays 55 = .ok (.iaload, 1) := by decide +kernel
theorem dX7_lays_56 : decode cX7_lays 56 = .ok (.istore 4, 2) := by decide +kernel
theorem dX7_lays_58 : decode cX7_lays 58 = .ok (.aload_n 0, 1) := by decide +kernel
theorem dX7_lays_59 : decode cX7_lays 59 = .ok (.getfield 13, 3) := by decide +kernel
theorem dX7_lays_62 : decode cX7_lays 62 = .ok (.bipush 7, 2) := by decide +kernel
theorem dX7_lays_64 : decode cX7_lays 64 = .ok (.iload_n 2, 1) := by decide +kernel
theorem dX7_lays_65 : decode cX7_lays 65 = .ok (.invokestatic 75, 3) := by decide +kernel
theorem dX7_lays_68 : decode cX7_lays 68 = .ok (.iadd, 1) := by decide +kernel
theorem dX7_lays_69 : decode cX7_lays 69 = .ok (.iaload, 1) := by decide +kernel
theorem dX7_lays_70 : decode cX7_lays 70 = .ok (.istore 5, 2) := by decide +kernel
theorem dX7_lays_72 : decode cX7_lays 72 = .ok (.iload_n 2, 1) := by decide +kernel
theorem dX7_lays_73 : decode cX7_lays 73 = .ok (.invokestatic 78, 3) := by decide +kernel
theorem dX7_lays_76 : decode cX7_lays 76 = .ok (.istore 6, 2) := by decide +kernel
theorem dX7_lays_78 : decode cX7_lays 78 = .ok (.iload 6, 2) := by decide +kernel
theorem dX7_lays_80 : decode cX7_lays 80 = .ok (.ifCond .ge 10, 3) := by decide +kernel
theorem dX7_lays_83 : decode cX7_lays 83 = .ok (.iload 4, 2) := by decide +kernel
theorem dX7_lays_85 : decode cX7_lays 85 = .ok (.iconst 2, 1) := by decide +kernel
theorem dX7_lays_86 : decode cX7_lays 86 = .ok (.isub, 1) := by decide +kernel
theorem dX7_lays_87 : decode cX7_lays 87 = .ok (.goto 7, 3) := by decide +kernel
theorem dX7_lays_90 : decode cX7_lays 90 = .ok (.iload 4, 2) := by decide +kernel
theorem dX7_lays_92 : decode cX7_lays 92 = .ok (.iconst 2, 1) := by decide +kernel
theorem dX7_lays_93 : decode cX7_lays 93 = .ok (.iadd, 1) := by decide +kernel
theorem dX7_lays_94 : decode cX7_lays 94 = .ok (.istore 7, 2) := by decide +kernel
theorem dX7_lays_96 : decode cX7_lays 96 = .ok (.iload 6, 2) := by decide +kernel
theorem dX7_lays_98 : decode cX7_lays 98 = .ok (.ifCond .ne 18, 3) := by decide +kernel
theorem dX7_lays_101 : decode cX7_lays 101 = .ok (.aload_n 0, 1) := by decide +kernel
theorem dX7_lays_102 : decode cX7_lays 102 = .ok (.iload_n 3, 1) := by decide +kernel
theorem dX7_lays_103 : decode cX7_lays 103 = .ok (.iconst 2, 1) := by decide +kernel
theorem dX7_lays_104 : decode cX7_lays 104 = .ok (.iload 5, 2) := by decide +kernel
theorem dX7_lays_106 : decode cX7_lays 106 = .ok (.imul, 1) := by decide +kernel
theorem dX7_lays_107 : decode cX7_lays 107 = .ok (.iconst 0, 1) := by decide +kernel
theorem dX7_lays_108 : decode cX7_lays 108 = .ok (.iload 4, 2) := by decide +kernel
theorem dX7_lays_110 : decode cX7_lays 110 = .ok (.invokevirtual 81, 3) := by decide +kernel
theorem dX7_lays_113 : decode cX7_lays 113 = .ok (.goto 66, 3) := by decide +kernel
theorem dX7_lays_116 : decode cX7_lays 116 = .ok (.iload 6, 2) := by decide +kernel
theorem dX7_lays_118 : decode cX7_lays 118 = .ok (.iconst 1, 1) := by decide +kernel
theorem dX7_lays_119 : decode cX7_lays 119 = .ok (.if_icmp .eq 9, 3) := by decide +kernel
theorem dX7_lays_122 : decode cX7_lays 122 = .ok (.iload 6, 2) := by decide +kernel
theorem dX7_lays_124 : decode cX7_lays 124 = .ok (.iconst (-1), 1) := by decide +kernel
theorem dX7_lays_125 : decode cX7_lays 125 = .ok (.if_icmp .ne 30, 3) := by decide +kernel
theorem dX7_lays_128 : decode cX7_lays 128 = .ok (.aload_n 0, 1) := by decide +kernel
theorem dX7_lays_129 : decode cX7_lays 129 = .ok (.iload_n 3, 1) := by decide +kernel
theorem dX7_lays_130 : decode cX7_lays 130 = .ok (.iconst 0, 1) := by decide +kernel
theorem dX7_lays_131 : decode cX7_lays 131 = .ok (.iload 5, 2) := by decide +kernel
theorem dX7_lays_133 : decode cX7_lays 133 = .ok (.iload 4, 2) := by decide +kernel
theorem dX7_lays_135 : decode cX7_lays 135 = .ok (.invokevirtual 81, 3) := by decide +kernel
theorem dX7_lays_138 : decode cX7_lays 138 = .ok (.aload_n 0, 1) := by decide +kernel
theorem dX7_lays_139 : decode cX7_lays 139 = .ok (.iload_n 3, 1) := by decide +kernel
theorem dX7_lays_140 : decode cX7_lays 140 = .ok (.iconst 2, 1) := by decide +kernel
theorem dX7_lays_141 : decode cX7_lays 141 = .ok (.iload 5, 2) := by decide +kernel
theorem dX7_lays_143 : decode cX7_lays 143 = .ok (.imul, 1) := by decide +kernel
theorem dX7_lays_144 : decode cX7_lays 144 = .ok (.iload 5, 2) := by decide +kernel
theorem dX7_lays_146 : decode cX7_lays 146 = .ok (.ineg, 1) := by decide +kernel
theorem dX7_lays_147 : decode cX7_lays 147 = .ok (.iload 7, 2) := by decide +kernel
theorem dX7_lays_149 : decode cX7_lays 149 = .ok (.invokevirtual 81, 3) := by decide +kernel
theorem dX7_lays_152 : decode cX7_lays 152 = .ok (.goto 27, 3) := by decide +kernel
theorem dX7_lays_155 : decode cX7_lays 155 = .ok (.aload_n 0, 1) := by decide +kernel
theorem dX7_lays_156 : decode cX7_lays 156 = .ok (.iload_n 3, 1) := by decide +kernel
theorem dX7_lays_157 : decode cX7_lays 157 = .ok (.iconst 2, 1) := by decide +kernel
theorem dX7_lays_158 : decode cX7_lays 158 = .ok (.iload 5, 2) := by decide +kernel
theorem dX7_lays_160 : decode cX7_lays 160 = .ok (.imul, 1) := by decide +kernel
theorem dX7_lays_161 : decode cX7_lays 161 = .ok (.iconst 0, 1) := by decide +kernel
theorem dX7_lays_162 : decode cX7_lays 162 = .ok (.iload 4, 2) := by decide +kernel
theorem dX7_lays_164 : decode cX7_lays 164 = .ok (.invokevirtual 81, 3) := by decide +kernel
theorem dX7_lays_167 : decode cX7_lays 167 = .ok (.aload_n 0, 1) := by decide +kernel
theorem dX7_lays_168 : decode cX7_lays 168 = .ok (.iload_n 3, 1) := by decide +kernel
theorem dX7_lays_169 : decode cX7_lays 169 = .ok (.iconst 2, 1) := by decide +kernel
theorem dX7_lays_170 : decode cX7_lays 170 = .ok (.iload 5, 2) := by decide +kernel
theorem dX7_lays_172 : decode cX7_lays 172 = .ok (.imul, 1) := by decide +kernel
theorem dX7_lays_173 : decode cX7_lays 173 = .ok (.iconst 0, 1) := by decide +kernel
theorem dX7_lays_174 : decode cX7_lays 174 = .ok (.iload 7, 2) := by decide +kernel
theorem dX7_lays_176 : decode cX7_lays 176 = .ok (.invokevirtual 81, 3) := by decide +kernel
theorem dX7_lays_179 : decode cX7_lays 179 = .ok (.aload_n 0, 1) := by decide +kernel
theorem dX7_lays_180 : decode cX7_lays 180 = .ok (.getfield 22, 3) := by decide +kernel
theorem dX7_lays_183 : decode cX7_lays 183 = .ok (.iload_n 3, 1) := by decide +kernel
theorem dX7_lays_184 : decode cX7_lays 184 = .ok (.iconst 4, 1) := by decide +kernel
theorem dX7_lays_185 : decode cX7_lays 185 = .ok (.iadd, 1) := by decide +kernel
theorem dX7_lays_186 : decode cX7_lays 186 = .ok (.iload 4, 2) := by decide +kernel
theorem dX7_lays_188 : decode cX7_lays 188 = .ok (.iload 6, 2) := by decide +kernel
theorem dX7_lays_190 : decode cX7_lays 190 = .ok (.iadd, 1) := by decide +kernel
theorem dX7_lays_191 : decode cX7_lays 191 = .ok (.bipush 7, 2) := by decide +kernel
theorem dX7_lays_193 : decode cX7_lays 193 = .ok (.iand, 1) := by decide +kernel
theorem dX7_lays_194 : decode cX7_lays 194 = .ok (.iastore, 1) := by decide +kernel
theorem dX7_lays_195 : decode cX7_lays 195 = .ok (.return_, 1) := by decide +kernel
theorem dX7_takes_0 : decode cX7_takes 0 = .ok (.aload_n 0, 1) := by decide +kernel
theorem dX7_takes_1 : decode cX7_takes 1 = .ok (.aload_n 0, 1) := by decide +kernel
theorem dX7_takes_2 : decode cX7_takes 2 = .ok (.getfield 13, 3) := by decide +kernel
theorem dX7_takes_5 : decode cX7_takes 5 = .ok (.bipush 55, 2) := by decide +kernel
theorem dX7_takes_7 : decode cX7_takes 7 = .ok (.iaload, 1) := by decide +kernel
theorem dX7_takes_8 : decode cX7_takes 8 = .ok (.putfield 84, 3) := by decide +kernel
theorem dX7_takes_11 : decode cX7_takes 11 = .ok (.iconst 0, 1) := by decide +kernel
theorem dX7_takes_12 : decode cX7_takes 12 = .ok (.istore_n 1, 1) := by decide +kernel
theorem dX7_takes_13 : decode cX7_takes 13 = .ok (.iload_n 1, 1) := by decide +kernel
theorem dX7_takes_14 : decode cX7_takes 14 = .ok (.aload_n 0, 1) := by decide +kernel
theorem dX7_takes_15 : decode cX7_takes 15 = .ok (.getfield 84, 3) := by decide +kernel
theorem dX7_takes_18 : decode cX7_takes 18 = .ok (.if_icmp .ge 29, 3) := by decide +kernel
theorem dX7_takes_21 : decode cX7_takes 21 = .ok (.aload_n 0, 1) := by decide +kernel
theorem dX7_takes_22 : decode cX7_takes 22 = .ok (.getfield 25, 3) := by decide +kernel
theorem dX7_takes_25 : decode cX7_takes 25 = .ok (.iload_n 1, 1) := by decide +kernel
theorem dX7_takes_26 : decode cX7_takes 26 = .ok (.aload_n 0, 1) := by decide +kernel
theorem dX7_takes_27 : decode cX7_takes 27 = .ok (.getfield 13, 3) := by decide +kernel
theorem dX7_takes_30 : decode cX7_takes 30 = .ok (.bipush 31, 2) := by decide +kernel
theorem dX7_takes_32 : decode cX7_takes 32 = .ok (.iload_n 1, 1) := by decide +kernel
theorem dX7_takes_33 : decode cX7_takes 33 = .ok (.iadd, 1) := by decide +kernel
theorem dX7_takes_34 : decode cX7_takes 34 = .ok (.iaload, 1) := by decide +kernel
theorem dX7_takes_35 : decode cX7_takes 35 = .ok (.iastore, 1) := by decide +kernel
theorem dX7_takes_36 : decode cX7_takes 36 = .ok (.aload_n 0, 1) := by decide +kernel
theorem dX7_takes_37 : decode cX7_takes 37 = .ok (.iload_n 1, 1) := by decide +kernel
theorem dX7_takes_38 : decode cX7_takes 38 = .ok (.invokevirtual 87, 3) := by decide +kernel
theorem dX7_takes_41 : decode cX7_takes 41 = .ok (.iinc 1 1, 3) := by decide +kernel
theorem dX7_takes_44 : decode cX7_takes 44 = .ok (.goto (-31), 3) := by decide +kernel
theorem dX7_takes_47 : decode cX7_takes 47 = .ok (.return_, 1) := by decide +kernel
theorem dX7_joint_0 : decode cX7_joint 0 = .ok (.iload_n 1, 1) := by decide +kernel
theorem dX7_joint_1 : decode cX7_joint 1 = .ok (.aload_n 0, 1) := by decide +kernel
theorem dX7_joint_2 : decode cX7_joint 2 = .ok (.getfield 13, 3) := by decide +kernel
theorem dX7_joint_5 : decode cX7_joint 5 = .ok (.bipush 55, 2) := by decide +kernel
theorem dX7_joint_7 : decode cX7_joint 7 = .ok (.iaload, 1) := by decide +kernel
theorem dX7_joint_8 : decode cX7_joint 8 = .ok (.iconst 1, 1) := by decide +kernel
theorem dX7_joint_9 : decode cX7_joint 9 = .ok (.iadd, 1) := by decide +kernel
theorem dX7_joint_10 : decode cX7_joint 10 = .ok (.invokestatic 57, 3) := by decide +kernel
theorem dX7_joint_13 : decode cX7_joint 13 = .ok (.ifCond .ne 12, 3) := by decide +kernel
theorem dX7_joint_16 : decode cX7_joint 16 = .ok (.ldc 91, 2) := by decide +kernel
theorem dX7_joint_18 : decode cX7_joint 18 = .ok (.aload_n 0, 1) := by decide +kernel
theorem dX7_joint_19 : decode cX7_joint 19 = .ok (.iconst (-1), 1) := by decide +kernel
theorem dX7_joint_20 : decode cX7_joint 20 = .ok (.invokevirtual 44, 3) := by decide +kernel
theorem dX7_joint_23 : decode cX7_joint 23 = .ok (.isub, 1) := by decide +kernel
theorem dX7_joint_24 : decode cX7_joint 24 = .ok (.ireturn, 1) := by decide +kernel
theorem dX7_joint_25 : decode cX7_joint 25 = .ok (.iload_n 2, 1) := by decide +kernel
theorem dX7_joint_26 : decode cX7_joint 26 = .ok (.iconst 5, 1) := by decide +kernel
theorem dX7_joint_27 : decode cX7_joint 27 = .ok (.invokestatic 57, 3) := by decide +kernel
theorem dX7_joint_30 : decode cX7_joint 30 = .ok (.ifCond .ne 13, 3) := by decide +kernel
theorem dX7_joint_33 : decode cX7_joint 33 = .ok (.ldc 91, 2) := by decide +kernel
theorem dX7_joint_35 : decode cX7_joint 35 = .ok (.aload_n 0, 1) := by decide +kernel
theorem dX7_joint_36 : decode cX7_joint 36 = .ok (.bipush (-2), 2) := by decide +kernel
theorem dX7_joint_38 : decode cX7_joint 38 = .ok (.invokevirtual 44, 3) := by decide +kernel
theorem dX7_joint_41 : decode cX7_joint 41 = .ok (.isub, 1) := by decide +kernel
theorem dX7_joint_42 : decode cX7_joint 42 = .ok (.ireturn, 1) := by decide +kernel
theorem dX7_joint_43 : decode cX7_joint 43 = .ok (.aload_n 0, 1) := by decide +kernel
theorem dX7_joint_44 : decode cX7_joint 44 = .ok (.invokevirtual 92, 3) := by decide +kernel
theorem dX7_joint_47 : decode cX7_joint 47 = .ok (.aload_n 0, 1) := by decide +kernel
theorem dX7_joint_48 : decode cX7_joint 48 = .ok (.getfield 22, 3) := by decide +kernel
theorem dX7_joint_51 : decode cX7_joint 51 = .ok (.iconst 5, 1) := by decide +kernel
theorem dX7_joint_52 : decode cX7_joint 52 = .ok (.iload_n 1, 1) := by decide +kernel
theorem dX7_joint_53 : decode cX7_joint 53 = .ok (.imul, 1) := by decide +kernel
theorem dX7_joint_54 : decode cX7_joint 54 = .ok (.iload_n 2, 1) := by decide +kernel
theorem dX7_joint_55 : decode cX7_joint 55 = .ok (.iadd, 1) := by decide +kernel
theorem dX7_joint_56 : decode cX7_joint 56 = .ok (.iaload, 1) := by decide +kernel
theorem dX7_joint_57 : decode cX7_joint 57 = .ok (.ireturn, 1) := by decide +kernel
theorem dX7_isSame_0 : decode cX7_isSame 0 = .ok (.iconst 0, 1) := by decide +kernel
theorem dX7_isSame_1 : decode cX7_isSame 1 = .ok (.istore_n 3, 1) := by decide +kernel
theorem dX7_isSame_2 : decode cX7_isSame 2 = .ok (.iload_n 3, 1) := by decide +kernel
theorem dX7_isSame_3 : decode cX7_isSame 3 = .ok (.iconst 4, 1) := by decide +kernel
theorem dX7_isSame_4 : decode cX7_isSame 4 = .ok (.if_icmp .ge 34, 3) := by decide +kernel
theorem dX7_isSame_7 : decode cX7_isSame 7 = .ok (.aload_n 0, 1) := by decide +kernel
theorem dX7_isSame_8 : decode cX7_isSame 8 = .ok (.getfield 22, 3) := by decide +kernel
theorem dX7_isSame_11 : decode cX7_isSame 11 = .ok (.iconst 5, 1) := by decide +kernel
theorem dX7_isSame_12 : decode cX7_isSame 12 = .ok (.iload_n 1, 1) := by decide +kernel
theorem dX7_isSame_13 : decode cX7_isSame 13 = .ok (.imul, 1) := by decide +kernel
theorem dX7_isSame_14 : decode cX7_isSame 14 = .ok (.iload_n 3, 1) := by decide +kernel
theorem dX7_isSame_15 : decode cX7_isSame 15 = .ok (.iadd, 1) := by decide +kernel
theorem dX7_isSame_16 : decode cX7_isSame 16 = .ok (.iaload, 1) := by decide +kernel
theorem dX7_isSame_17 : decode cX7_isSame 17 = .ok (.aload_n 0, 1) := by decide +kernel
theorem dX7_isSame_18 : decode cX7_isSame 18 = .ok (.getfield 22, 3) := by decide +kernel
theorem dX7_isSame_21 : decode cX7_isSame 21 = .ok (.iconst 5, 1) := by decide +kernel
theorem dX7_isSame_22 : decode cX7_isSame 22 = .ok (.iload_n 2, 1) := by decide +kernel
theorem dX7_isSame_23 : decode cX7_isSame 23 = .ok (.imul, 1) := by decide +kernel
theorem dX7_isSame_24 : decode cX7_isSame 24 = .ok (.iload_n 3, 1) := by decide +kernel
theorem dX7_isSame_25 : decode cX7_isSame 25 = .ok (.iadd, 1) := by decide +kernel
theorem dX7_isSame_26 : decode cX7_isSame 26 = .ok (.iaload, 1) := by decide +kernel
theorem dX7_isSame_27 : decode cX7_isSame 27 = .ok (.if_icmp .eq 5, 3) := by decide +kernel
theorem dX7_isSame_30 : decode cX7_isSame 30 = .ok (.iconst 0, 1) := by decide +kernel
theorem dX7_isSame_31 : decode cX7_isSame 31 = .ok (.ireturn, 1) := by decide +kernel
theorem dX7_isSame_32 : decode cX7_isSame 32 = .ok (.iinc 3 1, 3) := by decide +kernel
theorem dX7_isSame_35 : decode cX7_isSame 35 = .ok (.goto (-33), 3) := by decide +kernel
theorem dX7_isSame_38 : decode cX7_isSame 38 = .ok (.iconst 1, 1) := by decide +kernel
theorem dX7_isSame_39 : decode cX7_isSame 39 = .ok (.ireturn, 1) := by decide +kernel
theorem dX7_isClosed_0 : decode cX7_isClosed 0 = .ok (.aload_n 0, 1) := by decide +kernel
theorem dX7_isClosed_1 : decode cX7_isClosed 1 = .ok (.getfield 84, 3) := by decide +kernel
theorem dX7_isClosed_4 : decode cX7_isClosed 4 = .ok (.ifCond .le 35, 3) := by decide +kernel
theorem dX7_isClosed_7 : decode cX7_isClosed 7 = .ok (.aload_n 0, 1) := by decide +kernel
theorem dX7_isClosed_8 : decode cX7_isClosed 8 = .ok (.iconst 0, 1) := by decide +kernel
theorem dX7_isClosed_9 : decode cX7_isClosed 9 = .ok (.aload_n 0, 1) := by decide +kernel
theorem dX7_isClosed_10 : decode cX7_isClosed 10 = .ok (.getfield 84, 3) := by decide +kernel
theorem dX7_isClosed_13 : decode cX7_isClosed 13 = .ok (.invokevirtual 95, 3) := by decide +kernel
theorem dX7_isClosed_16 : decode cX7_isClosed 16 = .ok (.ifCond .eq 23, 3) := by decide +kernel
theorem dX7_isClosed_19 : decode cX7_isClosed 19 = .ok (.aload_n 0, 1) := by decide +kernel
theorem dX7_isClosed_20 : decode cX7_isClosed 20 = .ok (.getfield 22, 3) := by decide +kernel
theorem dX7_isClosed_23 : decode cX7_isClosed 23 = .ok (.iconst 5, 1) := by decide +kernel
theorem dX7_isClosed_24 : decode cX7_isClosed 24 = .ok (.aload_n 0, 1) := by decide +kernel
theorem dX7_isClosed_25 : decode cX7_isClosed 25 = .ok (.getfield 84, 3) := by decide +kernel
theorem dX7_isClosed_28 : decode cX7_isClosed 28 = .ok (.imul, 1) := by decide +kernel
theorem dX7_isClosed_29 : decode cX7_isClosed 29 = .ok (.iconst 4, 1) := by decide +kernel
theorem dX7_isClosed_30 : decode cX7_isClosed 30 = .ok (.iadd, 1) := by decide +kernel
theorem dX7_isClosed_31 : decode cX7_isClosed 31 = .ok (.iaload, 1) := by decide +kernel
theorem dX7_isClosed_32 : decode cX7_isClosed 32 = .ok (.ifCond .ne 7, 3) := by decide +kernel
theorem dX7_isClosed_35 : decode cX7_isClosed 35 = .ok (.iconst 1, 1) := by decide +kernel
theorem dX7_isClosed_36 : decode cX7_isClosed 36 = .ok (.goto 4, 3) := by decide +kernel
theorem dX7_isClosed_39 : decode cX7_isClosed 39 = .ok (.iconst 0, 1) := by decide +kernel
theorem dX7_isClosed_40 : decode cX7_isClosed 40 = .ok (.ireturn, 1) := by decide +kernel
theorem dX7_closes_0 : decode cX7_closes 0 = .ok (.aload_n 0, 1) := by decide +kernel
theorem dX7_closes_1 : decode cX7_closes 1 = .ok (.invokevirtual 92, 3) := by decide +kernel
theorem dX7_closes_4 : decode cX7_closes 4 = .ok (.aload_n 0, 1) := by decide +kernel
theorem dX7_closes_5 : decode cX7_closes 5 = .ok (.invokevirtual 98, 3) := by decide +kernel
theorem dX7_closes_8 : decode cX7_closes 8 = .ok (.ifCond .eq 7, 3) := by decide +kernel
theorem dX7_closes_11 : decode cX7_closes 11 = .ok (.iconst 1, 1) := by decide +kernel
theorem dX7_closes_12 : decode cX7_closes 12 = .ok (.goto 4, 3) := by decide +kernel
theorem dX7_closes_15 : decode cX7_closes 15 = .ok (.iconst 0, 1) := by decide +kernel
theorem dX7_closes_16 : decode cX7_closes 16 = .ok (.ireturn, 1) := by decide +kernel
theorem dX7_uses_0 : decode cX7_uses 0 = .ok (.iconst 0, 1) := by decide +kernel
theorem dX7_uses_1 : decode cX7_uses 1 = .ok (.istore_n 1, 1) := by decide +kernel
theorem dX7_uses_2 : decode cX7_uses 2 = .ok (.iload_n 1, 1) := by decide +kernel
theorem dX7_uses_3 : decode cX7_uses 3 = .ok (.bipush 7, 2) := by decide +kernel
theorem dX7_uses_5 : decode cX7_uses 5 = .ok (.if_icmp .ge 66, 3) := by decide +kernel
theorem dX7_uses_8 : decode cX7_uses 8 = .ok (.iconst 0, 1) := by decide +kernel
theorem dX7_uses_9 : decode cX7_uses 9 = .ok (.istore_n 2, 1) := by decide +kernel
theorem dX7_uses_10 : decode cX7_uses 10 = .ok (.iconst 0, 1) := by decide +kernel
theorem dX7_uses_11 : decode cX7_uses 11 = .ok (.istore_n 3, 1) := by decide +kernel
theorem dX7_uses_12 : decode cX7_uses 12 = .ok (.iload_n 3, 1) := by decide +kernel
theorem dX7_uses_13 : decode cX7_uses 13 = .ok (.aload_n 0, 1) := by decide +kernel
theorem dX7_uses_14 : decode cX7_uses 14 = .ok (.getfield 13, 3) := by decide +kernel
theorem dX7_uses_17 : decode cX7_uses 17 = .ok (.bipush 55, 2) := by decide +kernel
theorem dX7_uses_19 : decode cX7_uses 19 = .ok (.iaload, 1) := by decide +kernel
theorem dX7_uses_20 : decode cX7_uses 20 = .ok (.if_icmp .ge 33, 3) := by decide +kernel
theorem dX7_uses_23 : decode cX7_uses 23 = .ok (.iload_n 2, 1) := by decide +kernel
theorem dX7_uses_24 : decode cX7_uses 24 = .ok (.aload_n 0, 1) := by decide +kernel
theorem dX7_uses_25 : decode cX7_uses 25 = .ok (.getfield 13, 3) := by decide +kernel
theorem dX7_uses_28 : decode cX7_uses 28 = .ok (.bipush 31, 2) := by decide +kernel
theorem dX7_uses_30 : decode cX7_uses 30 = .ok (.iload_n 3, 1) := by decide +kernel
theorem dX7_uses_31 : decode cX7_uses 31 = .ok (.iadd, 1) := by decide +kernel
theorem dX7_uses_32 : decode cX7_uses 32 = .ok (.iaload, 1) := by decide +kernel
theorem dX7_uses_33 : decode cX7_uses 33 = .ok (.invokestatic 75, 3) := by decide +kernel
theorem dX7_uses_36 : decode cX7_uses 36 = .ok (.iload_n 1, 1) := by decide +kernel
theorem dX7_uses_37 : decode cX7_uses 37 = .ok (.if_icmp .ne 7, 3) := by decide +kernel
theorem dX7_uses_40 : decode cX7_uses 40 = .ok (.iconst 1, 1) := by decide +kernel
theorem dX7_uses_41 : decode cX7_uses 41 = .ok (.goto 4, 3) := by decide +kernel
theorem dX7_uses_44 : decode cX7_uses 44 = .ok (.iconst 0, 1) := by decide +kernel
theorem dX7_uses_45 : decode cX7_uses 45 = .ok (.iadd, 1) := by decide +kernel
theorem dX7_uses_46 : decode cX7_uses 46 = .ok (.istore_n 2, 1) := by decide +kernel
theorem dX7_uses_47 : decode cX7_uses 47 = .ok (.iinc 3 1, 3) := by decide +kernel
theorem dX7_uses_50 : decode cX7_uses 50 = .ok (.goto (-38), 3) := by decide +kernel
theorem dX7_uses_53 : decode cX7_uses 53 = .ok (.iload_n 2, 1) := by decide +kernel
theorem dX7_uses_54 : decode cX7_uses 54 = .ok (.aload_n 0, 1) := by decide +kernel
theorem dX7_uses_55 : decode cX7_uses 55 = .ok (.getfield 13, 3) := by decide +kernel
theorem dX7_uses_58 : decode cX7_uses 58 = .ok (.iload_n 1, 1) := by decide +kernel
theorem dX7_uses_59 : decode cX7_uses 59 = .ok (.iaload, 1) := by decide +kernel
theorem dX7_uses_60 : decode cX7_uses 60 = .ok (.if_icmp .le 5, 3) := by decide +kernel
theorem dX7_uses_63 : decode cX7_uses 63 = .ok (.iconst 0, 1) := by decide +kernel
theorem dX7_uses_64 : decode cX7_uses 64 = .ok (.ireturn, 1) := by decide +kernel
theorem dX7_uses_65 : decode cX7_uses 65 = .ok (.iinc 1 1, 3) := by decide +kernel
theorem dX7_uses_68 : decode cX7_uses 68 = .ok (.goto (-66), 3) := by decide +kernel
theorem dX7_uses_71 : decode cX7_uses 71 = .ok (.iconst 1, 1) := by decide +kernel
theorem dX7_uses_72 : decode cX7_uses 72 = .ok (.ireturn, 1) := by decide +kernel
theorem dX7_signOf_0 : decode cX7_signOf 0 = .ok (.lload_n 0, 1) := by decide +kernel
theorem dX7_signOf_1 : decode cX7_signOf 1 = .ok (.lconst 0, 1) := by decide +kernel
theorem dX7_signOf_2 : decode cX7_signOf 2 = .ok (.lcmp, 1) := by decide +kernel
theorem dX7_signOf_3 : decode cX7_signOf 3 = .ok (.ifCond .ne 11, 3) := by decide +kernel
theorem dX7_signOf_6 : decode cX7_signOf 6 = .ok (.lload_n 2, 1) := by decide +kernel
theorem dX7_signOf_7 : decode cX7_signOf 7 = .ok (.lconst 0, 1) := by decide +kernel
theorem dX7_signOf_8 : decode cX7_signOf 8 = .ok (.lcmp, 1) := by decide +kernel
theorem dX7_signOf_9 : decode cX7_signOf 9 = .ok (.ifCond .ne 5, 3) := by decide +kernel
theorem dX7_signOf_12 : decode cX7_signOf 12 = .ok (.iconst 0, 1) := by decide +kernel
theorem dX7_signOf_13 : decode cX7_signOf 13 = .ok (.ireturn, 1) := by decide +kernel
theorem dX7_signOf_14 : decode cX7_signOf 14 = .ok (.lload_n 0, 1) := by decide +kernel
theorem dX7_signOf_15 : decode cX7_signOf 15 = .ok (.lconst 0, 1) := by decide +kernel
theorem dX7_signOf_16 : decode cX7_signOf 16 = .ok (.lcmp, 1) := by decide +kernel
theorem dX7_signOf_17 : decode cX7_signOf 17 = .ok (.ifCond .lt 11, 3) := by decide +kernel
theorem dX7_signOf_20 : decode cX7_signOf 20 = .ok (.lload_n 2, 1) := by decide +kernel
theorem dX7_signOf_21 : decode cX7_signOf 21 = .ok (.lconst 0, 1) := by decide +kernel
theorem dX7_signOf_22 : decode cX7_signOf 22 = .ok (.lcmp, 1) := by decide +kernel
theorem dX7_signOf_23 : decode cX7_signOf 23 = .ok (.ifCond .lt 5, 3) := by decide +kernel
theorem dX7_signOf_26 : decode cX7_signOf 26 = .ok (.iconst 1, 1) := by decide +kernel
theorem dX7_signOf_27 : decode cX7_signOf 27 = .ok (.ireturn, 1) := by decide +kernel
theorem dX7_signOf_28 : decode cX7_signOf 28 = .ok (.lload_n 0, 1) := by decide +kernel
theorem dX7_signOf_29 : decode cX7_signOf 29 = .ok (.lconst 0, 1) := by decide +kernel
theorem dX7_signOf_30 : decode cX7_signOf 30 = .ok (.lcmp, 1) := by decide +kernel
theorem dX7_signOf_31 : decode cX7_signOf 31 = .ok (.ifCond .gt 11, 3) := by decide +kernel
theorem dX7_signOf_34 : decode cX7_signOf 34 = .ok (.lload_n 2, 1) := by decide +kernel
theorem dX7_signOf_35 : decode cX7_signOf 35 = .ok (.lconst 0, 1) := by decide +kernel
theorem dX7_signOf_36 : decode cX7_signOf 36 = .ok (.lcmp, 1) := by decide +kernel
theorem dX7_signOf_37 : decode cX7_signOf 37 = .ok (.ifCond .gt 5, 3) := by decide +kernel
theorem dX7_signOf_40 : decode cX7_signOf 40 = .ok (.iconst (-1), 1) := by decide +kernel
theorem dX7_signOf_41 : decode cX7_signOf 41 = .ok (.ireturn, 1) := by decide +kernel
theorem dX7_signOf_42 : decode cX7_signOf 42 = .ok (.lload_n 0, 1) := by decide +kernel
theorem dX7_signOf_43 : decode cX7_signOf 43 = .ok (.lload_n 0, 1) := by decide +kernel
theorem dX7_signOf_44 : decode cX7_signOf 44 = .ok (.lmul, 1) := by decide +kernel
theorem dX7_signOf_45 : decode cX7_signOf 45 = .ok (.ldc2_w 102, 3) := by decide +kernel
theorem dX7_signOf_48 : decode cX7_signOf 48 = .ok (.lload_n 2, 1) := by decide +kernel
theorem dX7_signOf_49 : decode cX7_signOf 49 = .ok (.lmul, 1) := by decide +kernel
theorem dX7_signOf_50 : decode cX7_signOf 50 = .ok (.lload_n 2, 1) := by decide +kernel
theorem dX7_signOf_51 : decode cX7_signOf 51 = .ok (.lmul, 1) := by decide +kernel
theorem dX7_signOf_52 : decode cX7_signOf 52 = .ok (.lcmp, 1) := by decide +kernel
theorem dX7_signOf_53 : decode cX7_signOf 53 = .ok (.ifCond .le 7, 3) := by decide +kernel
theorem dX7_signOf_56 : decode cX7_signOf 56 = .ok (.iconst 1, 1) := by decide +kernel
theorem dX7_signOf_57 : decode cX7_signOf 57 = .ok (.goto 4, 3) := by decide +kernel
theorem dX7_signOf_60 : decode cX7_signOf 60 = .ok (.iconst 0, 1) := by decide +kernel
theorem dX7_signOf_61 : decode cX7_signOf 61 = .ok (.istore 4, 2) := by decide +kernel
theorem dX7_signOf_63 : decode cX7_signOf 63 = .ok (.iload 4, 2) := by decide +kernel
theorem dX7_signOf_65 : decode cX7_signOf 65 = .ok (.lload_n 0, 1) := by decide +kernel
theorem dX7_signOf_66 : decode cX7_signOf 66 = .ok (.lconst 0, 1) := by decide +kernel
theorem dX7_signOf_67 : decode cX7_signOf 67 = .ok (.lcmp, 1) := by decide +kernel
theorem dX7_signOf_68 : decode cX7_signOf 68 = .ok (.ifCond .le 7, 3) := by decide +kernel
theorem dX7_signOf_71 : decode cX7_signOf 71 = .ok (.iconst 1, 1) := by decide +kernel
theorem dX7_signOf_72 : decode cX7_signOf 72 = .ok (.goto 4, 3) := by decide +kernel
theorem dX7_signOf_75 : decode cX7_signOf 75 = .ok (.iconst 0, 1) := by decide +kernel
theorem dX7_signOf_76 : decode cX7_signOf 76 = .ok (.if_icmp .ne 7, 3) := by decide +kernel
theorem dX7_signOf_79 : decode cX7_signOf 79 = .ok (.iconst 1, 1) := by decide +kernel
theorem dX7_signOf_80 : decode cX7_signOf 80 = .ok (.goto 4, 3) := by decide +kernel
theorem dX7_signOf_83 : decode cX7_signOf 83 = .ok (.iconst (-1), 1) := by decide +kernel
theorem dX7_signOf_84 : decode cX7_signOf 84 = .ok (.ireturn, 1) := by decide +kernel
theorem dX7_isPart_0 : decode cX7_isPart 0 = .ok (.iload_n 0, 1) := by decide +kernel
theorem dX7_isPart_1 : decode cX7_isPart 1 = .ok (.ldc 104, 2) := by decide +kernel
theorem dX7_isPart_3 : decode cX7_isPart 3 = .ok (.if_icmp .lt 13, 3) := by decide +kernel
theorem dX7_isPart_6 : decode cX7_isPart 6 = .ok (.iload_n 0, 1) := by decide +kernel
theorem dX7_isPart_7 : decode cX7_isPart 7 = .ok (.ldc 105, 2) := by decide +kernel
theorem dX7_isPart_9 : decode cX7_isPart 9 = .ok (.if_icmp .gt 7, 3) := by decide +kernel
theorem dX7_isPart_12 : decode cX7_isPart 12 = .ok (.iconst 1, 1) := by decide +kernel
theorem dX7_isPart_13 : decode cX7_isPart 13 = .ok (.goto 4, 3) := by decide +kernel
theorem dX7_isPart_16 : decode cX7_isPart 16 = .ok (.iconst 0, 1) := by decide +kernel
theorem dX7_isPart_17 : decode cX7_isPart 17 = .ok (.ireturn, 1) := by decide +kernel
theorem dX7_sign_0 : decode cX7_sign 0 = .ok (.iload_n 1, 1) := by decide +kernel
theorem dX7_sign_1 : decode cX7_sign 1 = .ok (.invokestatic 106, 3) := by decide +kernel
theorem dX7_sign_4 : decode cX7_sign 4 = .ok (.ifCond .eq 20, 3) := by decide +kernel
theorem dX7_sign_7 : decode cX7_sign 7 = .ok (.iload_n 2, 1) := by decide +kernel
theorem dX7_sign_8 : decode cX7_sign 8 = .ok (.invokestatic 106, 3) := by decide +kernel
theorem dX7_sign_11 : decode cX7_sign 11 = .ok (.ifCond .eq 13, 3) := by decide +kernel
theorem dX7_sign_14 : decode cX7_sign 14 = .ok (.iload_n 1, 1) := by decide +kernel
theorem dX7_sign_15 : decode cX7_sign 15 = .ok (.i2l, 1) := by decide +kernel
theorem dX7_sign_16 : decode cX7_sign 16 = .ok (.iload_n 2, 1) := by decide +kernel
theorem dX7_sign_17 : decode cX7_sign 17 = .ok (.i2l, 1) := by decide +kernel
theorem dX7_sign_18 : decode cX7_sign 18 = .ok (.invokestatic 110, 3) := by decide +kernel
theorem dX7_sign_21 : decode cX7_sign 21 = .ok (.goto 9, 3) := by decide +kernel
theorem dX7_sign_24 : decode cX7_sign 24 = .ok (.aload_n 0, 1) := by decide +kernel
theorem dX7_sign_25 : decode cX7_sign 25 = .ok (.bipush (-3), 2) := by decide +kernel
theorem dX7_sign_27 : decode cX7_sign 27 = .ok (.invokevirtual 44, 3) := by decide +kernel
theorem dX7_sign_30 : decode cX7_sign 30 = .ok (.ireturn, 1) := by decide +kernel
theorem dX7_gapOf_0 : decode cX7_gapOf 0 = .ok (.iconst 5, 1) := by decide +kernel
theorem dX7_gapOf_1 : decode cX7_gapOf 1 = .ok (.aload_n 0, 1) := by decide +kernel
theorem dX7_gapOf_2 : decode cX7_gapOf 2 = .ok (.getfield 84, 3) := by decide +kernel
theorem dX7_gapOf_5 : decode cX7_gapOf 5 = .ok (.imul, 1) := by decide +kernel
theorem dX7_gapOf_6 : decode cX7_gapOf 6 = .ok (.istore_n 2, 1) := by decide +kernel
theorem dX7_gapOf_7 : decode cX7_gapOf 7 = .ok (.aload_n 0, 1) := by decide +kernel
theorem dX7_gapOf_8 : decode cX7_gapOf 8 = .ok (.getfield 22, 3) := by decide +kernel
theorem dX7_gapOf_11 : decode cX7_gapOf 11 = .ok (.iload_n 2, 1) := by decide +kernel
theorem dX7_gapOf_12 : decode cX7_gapOf 12 = .ok (.iaload, 1) := by decide +kernel
theorem dX7_gapOf_13 : decode cX7_gapOf 13 = .ok (.istore_n 3, 1) := by decide +kernel
theorem dX7_gapOf_14 : decode cX7_gapOf 14 = .ok (.aload_n 0, 1) := by decide +kernel
theorem dX7_gapOf_15 : decode cX7_gapOf 15 = .ok (.getfield 22, 3) := by decide +kernel
theorem dX7_gapOf_18 : decode cX7_gapOf 18 = .ok (.iload_n 2, 1) := by decide +kernel
theorem dX7_gapOf_19 : decode cX7_gapOf 19 = .ok (.iconst 1, 1) := by decide +kernel
theorem dX7_gapOf_20 : decode cX7_gapOf 20 = .ok (.iadd, 1) := by decide +kernel
theorem dX7_gapOf_21 : decode cX7_gapOf 21 = .ok (.iaload, 1) := by decide +kernel
theorem dX7_gapOf_22 : decode cX7_gapOf 22 = .ok (.istore 4, 2) := by decide +kernel
theorem dX7_gapOf_24 : decode cX7_gapOf 24 = .ok (.aload_n 0, 1) := by decide +kernel
theorem dX7_gapOf_25 : decode cX7_gapOf 25 = .ok (.getfield 22, 3) := by decide +kernel
theorem dX7_gapOf_28 : decode cX7_gapOf 28 = .ok (.iload_n 2, 1) := by decide +kernel
theorem dX7_gapOf_29 : decode cX7_gapOf 29 = .ok (.iconst 2, 1) := by decide +kernel
theorem dX7_gapOf_30 : decode cX7_gapOf 30 = .ok (.iadd, 1) := by decide +kernel
theorem dX7_gapOf_31 : decode cX7_gapOf 31 = .ok (.iaload, 1) := by decide +kernel
theorem dX7_gapOf_32 : decode cX7_gapOf 32 = .ok (.istore 5, 2) := by decide +kernel
theorem dX7_gapOf_34 : decode cX7_gapOf 34 = .ok (.aload_n 0, 1) := by decide +kernel
theorem dX7_gapOf_35 : decode cX7_gapOf 35 = .ok (.getfield 22, 3) := by decide +kernel
theorem dX7_gapOf_38 : decode cX7_gapOf 38 = .ok (.iload_n 2, 1) := by decide +kernel
theorem dX7_gapOf_39 : decode cX7_gapOf 39 = .ok (.iconst 3, 1) := by decide +kernel
theorem dX7_gapOf_40 : decode cX7_gapOf 40 = .ok (.iadd, 1) := by decide +kernel
theorem dX7_gapOf_41 : decode cX7_gapOf 41 = .ok (.iaload, 1) := by decide +kernel
theorem dX7_gapOf_42 : decode cX7_gapOf 42 = .ok (.istore 6, 2) := by decide +kernel
theorem dX7_gapOf_44 : decode cX7_gapOf 44 = .ok (.iload_n 1, 1) := by decide +kernel
theorem dX7_gapOf_45 : decode cX7_gapOf 45 = .ok (.ifCond .ne 31, 3) := by decide +kernel
theorem dX7_gapOf_48 : decode cX7_gapOf 48 = .ok (.iload_n 3, 1) := by decide +kernel
theorem dX7_gapOf_49 : decode cX7_gapOf 49 = .ok (.iload_n 3, 1) := by decide +kernel
theorem dX7_gapOf_50 : decode cX7_gapOf 50 = .ok (.imul, 1) := by decide +kernel
theorem dX7_gapOf_51 : decode cX7_gapOf 51 = .ok (.iconst 2, 1) := by decide +kernel
theorem dX7_gapOf_52 : decode cX7_gapOf 52 = .ok (.iload 4, 2) := by decide +kernel
theorem dX7_gapOf_54 : decode cX7_gapOf 54 = .ok (.imul, 1) := by decide +kernel
theorem dX7_gapOf_55 : decode cX7_gapOf 55 = .ok (.iload 4, 2) := by decide +kernel
theorem dX7_gapOf_57 : decode cX7_gapOf 57 = .ok (.imul, 1) := by decide +kernel
theorem dX7_gapOf_58 : decode cX7_gapOf 58 = .ok (.iadd, 1) := by decide +kernel
theorem dX7_gapOf_59 : decode cX7_gapOf 59 = .ok (.iload 5, 2) := by decide +kernel
theorem dX7_gapOf_61 : decode cX7_gapOf 61 = .ok (.iload 5, 2) := by decide +kernel
theorem dX7_gapOf_63 : decode cX7_gapOf 63 = .ok (.imul, 1) := by decide +kernel
theorem dX7_gapOf_64 : decode cX7_gapOf 64 = .ok (.iadd, 1) := by decide +kernel
theorem dX7_gapOf_65 : decode cX7_gapOf 65 = .ok (.iconst 2, 1) := by decide +kernel
theorem dX7_gapOf_66 : decode cX7_gapOf 66 = .ok (.iload 6, 2) := by decide +kernel
theorem dX7_gapOf_68 : decode cX7_gapOf 68 = .ok (.imul, 1) := by decide +kernel
theorem dX7_gapOf_69 : decode cX7_gapOf 69 = .ok (.iload 6, 2) := by decide +kernel
theorem dX7_gapOf_71 : decode cX7_gapOf 71 = .ok (.imul, 1) := by decide +kernel
theorem dX7_gapOf_72 : decode cX7_gapOf 72 = .ok (.iadd, 1) := by decide +kernel
theorem dX7_gapOf_73 : decode cX7_gapOf 73 = .ok (.goto 17, 3) := by decide +kernel
theorem dX7_gapOf_76 : decode cX7_gapOf 76 = .ok (.iconst 2, 1) := by decide +kernel
theorem dX7_gapOf_77 : decode cX7_gapOf 77 = .ok (.iload_n 3, 1) := by decide +kernel
theorem dX7_gapOf_78 : decode cX7_gapOf 78 = .ok (.imul, 1) := by decide +kernel
theorem dX7_gapOf_79 : decode cX7_gapOf 79 = .ok (.iload 4, 2) := by decide +kernel
theorem dX7_gapOf_81 : decode cX7_gapOf 81 = .ok (.imul, 1) := by decide +kernel
theorem dX7_gapOf_82 : decode cX7_gapOf 82 = .ok (.iconst 2, 1) := by decide +kernel
theorem dX7_gapOf_83 : decode cX7_gapOf 83 = .ok (.iload 5, 2) := by decide +kernel
theorem dX7_gapOf_85 : decode cX7_gapOf 85 = .ok (.imul, 1) := by decide +kernel
theorem dX7_gapOf_86 : decode cX7_gapOf 86 = .ok (.iload 6, 2) := by decide +kernel
theorem dX7_gapOf_88 : decode cX7_gapOf 88 = .ok (.imul, 1) := by decide +kernel
theorem dX7_gapOf_89 : decode cX7_gapOf 89 = .ok (.iadd, 1) := by decide +kernel
theorem dX7_gapOf_90 : decode cX7_gapOf 90 = .ok (.ireturn, 1) := by decide +kernel
theorem dX7_gap_0 : decode cX7_gap 0 = .ok (.iload_n 1, 1) := by decide +kernel
theorem dX7_gap_1 : decode cX7_gap 1 = .ok (.iconst 2, 1) := by decide +kernel
theorem dX7_gap_2 : decode cX7_gap 2 = .ok (.invokestatic 57, 3) := by decide +kernel
theorem dX7_gap_5 : decode cX7_gap 5 = .ok (.ifCond .ne 13, 3) := by decide +kernel
theorem dX7_gap_8 : decode cX7_gap 8 = .ok (.ldc 91, 2) := by decide +kernel
theorem dX7_gap_10 : decode cX7_gap 10 = .ok (.aload_n 0, 1) := by decide +kernel
theorem dX7_gap_11 : decode cX7_gap 11 = .ok (.bipush (-2), 2) := by decide +kernel
theorem dX7_gap_13 : decode cX7_gap 13 = .ok (.invokevirtual 44, 3) := by decide +kernel
theorem dX7_gap_16 : decode cX7_gap 16 = .ok (.isub, 1) := by decide +kernel
theorem dX7_gap_17 : decode cX7_gap 17 = .ok (.ireturn, 1) := by decide +kernel
theorem dX7_gap_18 : decode cX7_gap 18 = .ok (.aload_n 0, 1) := by decide +kernel
theorem dX7_gap_19 : decode cX7_gap 19 = .ok (.invokevirtual 92, 3) := by decide +kernel
theorem dX7_gap_22 : decode cX7_gap 22 = .ok (.aload_n 0, 1) := by decide +kernel
theorem dX7_gap_23 : decode cX7_gap 23 = .ok (.iload_n 1, 1) := by decide +kernel
theorem dX7_gap_24 : decode cX7_gap 24 = .ok (.invokevirtual 114, 3) := by decide +kernel
theorem dX7_gap_27 : decode cX7_gap 27 = .ok (.ireturn, 1) := by decide +kernel
theorem dX7_nearer_0 : decode cX7_nearer 0 = .ok (.iload_n 1, 1) := by decide +kernel
theorem dX7_nearer_1 : decode cX7_nearer 1 = .ok (.ldc 104, 2) := by decide +kernel
theorem dX7_nearer_3 : decode cX7_nearer 3 = .ok (.if_icmp .lt 9, 3) := by decide +kernel
theorem dX7_nearer_6 : decode cX7_nearer 6 = .ok (.iload_n 2, 1) := by decide +kernel
theorem dX7_nearer_7 : decode cX7_nearer 7 = .ok (.ldc 104, 2) := by decide +kernel
theorem dX7_nearer_9 : decode cX7_nearer 9 = .ok (.if_icmp .ge 10, 3) := by decide +kernel
theorem dX7_nearer_12 : decode cX7_nearer 12 = .ok (.aload_n 0, 1) := by decide +kernel
theorem dX7_nearer_13 : decode cX7_nearer 13 = .ok (.bipush (-4), 2) := by decide +kernel
theorem dX7_nearer_15 : decode cX7_nearer 15 = .ok (.invokevirtual 44, 3) := by decide +kernel
theorem dX7_nearer_18 : decode cX7_nearer 18 = .ok (.ireturn, 1) := by decide +kernel
theorem dX7_nearer_19 : decode cX7_nearer 19 = .ok (.iload_n 1, 1) := by decide +kernel
theorem dX7_nearer_20 : decode cX7_nearer 20 = .ok (.ldc 105, 2) := by decide +kernel
theorem dX7_nearer_22 : decode cX7_nearer 22 = .ok (.if_icmp .gt 9, 3) := by decide +kernel
theorem dX7_nearer_25 : decode cX7_nearer 25 = .ok (.iload_n 2, 1) := by decide +kernel
theorem dX7_nearer_26 : decode cX7_nearer 26 = .ok (.ldc 105, 2) := by decide +kernel
theorem dX7_nearer_28 : decode cX7_nearer 28 = .ok (.if_icmp .le 10, 3) := by decide +kernel
theorem dX7_nearer_31 : decode cX7_nearer 31 = .ok (.aload_n 0, 1) := by decide +kernel
theorem dX7_nearer_32 : decode cX7_nearer 32 = .ok (.bipush (-6), 2) := by decide +kernel
theorem dX7_nearer_34 : decode cX7_nearer 34 = .ok (.invokevirtual 44, 3) := by decide +kernel
theorem dX7_nearer_37 : decode cX7_nearer 37 = .ok (.ireturn, 1) := by decide +kernel
theorem dX7_nearer_38 : decode cX7_nearer 38 = .ok (.aload_n 0, 1) := by decide +kernel
theorem dX7_nearer_39 : decode cX7_nearer 39 = .ok (.invokevirtual 92, 3) := by decide +kernel
theorem dX7_nearer_42 : decode cX7_nearer 42 = .ok (.aload_n 0, 1) := by decide +kernel
theorem dX7_nearer_43 : decode cX7_nearer 43 = .ok (.iconst 0, 1) := by decide +kernel
theorem dX7_nearer_44 : decode cX7_nearer 44 = .ok (.invokevirtual 114, 3) := by decide +kernel
theorem dX7_nearer_47 : decode cX7_nearer 47 = .ok (.i2l, 1) := by decide +kernel
theorem dX7_nearer_48 : decode cX7_nearer 48 = .ok (.iload_n 1, 1) := by decide +kernel
theorem dX7_nearer_49 : decode cX7_nearer 49 = .ok (.i2l, 1) := by decide +kernel
theorem dX7_nearer_50 : decode cX7_nearer 50 = .ok (.lsub, 1) := by decide +kernel
theorem dX7_nearer_51 : decode cX7_nearer 51 = .ok (.aload_n 0, 1) := by decide +kernel
theorem dX7_nearer_52 : decode cX7_nearer 52 = .ok (.iconst 1, 1) := by decide +kernel
theorem dX7_nearer_53 : decode cX7_nearer 53 = .ok (.invokevirtual 114, 3) := by decide +kernel
theorem dX7_nearer_56 : decode cX7_nearer 56 = .ok (.i2l, 1) := by decide +kernel
theorem dX7_nearer_57 : decode cX7_nearer 57 = .ok (.iload_n 2, 1) := by decide +kernel
theorem dX7_nearer_58 : decode cX7_nearer 58 = .ok (.i2l, 1) := by decide +kernel
theorem dX7_nearer_59 : decode cX7_nearer 59 = .ok (.lsub, 1) := by decide +kernel
theorem dX7_nearer_60 : decode cX7_nearer 60 = .ok (.invokestatic 110, 3) := by decide +kernel
theorem dX7_nearer_63 : decode cX7_nearer 63 = .ok (.ifCond .ge 7, 3) := by decide +kernel
theorem dX7_nearer_66 : decode cX7_nearer 66 = .ok (.iconst 1, 1) := by decide +kernel
theorem dX7_nearer_67 : decode cX7_nearer 67 = .ok (.goto 4, 3) := by decide +kernel
theorem dX7_nearer_70 : decode cX7_nearer 70 = .ok (.iconst 0, 1) := by decide +kernel
theorem dX7_nearer_71 : decode cX7_nearer 71 = .ok (.ireturn, 1) := by decide +kernel
theorem dX7_table_0 : decode cX7_table 0 = .ok (.iload_n 1, 1) := by decide +kernel
theorem dX7_table_1 : decode cX7_table 1 = .ok (.iconst 4, 1) := by decide +kernel
theorem dX7_table_2 : decode cX7_table 2 = .ok (.invokestatic 57, 3) := by decide +kernel
theorem dX7_table_5 : decode cX7_table 5 = .ok (.ifCond .ne 13, 3) := by decide +kernel
theorem dX7_table_8 : decode cX7_table 8 = .ok (.ldc 91, 2) := by decide +kernel
theorem dX7_table_10 : decode cX7_table 10 = .ok (.aload_n 0, 1) := by decide +kernel
theorem dX7_table_11 : decode cX7_table 11 = .ok (.bipush (-2), 2) := by decide +kernel
theorem dX7_table_13 : decode cX7_table 13 = .ok (.invokevirtual 44, 3) := by decide +kernel
theorem dX7_table_16 : decode cX7_table 16 = .ok (.isub, 1) := by decide +kernel
theorem dX7_table_17 : decode cX7_table 17 = .ok (.ireturn, 1) := by decide +kernel
theorem dX7_table_18 : decode cX7_table 18 = .ok (.iload_n 2, 1) := by decide +kernel
theorem dX7_table_19 : decode cX7_table 19 = .ok (.sipush (-400), 3) := by decide +kernel
theorem dX7_table_22 : decode cX7_table 22 = .ok (.sipush 400, 3) := by decide +kernel
theorem dX7_table_25 : decode cX7_table 25 = .ok (.invokestatic 61, 3) := by decide +kernel
theorem dX7_table_28 : decode cX7_table 28 = .ok (.istore_n 3, 1) := by decide +kernel
theorem dX7_table_29 : decode cX7_table 29 = .ok (.iload_n 3, 1) := by decide +kernel
theorem dX7_table_30 : decode cX7_table 30 = .ok (.ifCond .eq 12, 3) := by decide +kernel
theorem dX7_table_33 : decode cX7_table 33 = .ok (.ldc 91, 2) := by decide +kernel
theorem dX7_table_35 : decode cX7_table 35 = .ok (.aload_n 0, 1) := by decide +kernel
theorem dX7_table_36 : decode cX7_table 36 = .ok (.iload_n 3, 1) := by decide +kernel
theorem dX7_table_37 : decode cX7_table 37 = .ok (.invokevirtual 44, 3) := by decide +kernel
theorem dX7_table_40 : decode cX7_table 40 = .ok (.isub, 1) := by decide +kernel
theorem dX7_table_41 : decode cX7_table 41 = .ok (.ireturn, 1) := by decide +kernel
theorem dX7_table_42 : decode cX7_table 42 = .ok (.aload_n 0, 1) := by decide +kernel
theorem dX7_table_43 : decode cX7_table 43 = .ok (.getfield 13, 3) := by decide +kernel
theorem dX7_table_46 : decode cX7_table 46 = .ok (.bipush 14, 2) := by decide +kernel
theorem dX7_table_48 : decode cX7_table 48 = .ok (.iload_n 1, 1) := by decide +kernel
theorem dX7_table_49 : decode cX7_table 49 = .ok (.iadd, 1) := by decide +kernel
theorem dX7_table_50 : decode cX7_table 50 = .ok (.iaload, 1) := by decide +kernel
theorem dX7_table_51 : decode cX7_table 51 = .ok (.istore 4, 2) := by decide +kernel
theorem dX7_table_53 : decode cX7_table 53 = .ok (.aload_n 0, 1) := by decide +kernel
theorem dX7_table_54 : decode cX7_table 54 = .ok (.getfield 13, 3) := by decide +kernel
theorem dX7_table_57 : decode cX7_table 57 = .ok (.bipush 14, 2) := by decide +kernel
theorem dX7_table_59 : decode cX7_table 59 = .ok (.iload_n 1, 1) := by decide +kernel
theorem dX7_table_60 : decode cX7_table 60 = .ok (.iadd, 1) := by decide +kernel
theorem dX7_table_61 : decode cX7_table 61 = .ok (.iload_n 2, 1) := by decide +kernel
theorem dX7_table_62 : decode cX7_table 62 = .ok (.iastore, 1) := by decide +kernel
theorem dX7_table_63 : decode cX7_table 63 = .ok (.iload 4, 2) := by decide +kernel
theorem dX7_table_65 : decode cX7_table 65 = .ok (.ireturn, 1) := by decide +kernel
theorem dX7_leg_0 : decode cX7_leg 0 = .ok (.iload_n 1, 1) := by decide +kernel
theorem dX7_leg_1 : decode cX7_leg 1 = .ok (.sipush (-400), 3) := by decide +kernel
theorem dX7_leg_4 : decode cX7_leg 4 = .ok (.if_icmp .lt 10, 3) := by decide +kernel
theorem dX7_leg_7 : decode cX7_leg 7 = .ok (.iload_n 2, 1) := by decide +kernel
theorem dX7_leg_8 : decode cX7_leg 8 = .ok (.sipush (-400), 3) := by decide +kernel
theorem dX7_leg_11 : decode cX7_leg 11 = .ok (.if_icmp .ge 10, 3) := by decide +kernel
theorem dX7_leg_14 : decode cX7_leg 14 = .ok (.aload_n 0, 1) := by decide +kernel
theorem dX7_leg_15 : decode cX7_leg 15 = .ok (.bipush (-4), 2) := by decide +kernel
theorem dX7_leg_17 : decode cX7_leg 17 = .ok (.invokevirtual 44, 3) := by decide +kernel
theorem dX7_leg_20 : decode cX7_leg 20 = .ok (.ireturn, 1) := by decide +kernel
theorem dX7_leg_21 : decode cX7_leg 21 = .ok (.iload_n 1, 1) := by decide +kernel
theorem dX7_leg_22 : decode cX7_leg 22 = .ok (.sipush 400, 3) := by decide +kernel
theorem dX7_leg_25 : decode cX7_leg 25 = .ok (.if_icmp .gt 22, 3) := by decide +kernel
theorem dX7_leg_28 : decode cX7_leg 28 = .ok (.iload_n 2, 1) := by decide +kernel
theorem dX7_leg_29 : decode cX7_leg 29 = .ok (.sipush 400, 3) := by decide +kernel
theorem dX7_leg_32 : decode cX7_leg 32 = .ok (.if_icmp .gt 15, 3) := by decide +kernel
theorem dX7_leg_35 : decode cX7_leg 35 = .ok (.aload_n 0, 1) := by decide +kernel
theorem dX7_leg_36 : decode cX7_leg 36 = .ok (.getfield 13, 3) := by decide +kernel
theorem dX7_leg_39 : decode cX7_leg 39 = .ok (.bipush 30, 2) := by decide +kernel
theorem dX7_leg_41 : decode cX7_leg 41 = .ok (.iaload, 1) := by decide +kernel
theorem dX7_leg_42 : decode cX7_leg 42 = .ok (.bipush 6, 2) := by decide +kernel
theorem dX7_leg_44 : decode cX7_leg 44 = .ok (.if_icmp .ne 10, 3) := by decide +kernel
theorem dX7_leg_47 : decode cX7_leg 47 = .ok (.aload_n 0, 1) := by decide +kernel
theorem dX7_leg_48 : decode cX7_leg 48 = .ok (.bipush (-6), 2) := by decide +kernel
theorem dX7_leg_50 : decode cX7_leg 50 = .ok (.invokevirtual 44, 3) := by decide +kernel
theorem dX7_leg_53 : decode cX7_leg 53 = .ok (.ireturn, 1) := by decide +kernel
theorem dX7_leg_54 : decode cX7_leg 54 = .ok (.aload_n 0, 1) := by decide +kernel
theorem dX7_leg_55 : decode cX7_leg 55 = .ok (.getfield 13, 3) := by decide +kernel
theorem dX7_leg_58 : decode cX7_leg 58 = .ok (.bipush 18, 2) := by decide +kernel
theorem dX7_leg_60 : decode cX7_leg 60 = .ok (.iconst 2, 1) := by decide +kernel
theorem dX7_leg_61 : decode cX7_leg 61 = .ok (.aload_n 0, 1) := by decide +kernel
theorem dX7_leg_62 : decode cX7_leg 62 = .ok (.getfield 13, 3) := by decide +kernel
theorem dX7_leg_65 : decode cX7_leg 65 = .ok (.bipush 30, 2) := by decide +kernel
theorem dX7_leg_67 : decode cX7_leg 67 = .ok (.iaload, 1) := by decide +kernel
theorem dX7_leg_68 : decode cX7_leg 68 = .ok (.imul, 1) := by decide +kernel
theorem dX7_leg_69 : decode cX7_leg 69 = .ok (.iadd, 1) := by decide +kernel
theorem dX7_leg_70 : decode cX7_leg 70 = .ok (.iload_n 1, 1) := by decide +kernel
theorem dX7_leg_71 : decode cX7_leg 71 = .ok (.iastore, 1) := by decide +kernel
theorem dX7_leg_72 : decode cX7_leg 72 = .ok (.aload_n 0, 1) := by decide +kernel
theorem dX7_leg_73 : decode cX7_leg 73 = .ok (.getfield 13, 3) := by decide +kernel
theorem dX7_leg_76 : decode cX7_leg 76 = .ok (.bipush 18, 2) := by decide +kernel
theorem dX7_leg_78 : decode cX7_leg 78 = .ok (.iconst 2, 1) := by decide +kernel
theorem dX7_leg_79 : decode cX7_leg 79 = .ok (.aload_n 0, 1) := by decide +kernel
theorem dX7_leg_80 : decode cX7_leg 80 = .ok (.getfield 13, 3) := by decide +kernel
theorem dX7_leg_83 : decode cX7_leg 83 = .ok (.bipush 30, 2) := by decide +kernel
theorem dX7_leg_85 : decode cX7_leg 85 = .ok (.iaload, 1) := by decide +kernel
theorem dX7_leg_86 : decode cX7_leg 86 = .ok (.imul, 1) := by decide +kernel
theorem dX7_leg_87 : decode cX7_leg 87 = .ok (.iadd, 1) := by decide +kernel
theorem dX7_leg_88 : decode cX7_leg 88 = .ok (.iconst 1, 1) := by decide +kernel
theorem dX7_leg_89 : decode cX7_leg 89 = .ok (.iadd, 1) := by decide +kernel
theorem dX7_leg_90 : decode cX7_leg 90 = .ok (.iload_n 2, 1) := by decide +kernel
theorem dX7_leg_91 : decode cX7_leg 91 = .ok (.iastore, 1) := by decide +kernel
theorem dX7_leg_92 : decode cX7_leg 92 = .ok (.aload_n 0, 1) := by decide +kernel
theorem dX7_leg_93 : decode cX7_leg 93 = .ok (.getfield 13, 3) := by decide +kernel
theorem dX7_leg_96 : decode cX7_leg 96 = .ok (.bipush 30, 2) := by decide +kernel
theorem dX7_leg_98 : decode cX7_leg 98 = .ok (.dup2, 1) := by decide +kernel
theorem dX7_leg_99 : decode cX7_leg 99 = .ok (.iaload, 1) := by decide +kernel
theorem dX7_leg_100 : decode cX7_leg 100 = .ok (.iconst 1, 1) := by decide +kernel
theorem dX7_leg_101 : decode cX7_leg 101 = .ok (.iadd, 1) := by decide +kernel
theorem dX7_leg_102 : decode cX7_leg 102 = .ok (.iastore, 1) := by decide +kernel
theorem dX7_leg_103 : decode cX7_leg 103 = .ok (.aload_n 0, 1) := by decide +kernel
theorem dX7_leg_104 : decode cX7_leg 104 = .ok (.getfield 13, 3) := by decide +kernel
theorem dX7_leg_107 : decode cX7_leg 107 = .ok (.bipush 30, 2) := by decide +kernel
theorem dX7_leg_109 : decode cX7_leg 109 = .ok (.iaload, 1) := by decide +kernel
theorem dX7_leg_110 : decode cX7_leg 110 = .ok (.ireturn, 1) := by decide +kernel
theorem dX7_isOn_0 : decode cX7_isOn 0 = .ok (.iconst 5, 1) := by decide +kernel
theorem dX7_isOn_1 : decode cX7_isOn 1 = .ok (.iload_n 1, 1) := by decide +kernel
theorem dX7_isOn_2 : decode cX7_isOn 2 = .ok (.imul, 1) := by decide +kernel
theorem dX7_isOn_3 : decode cX7_isOn 3 = .ok (.istore_n 2, 1) := by decide +kernel
theorem dX7_isOn_4 : decode cX7_isOn 4 = .ok (.aload_n 0, 1) := by decide +kernel
theorem dX7_isOn_5 : decode cX7_isOn 5 = .ok (.getfield 22, 3) := by decide +kernel
theorem dX7_isOn_8 : decode cX7_isOn 8 = .ok (.iload_n 2, 1) := by decide +kernel
theorem dX7_isOn_9 : decode cX7_isOn 9 = .ok (.iaload, 1) := by decide +kernel
theorem dX7_isOn_10 : decode cX7_isOn 10 = .ok (.i2l, 1) := by decide +kernel
theorem dX7_isOn_11 : decode cX7_isOn 11 = .ok (.aload_n 0, 1) := by decide +kernel
theorem dX7_isOn_12 : decode cX7_isOn 12 = .ok (.getfield 13, 3) := by decide +kernel
theorem dX7_isOn_15 : decode cX7_isOn 15 = .ok (.bipush 14, 2) := by decide +kernel
theorem dX7_isOn_17 : decode cX7_isOn 17 = .ok (.iaload, 1) := by decide +kernel
theorem dX7_isOn_18 : decode cX7_isOn 18 = .ok (.i2l, 1) := by decide +kernel
theorem dX7_isOn_19 : decode cX7_isOn 19 = .ok (.lsub, 1) := by decide +kernel
theorem dX7_isOn_20 : decode cX7_isOn 20 = .ok (.aload_n 0, 1) := by decide +kernel
theorem dX7_isOn_21 : decode cX7_isOn 21 = .ok (.getfield 22, 3) := by decide +kernel
theorem dX7_isOn_24 : decode cX7_isOn 24 = .ok (.iload_n 2, 1) := by decide +kernel
theorem dX7_isOn_25 : decode cX7_isOn 25 = .ok (.iconst 1, 1) := by decide +kernel
theorem dX7_isOn_26 : decode cX7_isOn 26 = .ok (.iadd, 1) := by decide +kernel
theorem dX7_isOn_27 : decode cX7_isOn 27 = .ok (.iaload, 1) := by decide +kernel
theorem dX7_isOn_28 : decode cX7_isOn 28 = .ok (.i2l, 1) := by decide +kernel
theorem dX7_isOn_29 : decode cX7_isOn 29 = .ok (.invokestatic 110, 3) := by decide +kernel
theorem dX7_isOn_32 : decode cX7_isOn 32 = .ok (.ifCond .lt 34, 3) := by decide +kernel
theorem dX7_isOn_35 : decode cX7_isOn 35 = .ok (.aload_n 0, 1) := by decide +kernel
theorem dX7_isOn_36 : decode cX7_isOn 36 = .ok (.getfield 22, 3) := by decide +kernel
theorem dX7_isOn_39 : decode cX7_isOn 39 = .ok (.iload_n 2, 1) := by decide +kernel
theorem dX7_isOn_40 : decode cX7_isOn 40 = .ok (.iaload, 1) := by decide +kernel
theorem dX7_isOn_41 : decode cX7_isOn 41 = .ok (.i2l, 1) := by decide +kernel
theorem dX7_isOn_42 : decode cX7_isOn 42 = .ok (.aload_n 0, 1) := by decide +kernel
theorem dX7_isOn_43 : decode cX7_isOn 43 = .ok (.getfield 13, 3) := by decide +kernel
theorem dX7_isOn_46 : decode cX7_isOn 46 = .ok (.bipush 15, 2) := by decide +kernel
theorem dX7_isOn_48 : decode cX7_isOn 48 = .ok (.iaload, 1) := by decide +kernel
theorem dX7_isOn_49 : decode cX7_isOn 49 = .ok (.i2l, 1) := by decide +kernel
theorem dX7_isOn_50 : decode cX7_isOn 50 = .ok (.lsub, 1) := by decide +kernel
theorem dX7_isOn_51 : decode cX7_isOn 51 = .ok (.aload_n 0, 1) := by decide +kernel
theorem dX7_isOn_52 : decode cX7_isOn 52 = .ok (.getfield 22, 3) := by decide +kernel
theorem dX7_isOn_55 : decode cX7_isOn 55 = .ok (.iload_n 2, 1) := by decide +kernel
theorem dX7_isOn_56 : decode cX7_isOn 56 = .ok (.iconst 1, 1) := by decide +kernel
theorem dX7_isOn_57 : decode cX7_isOn 57 = .ok (.iadd, 1) := by decide +kernel
theorem dX7_isOn_58 : decode cX7_isOn 58 = .ok (.iaload, 1) := by decide +kernel
theorem dX7_isOn_59 : decode cX7_isOn 59 = .ok (.i2l, 1) := by decide +kernel
theorem dX7_isOn_60 : decode cX7_isOn 60 = .ok (.invokestatic 110, 3) := by decide +kernel
theorem dX7_isOn_63 : decode cX7_isOn 63 = .ok (.ifCond .le 5, 3) := by decide +kernel
theorem dX7_isOn_66 : decode cX7_isOn 66 = .ok (.iconst 0, 1) := by decide +kernel
theorem dX7_isOn_67 : decode cX7_isOn 67 = .ok (.ireturn, 1) := by decide +kernel
theorem dX7_isOn_68 : decode cX7_isOn 68 = .ok (.aload_n 0, 1) := by decide +kernel
theorem dX7_isOn_69 : decode cX7_isOn 69 = .ok (.getfield 22, 3) := by decide +kernel
theorem dX7_isOn_72 : decode cX7_isOn 72 = .ok (.iload_n 2, 1) := by decide +kernel
theorem dX7_isOn_73 : decode cX7_isOn 73 = .ok (.iconst 2, 1) := by decide +kernel
theorem dX7_isOn_74 : decode cX7_isOn 74 = .ok (.iadd, 1) := by decide +kernel
theorem dX7_isOn_75 : decode cX7_isOn 75 = .ok (.iaload, 1) := by decide +kernel
theorem dX7_isOn_76 : decode cX7_isOn 76 = .ok (.i2l, 1) := by decide +kernel
theorem dX7_isOn_77 : decode cX7_isOn 77 = .ok (.aload_n 0, 1) := by decide +kernel
theorem dX7_isOn_78 : decode cX7_isOn 78 = .ok (.getfield 13, 3) := by decide +kernel
theorem dX7_isOn_81 : decode cX7_isOn 81 = .ok (.bipush 16, 2) := by decide +kernel
theorem dX7_isOn_83 : decode cX7_isOn 83 = .ok (.iaload, 1) := by decide +kernel
theorem dX7_isOn_84 : decode cX7_isOn 84 = .ok (.i2l, 1) := by decide +kernel
theorem dX7_isOn_85 : decode cX7_isOn 85 = .ok (.lsub, 1) := by decide +kernel
theorem dX7_isOn_86 : decode cX7_isOn 86 = .ok (.aload_n 0, 1) := by decide +kernel
theorem dX7_isOn_87 : decode cX7_isOn 87 = .ok (.getfield 22, 3) := by decide +kernel
theorem dX7_isOn_90 : decode cX7_isOn 90 = .ok (.iload_n 2, 1) := by decide +kernel
theorem dX7_isOn_91 : decode cX7_isOn 91 = .ok (.iconst 3, 1) := by decide +kernel
theorem dX7_isOn_92 : decode cX7_isOn 92 = .ok (.iadd, 1) := by decide +kernel
theorem dX7_isOn_93 : decode cX7_isOn 93 = .ok (.iaload, 1) := by decide +kernel
theorem dX7_isOn_94 : decode cX7_isOn 94 = .ok (.i2l, 1) := by decide +kernel
theorem dX7_isOn_95 : decode cX7_isOn 95 = .ok (.invokestatic 110, 3) := by decide +kernel
theorem dX7_isOn_98 : decode cX7_isOn 98 = .ok (.ifCond .lt 36, 3) := by decide +kernel
theorem dX7_isOn_101 : decode cX7_isOn 101 = .ok (.aload_n 0, 1) := by decide +kernel
theorem dX7_isOn_102 : decode cX7_isOn 102 = .ok (.getfield 22, 3) := by decide +kernel
theorem dX7_isOn_105 : decode cX7_isOn 105 = .ok (.iload_n 2, 1) := by decide +kernel
theorem dX7_isOn_106 : decode cX7_isOn 106 = .ok (.iconst 2, 1) := by decide +kernel
theorem dX7_isOn_107 : decode cX7_isOn 107 = .ok (.iadd, 1) := by decide +kernel
theorem dX7_isOn_108 : decode cX7_isOn 108 = .ok (.iaload, 1) := by decide +kernel
theorem dX7_isOn_109 : decode cX7_isOn 109 = .ok (.i2l, 1) := by decide +kernel
theorem dX7_isOn_110 : decode cX7_isOn 110 = .ok (.aload_n 0, 1) := by decide +kernel
theorem dX7_isOn_111 : decode cX7_isOn 111 = .ok (.getfield 13, 3) := by decide +kernel
theorem dX7_isOn_114 : decode cX7_isOn 114 = .ok (.bipush 17, 2) := by decide +kernel
theorem dX7_isOn_116 : decode cX7_isOn 116 = .ok (.iaload, 1) := by decide +kernel
theorem dX7_isOn_117 : decode cX7_isOn 117 = .ok (.i2l, 1) := by decide +kernel
theorem dX7_isOn_118 : decode cX7_isOn 118 = .ok (.lsub, 1) := by decide +kernel
theorem dX7_isOn_119 : decode cX7_isOn 119 = .ok (.aload_n 0, 1) := by decide +kernel
theorem dX7_isOn_120 : decode cX7_isOn 120 = .ok (.getfield 22, 3) := by decide +kernel
theorem dX7_isOn_123 : decode cX7_isOn 123 = .ok (.iload_n 2, 1) := by decide +kernel
theorem dX7_isOn_124 : decode cX7_isOn 124 = .ok (.iconst 3, 1) := by decide +kernel
theorem dX7_isOn_125 : decode cX7_isOn 125 = .ok (.iadd, 1) := by decide +kernel
theorem dX7_isOn_126 : decode cX7_isOn 126 = .ok (.iaload, 1) := by decide +kernel
theorem dX7_isOn_127 : decode cX7_isOn 127 = .ok (.i2l, 1) := by decide +kernel
theorem dX7_isOn_128 : decode cX7_isOn 128 = .ok (.invokestatic 110, 3) := by decide +kernel
theorem dX7_isOn_131 : decode cX7_isOn 131 = .ok (.ifCond .le 5, 3) := by decide +kernel
theorem dX7_isOn_134 : decode cX7_isOn 134 = .ok (.iconst 0, 1) := by decide +kernel
theorem dX7_isOn_135 : decode cX7_isOn 135 = .ok (.ireturn, 1) := by decide +kernel
theorem dX7_isOn_136 : decode cX7_isOn 136 = .ok (.aload_n 0, 1) := by decide +kernel
theorem dX7_isOn_137 : decode cX7_isOn 137 = .ok (.getfield 22, 3) := by decide +kernel
theorem dX7_isOn_140 : decode cX7_isOn 140 = .ok (.iload_n 2, 1) := by decide +kernel
theorem dX7_isOn_141 : decode cX7_isOn 141 = .ok (.iconst 1, 1) := by decide +kernel
theorem dX7_isOn_142 : decode cX7_isOn 142 = .ok (.iadd, 1) := by decide +kernel
theorem dX7_isOn_143 : decode cX7_isOn 143 = .ok (.iaload, 1) := by decide +kernel
theorem dX7_isOn_144 : decode cX7_isOn 144 = .ok (.ifCond .ne 14, 3) := by decide +kernel
theorem dX7_isOn_147 : decode cX7_isOn 147 = .ok (.aload_n 0, 1) := by decide +kernel
theorem dX7_isOn_148 : decode cX7_isOn 148 = .ok (.getfield 22, 3) := by decide +kernel
theorem dX7_isOn_151 : decode cX7_isOn 151 = .ok (.iload_n 2, 1) := by decide +kernel
theorem dX7_isOn_152 : decode cX7_isOn 152 = .ok (.iconst 3, 1) := by decide +kernel
theorem dX7_isOn_153 : decode cX7_isOn 153 = .ok (.iadd, 1) := by decide +kernel
theorem dX7_isOn_154 : decode cX7_isOn 154 = .ok (.iaload, 1) := by decide +kernel
theorem dX7_isOn_155 : decode cX7_isOn 155 = .ok (.ifCond .eq 5, 3) := by decide +kernel
theorem dX7_isOn_158 : decode cX7_isOn 158 = .ok (.iconst 1, 1) := by decide +kernel
theorem dX7_isOn_159 : decode cX7_isOn 159 = .ok (.ireturn, 1) := by decide +kernel
theorem dX7_isOn_160 : decode cX7_isOn 160 = .ok (.iconst 0, 1) := by decide +kernel
theorem dX7_isOn_161 : decode cX7_isOn 161 = .ok (.istore_n 3, 1) := by decide +kernel
theorem dX7_isOn_162 : decode cX7_isOn 162 = .ok (.iload_n 3, 1) := by decide +kernel
theorem dX7_isOn_163 : decode cX7_isOn 163 = .ok (.aload_n 0, 1) := by decide +kernel
theorem dX7_isOn_164 : decode cX7_isOn 164 = .ok (.getfield 13, 3) := by decide +kernel
theorem dX7_isOn_167 : decode cX7_isOn 167 = .ok (.bipush 30, 2) := by decide +kernel
theorem dX7_isOn_169 : decode cX7_isOn 169 = .ok (.iaload, 1) := by decide +kernel
theorem dX7_isOn_170 : decode cX7_isOn 170 = .ok (.if_icmp .ge 55, 3) := by decide +kernel
theorem dX7_isOn_173 : decode cX7_isOn 173 = .ok (.aload_n 0, 1) := by decide +kernel
theorem dX7_isOn_174 : decode cX7_isOn 174 = .ok (.getfield 13, 3) := by decide +kernel
theorem dX7_isOn_177 : decode cX7_isOn 177 = .ok (.bipush 18, 2) := by decide +kernel
theorem dX7_isOn_179 : decode cX7_isOn 179 = .ok (.iconst 2, 1) := by decide +kernel
theorem dX7_isOn_180 : decode cX7_isOn 180 = .ok (.iload_n 3, 1) := by decide +kernel
theorem dX7_isOn_181 : decode cX7_isOn 181 = .ok (.imul, 1) := by decide +kernel
theorem dX7_isOn_182 : decode cX7_isOn 182 = .ok (.iadd, 1) := by decide +kernel
theorem dX7_isOn_183 : decode cX7_isOn 183 = .ok (.iaload, 1) := by decide +kernel
theorem dX7_isOn_184 : decode cX7_isOn 184 = .ok (.aload_n 0, 1) := by decide +kernel
theorem dX7_isOn_185 : decode cX7_isOn 185 = .ok (.getfield 22, 3) := by decide +kernel
theorem dX7_isOn_188 : decode cX7_isOn 188 = .ok (.iload_n 2, 1) := by decide +kernel
theorem dX7_isOn_189 : decode cX7_isOn 189 = .ok (.iaload, 1) := by decide +kernel
theorem dX7_isOn_190 : decode cX7_isOn 190 = .ok (.if_icmp .ne 29, 3) := by decide +kernel
theorem dX7_isOn_193 : decode cX7_isOn 193 = .ok (.aload_n 0, 1) := by decide +kernel
theorem dX7_isOn_194 : decode cX7_isOn 194 = .ok (.getfield 13, 3) := by decide +kernel
theorem dX7_isOn_197 : decode cX7_isOn 197 = .ok (.bipush 18, 2) := by decide +kernel
theorem dX7_isOn_199 : decode cX7_isOn 199 = .ok (.iconst 2, 1) := by decide +kernel
theorem dX7_isOn_200 : decode cX7_isOn 200 = .ok (.iload_n 3, 1) := by decide +kernel
theorem dX7_isOn_201 : decode cX7_isOn 201 = .ok (.imul, 1) := by decide +kernel
theorem dX7_isOn_202 : decode cX7_isOn 202 = .ok (.iadd, 1) := by decide +kernel
theorem dX7_isOn_203 : decode cX7_isOn 203 = .ok (.iconst 1, 1) := by decide +kernel
theorem dX7_isOn_204 : decode cX7_isOn 204 = .ok (.iadd, 1) := by decide +kernel
theorem dX7_isOn_205 : decode cX7_isOn 205 = .ok (.iaload, 1) := by decide +kernel
theorem dX7_isOn_206 : decode cX7_isOn 206 = .ok (.aload_n 0, 1) := by decide +kernel
theorem dX7_isOn_207 : decode cX7_isOn 207 = .ok (.getfield 22, 3) := by decide +kernel
theorem dX7_isOn_210 : decode cX7_isOn 210 = .ok (.iload_n 2, 1) := by decide +kernel
theorem dX7_isOn_211 : decode cX7_isOn 211 = .ok (.iconst 2, 1) := by decide +kernel
theorem dX7_isOn_212 : decode cX7_isOn 212 = .ok (.iadd, 1) := by decide +kernel
theorem dX7_isOn_213 : decode cX7_isOn 213 = .ok (.iaload, 1) := by decide +kernel
theorem dX7_isOn_214 : decode cX7_isOn 214 = .ok (.if_icmp .ne 5, 3) := by decide +kernel
theorem dX7_isOn_217 : decode cX7_isOn 217 = .ok (.iconst 0, 1) := by decide +kernel
theorem dX7_isOn_218 : decode cX7_isOn 218 = .ok (.ireturn, 1) := by decide +kernel
theorem dX7_isOn_219 : decode cX7_isOn 219 = .ok (.iinc 3 1, 3) := by decide +kernel
theorem dX7_isOn_222 : decode cX7_isOn 222 = .ok (.goto (-60), 3) := by decide +kernel
theorem dX7_isOn_225 : decode cX7_isOn 225 = .ok (.iconst 1, 1) := by decide +kernel
theorem dX7_isOn_226 : decode cX7_isOn 226 = .ok (.ireturn, 1) := by decide +kernel
theorem dX7_offOf_0 : decode cX7_offOf 0 = .ok (.iconst 0, 1) := by decide +kernel
theorem dX7_offOf_1 : decode cX7_offOf 1 = .ok (.istore_n 1, 1) := by decide +kernel
theorem dX7_offOf_2 : decode cX7_offOf 2 = .ok (.iload_n 1, 1) := by decide +kernel
theorem dX7_offOf_3 : decode cX7_offOf 3 = .ok (.aload_n 0, 1) := by decide +kernel
theorem dX7_offOf_4 : decode cX7_offOf 4 = .ok (.getfield 84, 3) := by decide +kernel
theorem dX7_offOf_7 : decode cX7_offOf 7 = .ok (.if_icmp .gt 19, 3) := by decide +kernel
theorem dX7_offOf_10 : decode cX7_offOf 10 = .ok (.aload_n 0, 1) := by decide +kernel
theorem dX7_offOf_11 : decode cX7_offOf 11 = .ok (.iload_n 1, 1) := by decide +kernel
theorem dX7_offOf_12 : decode cX7_offOf 12 = .ok (.invokevirtual 117, 3) := by decide +kernel
theorem dX7_offOf_15 : decode cX7_offOf 15 = .ok (.ifCond .ne 5, 3) := by decide +kernel
theorem dX7_offOf_18 : decode cX7_offOf 18 = .ok (.iload_n 1, 1) := by decide +kernel
theorem dX7_offOf_19 : decode cX7_offOf 19 = .ok (.ireturn, 1) := by decide +kernel
theorem dX7_offOf_20 : decode cX7_offOf 20 = .ok (.iinc 1 1, 3) := by decide +kernel
theorem dX7_offOf_23 : decode cX7_offOf 23 = .ok (.goto (-21), 3) := by decide +kernel
theorem dX7_offOf_26 : decode cX7_offOf 26 = .ok (.bipush (-9), 2) := by decide +kernel
theorem dX7_offOf_28 : decode cX7_offOf 28 = .ok (.ireturn, 1) := by decide +kernel
theorem dX7_isCrossed_0 : decode cX7_isCrossed 0 = .ok (.iload_n 1, 1) := by decide +kernel
theorem dX7_isCrossed_1 : decode cX7_isCrossed 1 = .ok (.ifCond .le 20, 3) := by decide +kernel
theorem dX7_isCrossed_4 : decode cX7_isCrossed 4 = .ok (.aload_n 0, 1) := by decide +kernel
theorem dX7_isCrossed_5 : decode cX7_isCrossed 5 = .ok (.getfield 25, 3) := by decide +kernel
theorem dX7_isCrossed_8 : decode cX7_isCrossed 8 = .ok (.iload_n 1, 1) := by decide +kernel
theorem dX7_isCrossed_9 : decode cX7_isCrossed 9 = .ok (.iconst 1, 1) := by decide +kernel
theorem dX7_isCrossed_10 : decode cX7_isCrossed 10 = .ok (.isub, 1) := by decide +kernel
theorem dX7_isCrossed_11 : decode cX7_isCrossed 11 = .ok (.iaload, 1) := by decide +kernel
theorem dX7_isCrossed_12 : decode cX7_isCrossed 12 = .ok (.bipush 9, 2) := by decide +kernel
theorem dX7_isCrossed_14 : decode cX7_isCrossed 14 = .ok (.if_icmp .ne 7, 3) := by decide +kernel
theorem dX7_isCrossed_17 : decode cX7_isCrossed 17 = .ok (.iconst 1, 1) := by decide +kernel
theorem dX7_isCrossed_18 : decode cX7_isCrossed 18 = .ok (.goto 4, 3) := by decide +kernel
theorem dX7_isCrossed_21 : decode cX7_isCrossed 21 = .ok (.iconst 0, 1) := by decide +kernel
theorem dX7_isCrossed_22 : decode cX7_isCrossed 22 = .ok (.ireturn, 1) := by decide +kernel
theorem dX7_touchOf_0 : decode cX7_touchOf 0 = .ok (.aload_n 0, 1) := by decide +kernel
theorem dX7_touchOf_1 : decode cX7_touchOf 1 = .ok (.invokevirtual 98, 3) := by decide +kernel
theorem dX7_touchOf_4 : decode cX7_touchOf 4 = .ok (.istore_n 1, 1) := by decide +kernel
theorem dX7_touchOf_5 : decode cX7_touchOf 5 = .ok (.iconst 1, 1) := by decide +kernel
theorem dX7_touchOf_6 : decode cX7_touchOf 6 = .ok (.istore_n 2, 1) := by decide +kernel
theorem dX7_touchOf_7 : decode cX7_touchOf 7 = .ok (.iload_n 2, 1) := by decide +kernel
theorem dX7_touchOf_8 : decode cX7_touchOf 8 = .ok (.aload_n 0, 1) := by decide +kernel
theorem dX7_touchOf_9 : decode cX7_touchOf 9 = .ok (.getfield 84, 3) := by decide +kernel
theorem dX7_touchOf_12 : decode cX7_touchOf 12 = .ok (.if_icmp .gt 68, 3) := by decide +kernel
theorem dX7_touchOf_15 : decode cX7_touchOf 15 = .ok (.iconst 0, 1) := by decide +kernel
theorem dX7_touchOf_16 : decode cX7_touchOf 16 = .ok (.istore_n 3, 1) := by decide +kernel
theorem dX7_touchOf_17 : decode cX7_touchOf 17 = .ok (.iload_n 3, 1) := by decide +kernel
theorem dX7_touchOf_18 : decode cX7_touchOf 18 = .ok (.iload_n 2, 1) := by decide +kernel
theorem dX7_touchOf_19 : decode cX7_touchOf 19 = .ok (.if_icmp .ge 55, 3) := by decide +kernel
theorem dX7_touchOf_22 : decode cX7_touchOf 22 = .ok (.aload_n 0, 1) := by decide +kernel
theorem dX7_touchOf_23 : decode cX7_touchOf 23 = .ok (.iload_n 3, 1) := by decide +kernel
theorem dX7_touchOf_24 : decode cX7_touchOf 24 = .ok (.iload_n 2, 1) := by decide +kernel
theorem dX7_touchOf_25 : decode cX7_touchOf 25 = .ok (.invokevirtual 95, 3) := by decide +kernel
theorem dX7_touchOf_28 : decode cX7_touchOf 28 = .ok (.ifCond .eq 40, 3) := by decide +kernel
theorem dX7_touchOf_31 : decode cX7_touchOf 31 = .ok (.iload_n 1, 1) := by decide +kernel
theorem dX7_touchOf_32 : decode cX7_touchOf 32 = .ok (.ifCond .eq 15, 3) := by decide +kernel
theorem dX7_touchOf_35 : decode cX7_touchOf 35 = .ok (.iload_n 3, 1) := by decide +kernel
theorem dX7_touchOf_36 : decode cX7_touchOf 36 = .ok (.ifCond .ne 11, 3) := by decide +kernel
theorem dX7_touchOf_39 : decode cX7_touchOf 39 = .ok (.iload_n 2, 1) := by decide +kernel
theorem dX7_touchOf_40 : decode cX7_touchOf 40 = .ok (.aload_n 0, 1) := by decide +kernel
theorem dX7_touchOf_41 : decode cX7_touchOf 41 = .ok (.getfield 84, 3) := by decide +kernel
theorem dX7_touchOf_44 : decode cX7_touchOf 44 = .ok (.if_icmp .eq 24, 3) := by decide +kernel
theorem dX7_touchOf_47 : decode cX7_touchOf 47 = .ok (.aload_n 0, 1) := by decide +kernel
theorem dX7_touchOf_48 : decode cX7_touchOf 48 = .ok (.iload_n 3, 1) := by decide +kernel
theorem dX7_touchOf_49 : decode cX7_touchOf 49 = .ok (.invokevirtual 120, 3) := by decide +kernel
theorem dX7_touchOf_52 : decode cX7_touchOf 52 = .ok (.ifCond .eq 14, 3) := by decide +kernel
theorem dX7_touchOf_55 : decode cX7_touchOf 55 = .ok (.aload_n 0, 1) := by decide +kernel
theorem dX7_touchOf_56 : decode cX7_touchOf 56 = .ok (.iload_n 2, 1) := by decide +kernel
theorem dX7_touchOf_57 : decode cX7_touchOf 57 = .ok (.invokevirtual 120, 3) := by decide +kernel
theorem dX7_touchOf_60 : decode cX7_touchOf 60 = .ok (.ifCond .eq 6, 3) := by decide +kernel
theorem dX7_touchOf_63 : decode cX7_touchOf 63 = .ok (.goto 5, 3) := by decide +kernel
theorem dX7_touchOf_66 : decode cX7_touchOf 66 = .ok (.iload_n 2, 1) := by decide +kernel
theorem dX7_touchOf_67 : decode cX7_touchOf 67 = .ok (.ireturn, 1) := by decide +kernel
theorem dX7_touchOf_68 : decode cX7_touchOf 68 = .ok (.iinc 3 1, 3) := by decide +kernel
theorem dX7_touchOf_71 : decode cX7_touchOf 71 = .ok (.goto (-54), 3) := by decide +kernel
theorem dX7_touchOf_74 : decode cX7_touchOf 74 = .ok (.iinc 2 1, 3) := by decide +kernel
theorem dX7_touchOf_77 : decode cX7_touchOf 77 = .ok (.goto (-70), 3) := by decide +kernel
theorem dX7_touchOf_80 : decode cX7_touchOf 80 = .ok (.bipush (-9), 2) := by decide +kernel
theorem dX7_touchOf_82 : decode cX7_touchOf 82 = .ok (.ireturn, 1) := by decide +kernel
theorem dX7_isLying_0 : decode cX7_isLying 0 = .ok (.aload_n 0, 1) := by decide +kernel
theorem dX7_isLying_1 : decode cX7_isLying 1 = .ok (.invokevirtual 123, 3) := by decide +kernel
theorem dX7_isLying_4 : decode cX7_isLying 4 = .ok (.bipush (-9), 2) := by decide +kernel
theorem dX7_isLying_6 : decode cX7_isLying 6 = .ok (.if_icmp .ne 16, 3) := by decide +kernel
theorem dX7_isLying_9 : decode cX7_isLying 9 = .ok (.aload_n 0, 1) := by decide +kernel
theorem dX7_isLying_10 : decode cX7_isLying 10 = .ok (.invokevirtual 127, 3) := by decide +kernel
theorem dX7_isLying_13 : decode cX7_isLying 13 = .ok (.bipush (-9), 2) := by decide +kernel
theorem dX7_isLying_15 : decode cX7_isLying 15 = .ok (.if_icmp .ne 7, 3) := by decide +kernel
theorem dX7_isLying_18 : decode cX7_isLying 18 = .ok (.iconst 1, 1) := by decide +kernel
theorem dX7_isLying_19 : decode cX7_isLying 19 = .ok (.goto 4, 3) := by decide +kernel
theorem dX7_isLying_22 : decode cX7_isLying 22 = .ok (.iconst 0, 1) := by decide +kernel
theorem dX7_isLying_23 : decode cX7_isLying 23 = .ok (.ireturn, 1) := by decide +kernel
theorem dX7_off_0 : decode cX7_off 0 = .ok (.aload_n 0, 1) := by decide +kernel
theorem dX7_off_1 : decode cX7_off 1 = .ok (.invokevirtual 92, 3) := by decide +kernel
theorem dX7_off_4 : decode cX7_off 4 = .ok (.aload_n 0, 1) := by decide +kernel
theorem dX7_off_5 : decode cX7_off 5 = .ok (.invokevirtual 123, 3) := by decide +kernel
theorem dX7_off_8 : decode cX7_off 8 = .ok (.ireturn, 1) := by decide +kernel
theorem dX7_touches_0 : decode cX7_touches 0 = .ok (.aload_n 0, 1) := by decide +kernel
theorem dX7_touches_1 : decode cX7_touches 1 = .ok (.invokevirtual 92, 3) := by decide +kernel
theorem dX7_touches_4 : decode cX7_touches 4 = .ok (.aload_n 0, 1) := by decide +kernel
theorem dX7_touches_5 : decode cX7_touches 5 = .ok (.invokevirtual 127, 3) := by decide +kernel
theorem dX7_touches_8 : decode cX7_touches 8 = .ok (.ireturn, 1) := by decide +kernel
theorem dX7_lies_0 : decode cX7_lies 0 = .ok (.aload_n 0, 1) := by decide +kernel
theorem dX7_lies_1 : decode cX7_lies 1 = .ok (.invokevirtual 92, 3) := by decide +kernel
theorem dX7_lies_4 : decode cX7_lies 4 = .ok (.aload_n 0, 1) := by decide +kernel
theorem dX7_lies_5 : decode cX7_lies 5 = .ok (.invokevirtual 130, 3) := by decide +kernel
theorem dX7_lies_8 : decode cX7_lies 8 = .ok (.ifCond .eq 7, 3) := by decide +kernel
theorem dX7_lies_11 : decode cX7_lies 11 = .ok (.iconst 1, 1) := by decide +kernel
theorem dX7_lies_12 : decode cX7_lies 12 = .ok (.goto 4, 3) := by decide +kernel
theorem dX7_lies_15 : decode cX7_lies 15 = .ok (.iconst 0, 1) := by decide +kernel
theorem dX7_lies_16 : decode cX7_lies 16 = .ok (.ireturn, 1) := by decide +kernel
theorem dX7_isFirst_0 : decode cX7_isFirst 0 = .ok (.iconst 0, 1) := by decide +kernel
theorem dX7_isFirst_1 : decode cX7_isFirst 1 = .ok (.istore_n 2, 1) := by decide +kernel
theorem dX7_isFirst_2 : decode cX7_isFirst 2 = .ok (.iload_n 2, 1) := by decide +kernel
theorem dX7_isFirst_3 : decode cX7_isFirst 3 = .ok (.iload_n 1, 1) := by decide +kernel
theorem dX7_isFirst_4 : decode cX7_isFirst 4 = .ok (.if_icmp .ge 115, 3) := by decide +kernel
theorem dX7_isFirst_7 : decode cX7_isFirst 7 = .ok (.iconst 0, 1) := by decide +kernel
theorem dX7_isFirst_8 : decode cX7_isFirst 8 = .ok (.istore_n 3, 1) := by decide +kernel
theorem dX7_isFirst_9 : decode cX7_isFirst 9 = .ok (.iload_n 3, 1) := by decide +kernel
theorem dX7_isFirst_10 : decode cX7_isFirst 10 = .ok (.iconst 4, 1) := by decide +kernel
theorem dX7_isFirst_11 : decode cX7_isFirst 11 = .ok (.if_icmp .ge 102, 3) := by decide +kernel
theorem dX7_isFirst_14 : decode cX7_isFirst 14 = .ok (.iconst 0, 1) := by decide +kernel
theorem dX7_isFirst_15 : decode cX7_isFirst 15 = .ok (.istore 4, 2) := by decide +kernel
theorem dX7_isFirst_17 : decode cX7_isFirst 17 = .ok (.iconst 0, 1) := by decide +kernel
theorem dX7_isFirst_18 : decode cX7_isFirst 18 = .ok (.istore 5, 2) := by decide +kernel
theorem dX7_isFirst_20 : decode cX7_isFirst 20 = .ok (.iload 5, 2) := by decide +kernel
theorem dX7_isFirst_22 : decode cX7_isFirst 22 = .ok (.iload_n 1, 1) := by decide +kernel
theorem dX7_isFirst_23 : decode cX7_isFirst 23 = .ok (.if_icmp .ge 77, 3) := by decide +kernel
theorem dX7_isFirst_26 : decode cX7_isFirst 26 = .ok (.iload 4, 2) := by decide +kernel
theorem dX7_isFirst_28 : decode cX7_isFirst 28 = .ok (.ifCond .ne 72, 3) := by decide +kernel
theorem dX7_isFirst_31 : decode cX7_isFirst 31 = .ok (.aload_n 0, 1) := by decide +kernel
theorem dX7_isFirst_32 : decode cX7_isFirst 32 = .ok (.getfield 25, 3) := by decide +kernel
theorem dX7_isFirst_35 : decode cX7_isFirst 35 = .ok (.iload_n 3, 1) := by decide +kernel
theorem dX7_isFirst_36 : decode cX7_isFirst 36 = .ok (.iconst 2, 1) := by decide +kernel
theorem dX7_isFirst_37 : decode cX7_isFirst 37 = .ok (.if_icmp .ge 12, 3) := by decide +kernel
theorem dX7_isFirst_40 : decode cX7_isFirst 40 = .ok (.iload_n 2, 1) := by decide +kernel
theorem dX7_isFirst_41 : decode cX7_isFirst 41 = .ok (.iload 5, 2) := by decide +kernel
theorem dX7_isFirst_43 : decode cX7_isFirst 43 = .ok (.iadd, 1) := by decide +kernel
theorem dX7_isFirst_44 : decode cX7_isFirst 44 = .ok (.iload_n 1, 1) := by decide +kernel
theorem dX7_isFirst_45 : decode cX7_isFirst 45 = .ok (.irem, 1) := by decide +kernel
theorem dX7_isFirst_46 : decode cX7_isFirst 46 = .ok (.goto 11, 3) := by decide +kernel
theorem dX7_isFirst_49 : decode cX7_isFirst 49 = .ok (.iload_n 2, 1) := by decide +kernel
theorem dX7_isFirst_50 : decode cX7_isFirst 50 = .ok (.iload_n 1, 1) := by decide +kernel
theorem dX7_isFirst_51 : decode cX7_isFirst 51 = .ok (.iadd, 1) := by decide +kernel
theorem dX7_isFirst_52 : decode cX7_isFirst 52 = .ok (.iload 5, 2) := by decide +kernel
theorem dX7_isFirst_54 : decode cX7_isFirst 54 = .ok (.isub, 1) := by decide +kernel
theorem dX7_isFirst_55 : decode cX7_isFirst 55 = .ok (.iload_n 1, 1) := by decide +kernel
theorem dX7_isFirst_56 : decode cX7_isFirst 56 = .ok (.irem, 1) := by decide +kernel
theorem dX7_isFirst_57 : decode cX7_isFirst 57 = .ok (.iaload, 1) := by decide +kernel
theorem dX7_isFirst_58 : decode cX7_isFirst 58 = .ok (.istore 6, 2) := by decide +kernel
theorem dX7_isFirst_60 : decode cX7_isFirst 60 = .ok (.iload_n 3, 1) := by decide +kernel
theorem dX7_isFirst_61 : decode cX7_isFirst 61 = .ok (.iconst 1, 1) := by decide +kernel
theorem dX7_isFirst_62 : decode cX7_isFirst 62 = .ok (.if_icmp .eq 8, 3) := by decide +kernel
theorem dX7_isFirst_65 : decode cX7_isFirst 65 = .ok (.iload_n 3, 1) := by decide +kernel
theorem dX7_isFirst_66 : decode cX7_isFirst 66 = .ok (.iconst 2, 1) := by decide +kernel
theorem dX7_isFirst_67 : decode cX7_isFirst 67 = .ok (.if_icmp .ne 11, 3) := by decide +kernel
theorem dX7_isFirst_70 : decode cX7_isFirst 70 = .ok (.iload 6, 2) := by decide +kernel
theorem dX7_isFirst_72 : decode cX7_isFirst 72 = .ok (.invokestatic 133, 3) := by decide +kernel
theorem dX7_isFirst_75 : decode cX7_isFirst 75 = .ok (.goto 5, 3) := by decide +kernel
theorem dX7_isFirst_78 : decode cX7_isFirst 78 = .ok (.iload 6, 2) := by decide +kernel
theorem dX7_isFirst_80 : decode cX7_isFirst 80 = .ok (.istore 6, 2) := by decide +kernel
theorem dX7_isFirst_82 : decode cX7_isFirst 82 = .ok (.iload 6, 2) := by decide +kernel
theorem dX7_isFirst_84 : decode cX7_isFirst 84 = .ok (.aload_n 0, 1) := by decide +kernel
theorem dX7_isFirst_85 : decode cX7_isFirst 85 = .ok (.getfield 25, 3) := by decide +kernel
theorem dX7_isFirst_88 : decode cX7_isFirst 88 = .ok (.iload 5, 2) := by decide +kernel
theorem dX7_isFirst_90 : decode cX7_isFirst 90 = .ok (.iaload, 1) := by decide +kernel
theorem dX7_isFirst_91 : decode cX7_isFirst 91 = .ok (.isub, 1) := by decide +kernel
theorem dX7_isFirst_92 : decode cX7_isFirst 92 = .ok (.istore 4, 2) := by decide +kernel
theorem dX7_isFirst_94 : decode cX7_isFirst 94 = .ok (.iinc 5 1, 3) := by decide +kernel
theorem dX7_isFirst_97 : decode cX7_isFirst 97 = .ok (.goto (-77), 3) := by decide +kernel
theorem dX7_isFirst_100 : decode cX7_isFirst 100 = .ok (.iload 4, 2) := by decide +kernel
theorem dX7_isFirst_102 : decode cX7_isFirst 102 = .ok (.ifCond .ge 5, 3) := by decide +kernel
theorem dX7_isFirst_105 : decode cX7_isFirst 105 = .ok (.iconst 0, 1) := by decide +kernel
theorem dX7_isFirst_106 : decode cX7_isFirst 106 = .ok (.ireturn, 1) := by decide +kernel
theorem dX7_isFirst_107 : decode cX7_isFirst 107 = .ok (.iinc 3 1, 3) := by decide +kernel
theorem dX7_isFirst_110 : decode cX7_isFirst 110 = .ok (.goto (-101), 3) := by decide +kernel
theorem dX7_isFirst_113 : decode cX7_isFirst 113 = .ok (.iinc 2 1, 3) := by decide +kernel
theorem dX7_isFirst_116 : decode cX7_isFirst 116 = .ok (.goto (-114), 3) := by decide +kernel
theorem dX7_isFirst_119 : decode cX7_isFirst 119 = .ok (.iconst 1, 1) := by decide +kernel
theorem dX7_isFirst_120 : decode cX7_isFirst 120 = .ok (.ireturn, 1) := by decide +kernel
theorem dX7_begins_0 : decode cX7_begins 0 = .ok (.aload_n 0, 1) := by decide +kernel
theorem dX7_begins_1 : decode cX7_begins 1 = .ok (.iload_n 1, 1) := by decide +kernel
theorem dX7_begins_2 : decode cX7_begins 2 = .ok (.putfield 84, 3) := by decide +kernel
theorem dX7_begins_5 : decode cX7_begins 5 = .ok (.iconst 0, 1) := by decide +kernel
theorem dX7_begins_6 : decode cX7_begins 6 = .ok (.istore_n 2, 1) := by decide +kernel
theorem dX7_begins_7 : decode cX7_begins 7 = .ok (.iload_n 2, 1) := by decide +kernel
theorem dX7_begins_8 : decode cX7_begins 8 = .ok (.bipush 7, 2) := by decide +kernel
theorem dX7_begins_10 : decode cX7_begins 10 = .ok (.if_icmp .ge 21, 3) := by decide +kernel
theorem dX7_begins_13 : decode cX7_begins 13 = .ok (.aload_n 0, 1) := by decide +kernel
theorem dX7_begins_14 : decode cX7_begins 14 = .ok (.getfield 28, 3) := by decide +kernel
theorem dX7_begins_17 : decode cX7_begins 17 = .ok (.iload_n 2, 1) := by decide +kernel
theorem dX7_begins_18 : decode cX7_begins 18 = .ok (.aload_n 0, 1) := by decide +kernel
theorem dX7_begins_19 : decode cX7_begins 19 = .ok (.getfield 13, 3) := by decide +kernel
theorem dX7_begins_22 : decode cX7_begins 22 = .ok (.iload_n 2, 1) := by decide +kernel
theorem dX7_begins_23 : decode cX7_begins 23 = .ok (.iaload, 1) := by decide +kernel
theorem dX7_begins_24 : decode cX7_begins 24 = .ok (.iastore, 1) := by decide +kernel
theorem dX7_begins_25 : decode cX7_begins 25 = .ok (.iinc 2 1, 3) := by decide +kernel
theorem dX7_begins_28 : decode cX7_begins 28 = .ok (.goto (-21), 3) := by decide +kernel
theorem dX7_begins_31 : decode cX7_begins 31 = .ok (.return_, 1) := by decide +kernel
theorem dX7_goesOn_0 : decode cX7_goesOn 0 = .ok (.iload_n 1, 1) := by decide +kernel
theorem dX7_goesOn_1 : decode cX7_goesOn 1 = .ok (.aload_n 0, 1) := by decide +kernel
theorem dX7_goesOn_2 : decode cX7_goesOn 2 = .ok (.getfield 84, 3) := by decide +kernel
theorem dX7_goesOn_5 : decode cX7_goesOn 5 = .ok (.if_icmp .ne 48, 3) := by decide +kernel
theorem dX7_goesOn_8 : decode cX7_goesOn 8 = .ok (.iload_n 2, 1) := by decide +kernel
theorem dX7_goesOn_9 : decode cX7_goesOn 9 = .ok (.ifCond .ne 10, 3) := by decide +kernel
theorem dX7_goesOn_12 : decode cX7_goesOn 12 = .ok (.aload_n 0, 1) := by decide +kernel
theorem dX7_goesOn_13 : decode cX7_goesOn 13 = .ok (.invokevirtual 136, 3) := by decide +kernel
theorem dX7_goesOn_16 : decode cX7_goesOn 16 = .ok (.goto 36, 3) := by decide +kernel
theorem dX7_goesOn_19 : decode cX7_goesOn 19 = .ok (.iload_n 2, 1) := by decide +kernel
theorem dX7_goesOn_20 : decode cX7_goesOn 20 = .ok (.iconst 1, 1) := by decide +kernel
theorem dX7_goesOn_21 : decode cX7_goesOn 21 = .ok (.if_icmp .ne 10, 3) := by decide +kernel
theorem dX7_goesOn_24 : decode cX7_goesOn 24 = .ok (.aload_n 0, 1) := by decide +kernel
theorem dX7_goesOn_25 : decode cX7_goesOn 25 = .ok (.invokevirtual 139, 3) := by decide +kernel
theorem dX7_goesOn_28 : decode cX7_goesOn 28 = .ok (.goto 24, 3) := by decide +kernel
theorem dX7_goesOn_31 : decode cX7_goesOn 31 = .ok (.aload_n 0, 1) := by decide +kernel
theorem dX7_goesOn_32 : decode cX7_goesOn 32 = .ok (.dup, 1) := by decide +kernel
theorem dX7_goesOn_33 : decode cX7_goesOn 33 = .ok (.getfield 142, 3) := by decide +kernel
theorem dX7_goesOn_36 : decode cX7_goesOn 36 = .ok (.aload_n 0, 1) := by decide +kernel
theorem dX7_goesOn_37 : decode cX7_goesOn 37 = .ok (.invokevirtual 98, 3) := by decide +kernel
theorem dX7_goesOn_40 : decode cX7_goesOn 40 = .ok (.ifCond .eq 7, 3) := by decide +kernel
theorem dX7_goesOn_43 : decode cX7_goesOn 43 = .ok (.iconst 1, 1) := by decide +kernel
theorem dX7_goesOn_44 : decode cX7_goesOn 44 = .ok (.goto 4, 3) := by decide +kernel
theorem dX7_goesOn_47 : decode cX7_goesOn 47 = .ok (.iconst 0, 1) := by decide +kernel
theorem dX7_goesOn_48 : decode cX7_goesOn 48 = .ok (.iadd, 1) := by decide +kernel
theorem dX7_goesOn_49 : decode cX7_goesOn 49 = .ok (.putfield 142, 3) := by decide +kernel
theorem dX7_goesOn_52 : decode cX7_goesOn 52 = .ok (.return_, 1) := by decide +kernel
theorem dX7_goesOn_53 : decode cX7_goesOn 53 = .ok (.iconst 0, 1) := by decide +kernel
theorem dX7_goesOn_54 : decode cX7_goesOn 54 = .ok (.istore_n 3, 1) := by decide +kernel
theorem dX7_goesOn_55 : decode cX7_goesOn 55 = .ok (.iload_n 3, 1) := by decide +kernel
theorem dX7_goesOn_56 : decode cX7_goesOn 56 = .ok (.bipush 10, 2) := by decide +kernel
theorem dX7_goesOn_58 : decode cX7_goesOn 58 = .ok (.if_icmp .ge 95, 3) := by decide +kernel
theorem dX7_goesOn_61 : decode cX7_goesOn 61 = .ok (.aload_n 0, 1) := by decide +kernel
theorem dX7_goesOn_62 : decode cX7_goesOn 62 = .ok (.getfield 145, 3) := by decide +kernel
theorem dX7_goesOn_65 : decode cX7_goesOn 65 = .ok (.ifCond .ne 88, 3) := by decide +kernel
theorem dX7_goesOn_68 : decode cX7_goesOn 68 = .ok (.iload_n 3, 1) := by decide +kernel
theorem dX7_goesOn_69 : decode cX7_goesOn 69 = .ok (.invokestatic 75, 3) := by decide +kernel
theorem dX7_goesOn_72 : decode cX7_goesOn 72 = .ok (.istore 4, 2) := by decide +kernel
theorem dX7_goesOn_74 : decode cX7_goesOn 74 = .ok (.aload_n 0, 1) := by decide +kernel
theorem dX7_goesOn_75 : decode cX7_goesOn 75 = .ok (.getfield 28, 3) := by decide +kernel
theorem dX7_goesOn_78 : decode cX7_goesOn 78 = .ok (.iload 4, 2) := by decide +kernel
theorem dX7_goesOn_80 : decode cX7_goesOn 80 = .ok (.iaload, 1) := by decide +kernel
theorem dX7_goesOn_81 : decode cX7_goesOn 81 = .ok (.ifCond .eq 66, 3) := by decide +kernel
theorem dX7_goesOn_84 : decode cX7_goesOn 84 = .ok (.iload_n 2, 1) := by decide +kernel
theorem dX7_goesOn_85 : decode cX7_goesOn 85 = .ok (.iconst 2, 1) := by decide +kernel
theorem dX7_goesOn_86 : decode cX7_goesOn 86 = .ok (.if_icmp .ne 19, 3) := by decide +kernel
theorem dX7_goesOn_89 : decode cX7_goesOn 89 = .ok (.iload_n 3, 1) := by decide +kernel
theorem dX7_goesOn_90 : decode cX7_goesOn 90 = .ok (.invokestatic 78, 3) := by decide +kernel
theorem dX7_goesOn_93 : decode cX7_goesOn 93 = .ok (.aload_n 0, 1) := by decide +kernel
theorem dX7_goesOn_94 : decode cX7_goesOn 94 = .ok (.getfield 31, 3) := by decide +kernel
theorem dX7_goesOn_97 : decode cX7_goesOn 97 = .ok (.iload_n 1, 1) := by decide +kernel
theorem dX7_goesOn_98 : decode cX7_goesOn 98 = .ok (.iaload, 1) := by decide +kernel
theorem dX7_goesOn_99 : decode cX7_goesOn 99 = .ok (.if_icmp .eq 6, 3) := by decide +kernel
theorem dX7_goesOn_102 : decode cX7_goesOn 102 = .ok (.goto 45, 3) := by decide +kernel
theorem dX7_goesOn_105 : decode cX7_goesOn 105 = .ok (.aload_n 0, 1) := by decide +kernel
theorem dX7_goesOn_106 : decode cX7_goesOn 106 = .ok (.getfield 28, 3) := by decide +kernel
theorem dX7_goesOn_109 : decode cX7_goesOn 109 = .ok (.iload 4, 2) := by decide +kernel
theorem dX7_goesOn_111 : decode cX7_goesOn 111 = .ok (.dup2, 1) := by decide +kernel
theorem dX7_goesOn_112 : decode cX7_goesOn 112 = .ok (.iaload, 1) := by decide +kernel
theorem dX7_goesOn_113 : decode cX7_goesOn 113 = .ok (.iconst 1, 1) := by decide +kernel
theorem dX7_goesOn_114 : decode cX7_goesOn 114 = .ok (.isub, 1) := by decide +kernel
theorem dX7_goesOn_115 : decode cX7_goesOn 115 = .ok (.iastore, 1) := by decide +kernel
theorem dX7_goesOn_116 : decode cX7_goesOn 116 = .ok (.aload_n 0, 1) := by decide +kernel
theorem dX7_goesOn_117 : decode cX7_goesOn 117 = .ok (.getfield 25, 3) := by decide +kernel
theorem dX7_goesOn_120 : decode cX7_goesOn 120 = .ok (.iload_n 1, 1) := by decide +kernel
theorem dX7_goesOn_121 : decode cX7_goesOn 121 = .ok (.iload_n 3, 1) := by decide +kernel
theorem dX7_goesOn_122 : decode cX7_goesOn 122 = .ok (.iastore, 1) := by decide +kernel
theorem dX7_goesOn_123 : decode cX7_goesOn 123 = .ok (.aload_n 0, 1) := by decide +kernel
theorem dX7_goesOn_124 : decode cX7_goesOn 124 = .ok (.iload_n 1, 1) := by decide +kernel
theorem dX7_goesOn_125 : decode cX7_goesOn 125 = .ok (.invokevirtual 87, 3) := by decide +kernel
theorem dX7_goesOn_128 : decode cX7_goesOn 128 = .ok (.aload_n 0, 1) := by decide +kernel
theorem dX7_goesOn_129 : decode cX7_goesOn 129 = .ok (.iload_n 1, 1) := by decide +kernel
theorem dX7_goesOn_130 : decode cX7_goesOn 130 = .ok (.iconst 1, 1) := by decide +kernel
theorem dX7_goesOn_131 : decode cX7_goesOn 131 = .ok (.iadd, 1) := by decide +kernel
theorem dX7_goesOn_132 : decode cX7_goesOn 132 = .ok (.iload_n 2, 1) := by decide +kernel
theorem dX7_goesOn_133 : decode cX7_goesOn 133 = .ok (.invokevirtual 149, 3) := by decide +kernel
theorem dX7_goesOn_136 : decode cX7_goesOn 136 = .ok (.aload_n 0, 1) := by decide +kernel
theorem dX7_goesOn_137 : decode cX7_goesOn 137 = .ok (.getfield 28, 3) := by decide +kernel
theorem dX7_goesOn_140 : decode cX7_goesOn 140 = .ok (.iload 4, 2) := by decide +kernel
theorem dX7_goesOn_142 : decode cX7_goesOn 142 = .ok (.dup2, 1) := by decide +kernel
theorem dX7_goesOn_143 : decode cX7_goesOn 143 = .ok (.iaload, 1) := by decide +kernel
theorem dX7_goesOn_144 : decode cX7_goesOn 144 = .ok (.iconst 1, 1) := by decide +kernel
theorem dX7_goesOn_145 : decode cX7_goesOn 145 = .ok (.iadd, 1) := by decide +kernel
theorem dX7_goesOn_146 : decode cX7_goesOn 146 = .ok (.iastore, 1) := by decide +kernel
theorem dX7_goesOn_147 : decode cX7_goesOn 147 = .ok (.iinc 3 1, 3) := by decide +kernel
theorem dX7_goesOn_150 : decode cX7_goesOn 150 = .ok (.goto (-95), 3) := by decide +kernel
theorem dX7_goesOn_153 : decode cX7_goesOn 153 = .ok (.return_, 1) := by decide +kernel
theorem dX7_rings_0 : decode cX7_rings 0 = .ok (.aload_n 0, 1) := by decide +kernel
theorem dX7_rings_1 : decode cX7_rings 1 = .ok (.invokevirtual 98, 3) := by decide +kernel
theorem dX7_rings_4 : decode cX7_rings 4 = .ok (.ifCond .eq 28, 3) := by decide +kernel
theorem dX7_rings_7 : decode cX7_rings 7 = .ok (.aload_n 0, 1) := by decide +kernel
theorem dX7_rings_8 : decode cX7_rings 8 = .ok (.aload_n 0, 1) := by decide +kernel
theorem dX7_rings_9 : decode cX7_rings 9 = .ok (.getfield 84, 3) := by decide +kernel
theorem dX7_rings_12 : decode cX7_rings 12 = .ok (.invokevirtual 153, 3) := by decide +kernel
theorem dX7_rings_15 : decode cX7_rings 15 = .ok (.ifCond .eq 17, 3) := by decide +kernel
theorem dX7_rings_18 : decode cX7_rings 18 = .ok (.aload_n 0, 1) := by decide +kernel
theorem dX7_rings_19 : decode cX7_rings 19 = .ok (.getfield 156, 3) := by decide +kernel
theorem dX7_rings_22 : decode cX7_rings 22 = .ok (.ifCond .eq 11, 3) := by decide +kernel
theorem dX7_rings_25 : decode cX7_rings 25 = .ok (.aload_n 0, 1) := by decide +kernel
theorem dX7_rings_26 : decode cX7_rings 26 = .ok (.invokevirtual 130, 3) := by decide +kernel
theorem dX7_rings_29 : decode cX7_rings 29 = .ok (.ifCond .ne 4, 3) := by decide +kernel
theorem dX7_rings_32 : decode cX7_rings 32 = .ok (.return_, 1) := by decide +kernel
theorem dX7_rings_33 : decode cX7_rings 33 = .ok (.aload_n 0, 1) := by decide +kernel
theorem dX7_rings_34 : decode cX7_rings 34 = .ok (.getfield 159, 3) := by decide +kernel
theorem dX7_rings_37 : decode cX7_rings 37 = .ok (.aload_n 0, 1) := by decide +kernel
theorem dX7_rings_38 : decode cX7_rings 38 = .ok (.getfield 162, 3) := by decide +kernel
theorem dX7_rings_41 : decode cX7_rings 41 = .ok (.if_icmp .ne 36, 3) := by decide +kernel
theorem dX7_rings_44 : decode cX7_rings 44 = .ok (.iconst 0, 1) := by decide +kernel
theorem dX7_rings_45 : decode cX7_rings 45 = .ok (.istore_n 1, 1) := by decide +kernel
theorem dX7_rings_46 : decode cX7_rings 46 = .ok (.iload_n 1, 1) := by decide +kernel
theorem dX7_rings_47 : decode cX7_rings 47 = .ok (.aload_n 0, 1) := by decide +kernel
theorem dX7_rings_48 : decode cX7_rings 48 = .ok (.getfield 84, 3) := by decide +kernel
theorem dX7_rings_51 : decode cX7_rings 51 = .ok (.if_icmp .ge 21, 3) := by decide +kernel
theorem dX7_rings_54 : decode cX7_rings 54 = .ok (.aload_n 0, 1) := by decide +kernel
theorem dX7_rings_55 : decode cX7_rings 55 = .ok (.getfield 34, 3) := by decide +kernel
theorem dX7_rings_58 : decode cX7_rings 58 = .ok (.iload_n 1, 1) := by decide +kernel
theorem dX7_rings_59 : decode cX7_rings 59 = .ok (.aload_n 0, 1) := by decide +kernel
theorem dX7_rings_60 : decode cX7_rings 60 = .ok (.getfield 25, 3) := by decide +kernel
theorem dX7_rings_63 : decode cX7_rings 63 = .ok (.iload_n 1, 1) := by decide +kernel
theorem dX7_rings_64 : decode cX7_rings 64 = .ok (.iaload, 1) := by decide +kernel
theorem dX7_rings_65 : decode cX7_rings 65 = .ok (.iastore, 1) := by decide +kernel
theorem dX7_rings_66 : decode cX7_rings 66 = .ok (.iinc 1 1, 3) := by decide +kernel
theorem dX7_rings_69 : decode cX7_rings 69 = .ok (.goto (-23), 3) := by decide +kernel
theorem dX7_rings_72 : decode cX7_rings 72 = .ok (.aload_n 0, 1) := by decide +kernel
theorem dX7_rings_73 : decode cX7_rings 73 = .ok (.iconst 1, 1) := by decide +kernel
theorem dX7_rings_74 : decode cX7_rings 74 = .ok (.putfield 145, 3) := by decide +kernel
theorem dX7_rings_77 : decode cX7_rings 77 = .ok (.aload_n 0, 1) := by decide +kernel
theorem dX7_rings_78 : decode cX7_rings 78 = .ok (.dup, 1) := by decide +kernel
theorem dX7_rings_79 : decode cX7_rings 79 = .ok (.getfield 159, 3) := by decide +kernel
theorem dX7_rings_82 : decode cX7_rings 82 = .ok (.iconst 1, 1) := by decide +kernel
theorem dX7_rings_83 : decode cX7_rings 83 = .ok (.iadd, 1) := by decide +kernel
theorem dX7_rings_84 : decode cX7_rings 84 = .ok (.putfield 159, 3) := by decide +kernel
theorem dX7_rings_87 : decode cX7_rings 87 = .ok (.return_, 1) := by decide +kernel
theorem dX7_ringsOf_0 : decode cX7_ringsOf 0 = .ok (.aload_n 0, 1) := by decide +kernel
theorem dX7_ringsOf_1 : decode cX7_ringsOf 1 = .ok (.iload_n 1, 1) := by decide +kernel
theorem dX7_ringsOf_2 : decode cX7_ringsOf 2 = .ok (.invokevirtual 165, 3) := by decide +kernel
theorem dX7_ringsOf_5 : decode cX7_ringsOf 5 = .ok (.aload_n 0, 1) := by decide +kernel
theorem dX7_ringsOf_6 : decode cX7_ringsOf 6 = .ok (.iconst 0, 1) := by decide +kernel
theorem dX7_ringsOf_7 : decode cX7_ringsOf 7 = .ok (.putfield 159, 3) := by decide +kernel
theorem dX7_ringsOf_10 : decode cX7_ringsOf 10 = .ok (.aload_n 0, 1) := by decide +kernel
theorem dX7_ringsOf_11 : decode cX7_ringsOf 11 = .ok (.iload_n 3, 1) := by decide +kernel
theorem dX7_ringsOf_12 : decode cX7_ringsOf 12 = .ok (.putfield 162, 3) := by decide +kernel
theorem dX7_ringsOf_15 : decode cX7_ringsOf 15 = .ok (.aload_n 0, 1) := by decide +kernel
theorem dX7_ringsOf_16 : decode cX7_ringsOf 16 = .ok (.iconst 0, 1) := by decide +kernel
theorem dX7_ringsOf_17 : decode cX7_ringsOf 17 = .ok (.putfield 145, 3) := by decide +kernel
theorem dX7_ringsOf_20 : decode cX7_ringsOf 20 = .ok (.aload_n 0, 1) := by decide +kernel
theorem dX7_ringsOf_21 : decode cX7_ringsOf 21 = .ok (.iload_n 2, 1) := by decide +kernel
theorem dX7_ringsOf_22 : decode cX7_ringsOf 22 = .ok (.putfield 156, 3) := by decide +kernel
theorem dX7_ringsOf_25 : decode cX7_ringsOf 25 = .ok (.aload_n 0, 1) := by decide +kernel
theorem dX7_ringsOf_26 : decode cX7_ringsOf 26 = .ok (.iconst 0, 1) := by decide +kernel
theorem dX7_ringsOf_27 : decode cX7_ringsOf 27 = .ok (.iconst 0, 1) := by decide +kernel
theorem dX7_ringsOf_28 : decode cX7_ringsOf 28 = .ok (.invokevirtual 149, 3) := by decide +kernel
theorem dX7_ringsOf_31 : decode cX7_ringsOf 31 = .ok (.aload_n 0, 1) := by decide +kernel
theorem dX7_ringsOf_32 : decode cX7_ringsOf 32 = .ok (.getfield 145, 3) := by decide +kernel
theorem dX7_ringsOf_35 : decode cX7_ringsOf 35 = .ok (.istore 4, 2) := by decide +kernel
theorem dX7_ringsOf_37 : decode cX7_ringsOf 37 = .ok (.aload_n 0, 1) := by decide +kernel
theorem dX7_ringsOf_38 : decode cX7_ringsOf 38 = .ok (.iconst 0, 1) := by decide +kernel
theorem dX7_ringsOf_39 : decode cX7_ringsOf 39 = .ok (.putfield 145, 3) := by decide +kernel
theorem dX7_ringsOf_42 : decode cX7_ringsOf 42 = .ok (.iload_n 3, 1) := by decide +kernel
theorem dX7_ringsOf_43 : decode cX7_ringsOf 43 = .ok (.ifCond .ge 10, 3) := by decide +kernel
theorem dX7_ringsOf_46 : decode cX7_ringsOf 46 = .ok (.aload_n 0, 1) := by decide +kernel
theorem dX7_ringsOf_47 : decode cX7_ringsOf 47 = .ok (.getfield 159, 3) := by decide +kernel
theorem dX7_ringsOf_50 : decode cX7_ringsOf 50 = .ok (.goto 14, 3) := by decide +kernel
theorem dX7_ringsOf_53 : decode cX7_ringsOf 53 = .ok (.iload 4, 2) := by decide +kernel
theorem dX7_ringsOf_55 : decode cX7_ringsOf 55 = .ok (.ifCond .eq 7, 3) := by decide +kernel
theorem dX7_ringsOf_58 : decode cX7_ringsOf 58 = .ok (.iconst 1, 1) := by decide +kernel
theorem dX7_ringsOf_59 : decode cX7_ringsOf 59 = .ok (.goto 5, 3) := by decide +kernel
theorem dX7_ringsOf_62 : decode cX7_ringsOf 62 = .ok (.bipush (-9), 2) := by decide +kernel
theorem dX7_ringsOf_64 : decode cX7_ringsOf 64 = .ok (.ireturn, 1) := by decide +kernel
theorem dX7_rings__0 : decode cX7_rings_ 0 = .ok (.iload_n 1, 1) := by decide +kernel
theorem dX7_rings__1 : decode cX7_rings_ 1 = .ok (.iconst 1, 1) := by decide +kernel
theorem dX7_rings__2 : decode cX7_rings_ 2 = .ok (.bipush 6, 2) := by decide +kernel
theorem dX7_rings__4 : decode cX7_rings_ 4 = .ok (.invokestatic 61, 3) := by decide +kernel
theorem dX7_rings__7 : decode cX7_rings_ 7 = .ok (.istore_n 3, 1) := by decide +kernel
theorem dX7_rings__8 : decode cX7_rings_ 8 = .ok (.iload_n 3, 1) := by decide +kernel
theorem dX7_rings__9 : decode cX7_rings_ 9 = .ok (.ifCond .eq 11, 3) := by decide +kernel
theorem dX7_rings__12 : decode cX7_rings_ 12 = .ok (.aload_n 0, 1) := by decide +kernel
theorem dX7_rings__13 : decode cX7_rings_ 13 = .ok (.iload_n 3, 1) := by decide +kernel
theorem dX7_rings__14 : decode cX7_rings_ 14 = .ok (.invokevirtual 44, 3) := by decide +kernel
theorem dX7_rings__17 : decode cX7_rings_ 17 = .ok (.goto 10, 3) := by decide +kernel
theorem dX7_rings__20 : decode cX7_rings_ 20 = .ok (.aload_n 0, 1) := by decide +kernel
theorem dX7_rings__21 : decode cX7_rings_ 21 = .ok (.iload_n 1, 1) := by decide +kernel
theorem dX7_rings__22 : decode cX7_rings_ 22 = .ok (.iload_n 2, 1) := by decide +kernel
theorem dX7_rings__23 : decode cX7_rings_ 23 = .ok (.iconst (-1), 1) := by decide +kernel
theorem dX7_rings__24 : decode cX7_rings_ 24 = .ok (.invokevirtual 168, 3) := by decide +kernel
theorem dX7_rings__27 : decode cX7_rings_ 27 = .ok (.ireturn, 1) := by decide +kernel
theorem dX7_becomes_0 : decode cX7_becomes 0 = .ok (.iconst 0, 1) := by decide +kernel
theorem dX7_becomes_1 : decode cX7_becomes 1 = .ok (.istore_n 3, 1) := by decide +kernel
theorem dX7_becomes_2 : decode cX7_becomes 2 = .ok (.iload_n 3, 1) := by decide +kernel
theorem dX7_becomes_3 : decode cX7_becomes 3 = .ok (.iload_n 2, 1) := by decide +kernel
theorem dX7_becomes_4 : decode cX7_becomes 4 = .ok (.if_icmp .ge 21, 3) := by decide +kernel
theorem dX7_becomes_7 : decode cX7_becomes 7 = .ok (.aload_n 0, 1) := by decide +kernel
theorem dX7_becomes_8 : decode cX7_becomes 8 = .ok (.getfield 13, 3) := by decide +kernel
theorem dX7_becomes_11 : decode cX7_becomes 11 = .ok (.bipush 31, 2) := by decide +kernel
theorem dX7_becomes_13 : decode cX7_becomes 13 = .ok (.iload_n 3, 1) := by decide +kernel
theorem dX7_becomes_14 : decode cX7_becomes 14 = .ok (.iadd, 1) := by decide +kernel
theorem dX7_becomes_15 : decode cX7_becomes 15 = .ok (.aload_n 1, 1) := by decide +kernel
theorem dX7_becomes_16 : decode cX7_becomes 16 = .ok (.iload_n 3, 1) := by decide +kernel
theorem dX7_becomes_17 : decode cX7_becomes 17 = .ok (.iaload, 1) := by decide +kernel
theorem dX7_becomes_18 : decode cX7_becomes 18 = .ok (.iastore, 1) := by decide +kernel
theorem dX7_becomes_19 : decode cX7_becomes 19 = .ok (.iinc 3 1, 3) := by decide +kernel
theorem dX7_becomes_22 : decode cX7_becomes 22 = .ok (.goto (-20), 3) := by decide +kernel
theorem dX7_becomes_25 : decode cX7_becomes 25 = .ok (.aload_n 0, 1) := by decide +kernel
theorem dX7_becomes_26 : decode cX7_becomes 26 = .ok (.getfield 13, 3) := by decide +kernel
theorem dX7_becomes_29 : decode cX7_becomes 29 = .ok (.bipush 55, 2) := by decide +kernel
theorem dX7_becomes_31 : decode cX7_becomes 31 = .ok (.iload_n 2, 1) := by decide +kernel
theorem dX7_becomes_32 : decode cX7_becomes 32 = .ok (.iastore, 1) := by decide +kernel
theorem dX7_becomes_33 : decode cX7_becomes 33 = .ok (.return_, 1) := by decide +kernel
theorem dX7_ring_0 : decode cX7_ring 0 = .ok (.iload_n 1, 1) := by decide +kernel
theorem dX7_ring_1 : decode cX7_ring 1 = .ok (.iconst 1, 1) := by decide +kernel
theorem dX7_ring_2 : decode cX7_ring 2 = .ok (.bipush 6, 2) := by decide +kernel
theorem dX7_ring_4 : decode cX7_ring 4 = .ok (.invokestatic 61, 3) := by decide +kernel
theorem dX7_ring_7 : decode cX7_ring 7 = .ok (.istore 4, 2) := by decide +kernel
theorem dX7_ring_9 : decode cX7_ring 9 = .ok (.iload 4, 2) := by decide +kernel
theorem dX7_ring_11 : decode cX7_ring 11 = .ok (.ifCond .eq 10, 3) := by decide +kernel
theorem dX7_ring_14 : decode cX7_ring 14 = .ok (.aload_n 0, 1) := by decide +kernel
theorem dX7_ring_15 : decode cX7_ring 15 = .ok (.iload 4, 2) := by decide +kernel
theorem dX7_ring_17 : decode cX7_ring 17 = .ok (.invokevirtual 44, 3) := by decide +kernel
theorem dX7_ring_20 : decode cX7_ring 20 = .ok (.ireturn, 1) := by decide +kernel
theorem dX7_ring_21 : decode cX7_ring 21 = .ok (.iload_n 3, 1) := by decide +kernel
theorem dX7_ring_22 : decode cX7_ring 22 = .ok (.ifCond .lt 13, 3) := by decide +kernel
theorem dX7_ring_25 : decode cX7_ring 25 = .ok (.aload_n 0, 1) := by decide +kernel
theorem dX7_ring_26 : decode cX7_ring 26 = .ok (.iload_n 1, 1) := by decide +kernel
theorem dX7_ring_27 : decode cX7_ring 27 = .ok (.iload_n 2, 1) := by decide +kernel
theorem dX7_ring_28 : decode cX7_ring 28 = .ok (.iload_n 3, 1) := by decide +kernel
theorem dX7_ring_29 : decode cX7_ring 29 = .ok (.invokevirtual 168, 3) := by decide +kernel
theorem dX7_ring_32 : decode cX7_ring 32 = .ok (.ifCond .ge 6, 3) := by decide +kernel
theorem dX7_ring_35 : decode cX7_ring 35 = .ok (.bipush (-9), 2) := by decide +kernel
theorem dX7_ring_37 : decode cX7_ring 37 = .ok (.ireturn, 1) := by decide +kernel
theorem dX7_ring_38 : decode cX7_ring 38 = .ok (.aload_n 0, 1) := by decide +kernel
theorem dX7_ring_39 : decode cX7_ring 39 = .ok (.aload_n 0, 1) := by decide +kernel
theorem dX7_ring_40 : decode cX7_ring 40 = .ok (.getfield 34, 3) := by decide +kernel
theorem dX7_ring_43 : decode cX7_ring 43 = .ok (.iload_n 1, 1) := by decide +kernel
theorem dX7_ring_44 : decode cX7_ring 44 = .ok (.invokevirtual 172, 3) := by decide +kernel
theorem dX7_ring_47 : decode cX7_ring 47 = .ok (.iconst 1, 1) := by decide +kernel
theorem dX7_ring_48 : decode cX7_ring 48 = .ok (.ireturn, 1) := by decide +kernel
theorem dX7_most_0 : decode cX7_most 0 = .ok (.bipush 6, 2) := by decide +kernel
theorem dX7_most_2 : decode cX7_most 2 = .ok (.istore_n 2, 1) := by decide +kernel
theorem dX7_most_3 : decode cX7_most 3 = .ok (.iload_n 2, 1) := by decide +kernel
theorem dX7_most_4 : decode cX7_most 4 = .ok (.ifCond .le 21, 3) := by decide +kernel
theorem dX7_most_7 : decode cX7_most 7 = .ok (.aload_n 0, 1) := by decide +kernel
theorem dX7_most_8 : decode cX7_most 8 = .ok (.iload_n 2, 1) := by decide +kernel
theorem dX7_most_9 : decode cX7_most 9 = .ok (.iload_n 1, 1) := by decide +kernel
theorem dX7_most_10 : decode cX7_most 10 = .ok (.iconst 0, 1) := by decide +kernel
theorem dX7_most_11 : decode cX7_most 11 = .ok (.invokevirtual 168, 3) := by decide +kernel
theorem dX7_most_14 : decode cX7_most 14 = .ok (.ifCond .le 5, 3) := by decide +kernel
theorem dX7_most_17 : decode cX7_most 17 = .ok (.iload_n 2, 1) := by decide +kernel
theorem dX7_most_18 : decode cX7_most 18 = .ok (.ireturn, 1) := by decide +kernel
theorem dX7_most_19 : decode cX7_most 19 = .ok (.iinc 2 (-1), 3) := by decide +kernel
theorem dX7_most_22 : decode cX7_most 22 = .ok (.goto (-19), 3) := by decide +kernel
theorem dX7_most_25 : decode cX7_most 25 = .ok (.bipush (-9), 2) := by decide +kernel
theorem dX7_most_27 : decode cX7_most 27 = .ok (.ireturn, 1) := by decide +kernel
theorem dX7_opens_0 : decode cX7_opens 0 = .ok (.iload_n 1, 1) := by decide +kernel
theorem dX7_opens_1 : decode cX7_opens 1 = .ok (.iconst 1, 1) := by decide +kernel
theorem dX7_opens_2 : decode cX7_opens 2 = .ok (.bipush 6, 2) := by decide +kernel
theorem dX7_opens_4 : decode cX7_opens 4 = .ok (.invokestatic 61, 3) := by decide +kernel
theorem dX7_opens_7 : decode cX7_opens 7 = .ok (.istore_n 3, 1) := by decide +kernel
theorem dX7_opens_8 : decode cX7_opens 8 = .ok (.iload_n 3, 1) := by decide +kernel
theorem dX7_opens_9 : decode cX7_opens 9 = .ok (.ifCond .eq 9, 3) := by decide +kernel
theorem dX7_opens_12 : decode cX7_opens 12 = .ok (.aload_n 0, 1) := by decide +kernel
theorem dX7_opens_13 : decode cX7_opens 13 = .ok (.iload_n 3, 1) := by decide +kernel
theorem dX7_opens_14 : decode cX7_opens 14 = .ok (.invokevirtual 44, 3) := by decide +kernel
theorem dX7_opens_17 : decode cX7_opens 17 = .ok (.ireturn, 1) := by decide +kernel
theorem dX7_opens_18 : decode cX7_opens 18 = .ok (.bipush (-9), 2) := by decide +kernel
theorem dX7_opens_20 : decode cX7_opens 20 = .ok (.istore 4, 2) := by decide +kernel
theorem dX7_opens_22 : decode cX7_opens 22 = .ok (.aload_n 0, 1) := by decide +kernel
theorem dX7_opens_23 : decode cX7_opens 23 = .ok (.iload_n 1, 1) := by decide +kernel
theorem dX7_opens_24 : decode cX7_opens 24 = .ok (.iload_n 2, 1) := by decide +kernel
theorem dX7_opens_25 : decode cX7_opens 25 = .ok (.iconst (-1), 1) := by decide +kernel
theorem dX7_opens_26 : decode cX7_opens 26 = .ok (.invokevirtual 168, 3) := by decide +kernel
theorem dX7_opens_29 : decode cX7_opens 29 = .ok (.istore 5, 2) := by decide +kernel
theorem dX7_opens_31 : decode cX7_opens 31 = .ok (.iconst 0, 1) := by decide +kernel
theorem dX7_opens_32 : decode cX7_opens 32 = .ok (.istore 6, 2) := by decide +kernel
theorem dX7_opens_34 : decode cX7_opens 34 = .ok (.iload 6, 2) := by decide +kernel
theorem dX7_opens_36 : decode cX7_opens 36 = .ok (.bipush 7, 2) := by decide +kernel
theorem dX7_opens_38 : decode cX7_opens 38 = .ok (.if_icmp .ge 73, 3) := by decide +kernel
theorem dX7_opens_41 : decode cX7_opens 41 = .ok (.aload_n 0, 1) := by decide +kernel
theorem dX7_opens_42 : decode cX7_opens 42 = .ok (.getfield 13, 3) := by decide +kernel
theorem dX7_opens_45 : decode cX7_opens 45 = .ok (.iload 6, 2) := by decide +kernel
theorem dX7_opens_47 : decode cX7_opens 47 = .ok (.iaload, 1) := by decide +kernel
theorem dX7_opens_48 : decode cX7_opens 48 = .ok (.bipush 9, 2) := by decide +kernel
theorem dX7_opens_50 : decode cX7_opens 50 = .ok (.if_icmp .ne 6, 3) := by decide +kernel
theorem dX7_opens_53 : decode cX7_opens 53 = .ok (.goto 52, 3) := by decide +kernel
theorem dX7_opens_56 : decode cX7_opens 56 = .ok (.aload_n 0, 1) := by decide +kernel
theorem dX7_opens_57 : decode cX7_opens 57 = .ok (.getfield 13, 3) := by decide +kernel
theorem dX7_opens_60 : decode cX7_opens 60 = .ok (.iload 6, 2) := by decide +kernel
theorem dX7_opens_62 : decode cX7_opens 62 = .ok (.dup2, 1) := by decide +kernel
theorem dX7_opens_63 : decode cX7_opens 63 = .ok (.iaload, 1) := by decide +kernel
theorem dX7_opens_64 : decode cX7_opens 64 = .ok (.iconst 1, 1) := by decide +kernel
theorem dX7_opens_65 : decode cX7_opens 65 = .ok (.iadd, 1) := by decide +kernel
theorem dX7_opens_66 : decode cX7_opens 66 = .ok (.iastore, 1) := by decide +kernel
theorem dX7_opens_67 : decode cX7_opens 67 = .ok (.aload_n 0, 1) := by decide +kernel
theorem dX7_opens_68 : decode cX7_opens 68 = .ok (.iload_n 1, 1) := by decide +kernel
theorem dX7_opens_69 : decode cX7_opens 69 = .ok (.iload_n 2, 1) := by decide +kernel
theorem dX7_opens_70 : decode cX7_opens 70 = .ok (.iconst (-1), 1) := by decide +kernel
theorem dX7_opens_71 : decode cX7_opens 71 = .ok (.invokevirtual 168, 3) := by decide +kernel
theorem dX7_opens_74 : decode cX7_opens 74 = .ok (.istore 7, 2) := by decide +kernel
theorem dX7_opens_76 : decode cX7_opens 76 = .ok (.aload_n 0, 1) := by decide +kernel
theorem dX7_opens_77 : decode cX7_opens 77 = .ok (.getfield 13, 3) := by decide +kernel
theorem dX7_opens_80 : decode cX7_opens 80 = .ok (.iload 6, 2) := by decide +kernel
theorem dX7_opens_82 : decode cX7_opens 82 = .ok (.dup2, 1) := by decide +kernel
theorem dX7_opens_83 : decode cX7_opens 83 = .ok (.iaload, 1) := by decide +kernel
theorem dX7_opens_84 : decode cX7_opens 84 = .ok (.iconst 1, 1) := by decide +kernel
theorem dX7_opens_85 : decode cX7_opens 85 = .ok (.isub, 1) := by decide +kernel
theorem dX7_opens_86 : decode cX7_opens 86 = .ok (.iastore, 1) := by decide +kernel
theorem dX7_opens_87 : decode cX7_opens 87 = .ok (.iload 7, 2) := by decide +kernel
theorem dX7_opens_89 : decode cX7_opens 89 = .ok (.iload 5, 2) := by decide +kernel
theorem dX7_opens_91 : decode cX7_opens 91 = .ok (.if_icmp .gt 6, 3) := by decide +kernel
theorem dX7_opens_94 : decode cX7_opens 94 = .ok (.goto 11, 3) := by decide +kernel
theorem dX7_opens_97 : decode cX7_opens 97 = .ok (.iload 6, 2) := by decide +kernel
theorem dX7_opens_99 : decode cX7_opens 99 = .ok (.istore 4, 2) := by decide +kernel
theorem dX7_opens_101 : decode cX7_opens 101 = .ok (.iload 7, 2) := by decide +kernel
theorem dX7_opens_103 : decode cX7_opens 103 = .ok (.istore 5, 2) := by decide +kernel
theorem dX7_opens_105 : decode cX7_opens 105 = .ok (.iinc 6 1, 3) := by decide +kernel
theorem dX7_opens_108 : decode cX7_opens 108 = .ok (.goto (-74), 3) := by decide +kernel
theorem dX7_opens_111 : decode cX7_opens 111 = .ok (.iload 4, 2) := by decide +kernel
theorem dX7_opens_113 : decode cX7_opens 113 = .ok (.ireturn, 1) := by decide +kernel
theorem dX7_nears_0 : decode cX7_nears 0 = .ok (.aload_n 0, 1) := by decide +kernel
theorem dX7_nears_1 : decode cX7_nears 1 = .ok (.getfield 22, 3) := by decide +kernel
theorem dX7_nears_4 : decode cX7_nears 4 = .ok (.iconst 5, 1) := by decide +kernel
theorem dX7_nears_5 : decode cX7_nears 5 = .ok (.aload_n 0, 1) := by decide +kernel
theorem dX7_nears_6 : decode cX7_nears 6 = .ok (.getfield 84, 3) := by decide +kernel
theorem dX7_nears_9 : decode cX7_nears 9 = .ok (.imul, 1) := by decide +kernel
theorem dX7_nears_10 : decode cX7_nears 10 = .ok (.iconst 4, 1) := by decide +kernel
theorem dX7_nears_11 : decode cX7_nears 11 = .ok (.iadd, 1) := by decide +kernel
theorem dX7_nears_12 : decode cX7_nears 12 = .ok (.iaload, 1) := by decide +kernel
theorem dX7_nears_13 : decode cX7_nears 13 = .ok (.ifCond .ne 10, 3) := by decide +kernel
theorem dX7_nears_16 : decode cX7_nears 16 = .ok (.aload_n 0, 1) := by decide +kernel
theorem dX7_nears_17 : decode cX7_nears 17 = .ok (.invokevirtual 98, 3) := by decide +kernel
theorem dX7_nears_20 : decode cX7_nears 20 = .ok (.ifCond .eq 4, 3) := by decide +kernel
theorem dX7_nears_23 : decode cX7_nears 23 = .ok (.return_, 1) := by decide +kernel
theorem dX7_nears_24 : decode cX7_nears 24 = .ok (.aload_n 0, 1) := by decide +kernel
theorem dX7_nears_25 : decode cX7_nears 25 = .ok (.getfield 176, 3) := by decide +kernel
theorem dX7_nears_28 : decode cX7_nears 28 = .ok (.ifCond .le 34, 3) := by decide +kernel
theorem dX7_nears_31 : decode cX7_nears 31 = .ok (.aload_n 0, 1) := by decide +kernel
theorem dX7_nears_32 : decode cX7_nears 32 = .ok (.iconst 0, 1) := by decide +kernel
theorem dX7_nears_33 : decode cX7_nears 33 = .ok (.invokevirtual 114, 3) := by decide +kernel
theorem dX7_nears_36 : decode cX7_nears 36 = .ok (.i2l, 1) := by decide +kernel
theorem dX7_nears_37 : decode cX7_nears 37 = .ok (.aload_n 0, 1) := by decide +kernel
theorem dX7_nears_38 : decode cX7_nears 38 = .ok (.getfield 179, 3) := by decide +kernel
theorem dX7_nears_41 : decode cX7_nears 41 = .ok (.i2l, 1) := by decide +kernel
theorem dX7_nears_42 : decode cX7_nears 42 = .ok (.lsub, 1) := by decide +kernel
theorem dX7_nears_43 : decode cX7_nears 43 = .ok (.aload_n 0, 1) := by decide +kernel
theorem dX7_nears_44 : decode cX7_nears 44 = .ok (.iconst 1, 1) := by decide +kernel
theorem dX7_nears_45 : decode cX7_nears 45 = .ok (.invokevirtual 114, 3) := by decide +kernel
theorem dX7_nears_48 : decode cX7_nears 48 = .ok (.i2l, 1) := by decide +kernel
theorem dX7_nears_49 : decode cX7_nears 49 = .ok (.aload_n 0, 1) := by decide +kernel
theorem dX7_nears_50 : decode cX7_nears 50 = .ok (.getfield 182, 3) := by decide +kernel
theorem dX7_nears_53 : decode cX7_nears 53 = .ok (.i2l, 1) := by decide +kernel
theorem dX7_nears_54 : decode cX7_nears 54 = .ok (.lsub, 1) := by decide +kernel
theorem dX7_nears_55 : decode cX7_nears 55 = .ok (.invokestatic 110, 3) := by decide +kernel
theorem dX7_nears_58 : decode cX7_nears 58 = .ok (.ifCond .lt 4, 3) := by decide +kernel
theorem dX7_nears_61 : decode cX7_nears 61 = .ok (.return_, 1) := by decide +kernel
theorem dX7_nears_62 : decode cX7_nears 62 = .ok (.aload_n 0, 1) := by decide +kernel
theorem dX7_nears_63 : decode cX7_nears 63 = .ok (.iconst 1, 1) := by decide +kernel
theorem dX7_nears_64 : decode cX7_nears 64 = .ok (.putfield 176, 3) := by decide +kernel
theorem dX7_nears_67 : decode cX7_nears 67 = .ok (.aload_n 0, 1) := by decide +kernel
theorem dX7_nears_68 : decode cX7_nears 68 = .ok (.aload_n 0, 1) := by decide +kernel
theorem dX7_nears_69 : decode cX7_nears 69 = .ok (.iconst 0, 1) := by decide +kernel
theorem dX7_nears_70 : decode cX7_nears 70 = .ok (.invokevirtual 114, 3) := by decide +kernel
theorem dX7_nears_73 : decode cX7_nears 73 = .ok (.putfield 179, 3) := by decide +kernel
theorem dX7_nears_76 : decode cX7_nears 76 = .ok (.aload_n 0, 1) := by decide +kernel
theorem dX7_nears_77 : decode cX7_nears 77 = .ok (.aload_n 0, 1) := by decide +kernel
theorem dX7_nears_78 : decode cX7_nears 78 = .ok (.iconst 1, 1) := by decide +kernel
theorem dX7_nears_79 : decode cX7_nears 79 = .ok (.invokevirtual 114, 3) := by decide +kernel
theorem dX7_nears_82 : decode cX7_nears 82 = .ok (.putfield 182, 3) := by decide +kernel
theorem dX7_nears_85 : decode cX7_nears 85 = .ok (.iconst 0, 1) := by decide +kernel
theorem dX7_nears_86 : decode cX7_nears 86 = .ok (.istore_n 1, 1) := by decide +kernel
theorem dX7_nears_87 : decode cX7_nears 87 = .ok (.iload_n 1, 1) := by decide +kernel
theorem dX7_nears_88 : decode cX7_nears 88 = .ok (.aload_n 0, 1) := by decide +kernel
theorem dX7_nears_89 : decode cX7_nears 89 = .ok (.getfield 84, 3) := by decide +kernel
theorem dX7_nears_92 : decode cX7_nears 92 = .ok (.if_icmp .ge 21, 3) := by decide +kernel
theorem dX7_nears_95 : decode cX7_nears 95 = .ok (.aload_n 0, 1) := by decide +kernel
theorem dX7_nears_96 : decode cX7_nears 96 = .ok (.getfield 37, 3) := by decide +kernel
theorem dX7_nears_99 : decode cX7_nears 99 = .ok (.iload_n 1, 1) := by decide +kernel
theorem dX7_nears_100 : decode cX7_nears 100 = .ok (.aload_n 0, 1) := by decide +kernel
theorem dX7_nears_101 : decode cX7_nears 101 = .ok (.getfield 25, 3) := by decide +kernel
theorem dX7_nears_104 : decode cX7_nears 104 = .ok (.iload_n 1, 1) := by decide +kernel
theorem dX7_nears_105 : decode cX7_nears 105 = .ok (.iaload, 1) := by decide +kernel
theorem dX7_nears_106 : decode cX7_nears 106 = .ok (.iastore, 1) := by decide +kernel
theorem dX7_nears_107 : decode cX7_nears 107 = .ok (.iinc 1 1, 3) := by decide +kernel
theorem dX7_nears_110 : decode cX7_nears 110 = .ok (.goto (-23), 3) := by decide +kernel
theorem dX7_nears_113 : decode cX7_nears 113 = .ok (.return_, 1) := by decide +kernel
theorem dX7_nearest_0 : decode cX7_nearest 0 = .ok (.iload_n 1, 1) := by decide +kernel
theorem dX7_nearest_1 : decode cX7_nearest 1 = .ok (.iconst 1, 1) := by decide +kernel
theorem dX7_nearest_2 : decode cX7_nearest 2 = .ok (.iconst 5, 1) := by decide +kernel
theorem dX7_nearest_3 : decode cX7_nearest 3 = .ok (.invokestatic 61, 3) := by decide +kernel
theorem dX7_nearest_6 : decode cX7_nearest 6 = .ok (.istore_n 2, 1) := by decide +kernel
theorem dX7_nearest_7 : decode cX7_nearest 7 = .ok (.iload_n 2, 1) := by decide +kernel
theorem dX7_nearest_8 : decode cX7_nearest 8 = .ok (.ifCond .eq 9, 3) := by decide +kernel
theorem dX7_nearest_11 : decode cX7_nearest 11 = .ok (.aload_n 0, 1) := by decide +kernel
theorem dX7_nearest_12 : decode cX7_nearest 12 = .ok (.iload_n 2, 1) := by decide +kernel
theorem dX7_nearest_13 : decode cX7_nearest 13 = .ok (.invokevirtual 44, 3) := by decide +kernel
theorem dX7_nearest_16 : decode cX7_nearest 16 = .ok (.ireturn, 1) := by decide +kernel
theorem dX7_nearest_17 : decode cX7_nearest 17 = .ok (.aload_n 0, 1) := by decide +kernel
theorem dX7_nearest_18 : decode cX7_nearest 18 = .ok (.iload_n 1, 1) := by decide +kernel
theorem dX7_nearest_19 : decode cX7_nearest 19 = .ok (.invokevirtual 165, 3) := by decide +kernel
theorem dX7_nearest_22 : decode cX7_nearest 22 = .ok (.aload_n 0, 1) := by decide +kernel
theorem dX7_nearest_23 : decode cX7_nearest 23 = .ok (.iconst 0, 1) := by decide +kernel
theorem dX7_nearest_24 : decode cX7_nearest 24 = .ok (.putfield 176, 3) := by decide +kernel
theorem dX7_nearest_27 : decode cX7_nearest 27 = .ok (.aload_n 0, 1) := by decide +kernel
theorem dX7_nearest_28 : decode cX7_nearest 28 = .ok (.iconst 0, 1) := by decide +kernel
theorem dX7_nearest_29 : decode cX7_nearest 29 = .ok (.iconst 1, 1) := by decide +kernel
theorem dX7_nearest_30 : decode cX7_nearest 30 = .ok (.invokevirtual 149, 3) := by decide +kernel
theorem dX7_nearest_33 : decode cX7_nearest 33 = .ok (.aload_n 0, 1) := by decide +kernel
theorem dX7_nearest_34 : decode cX7_nearest 34 = .ok (.getfield 176, 3) := by decide +kernel
theorem dX7_nearest_37 : decode cX7_nearest 37 = .ok (.ifCond .ne 6, 3) := by decide +kernel
theorem dX7_nearest_40 : decode cX7_nearest 40 = .ok (.bipush (-9), 2) := by decide +kernel
theorem dX7_nearest_42 : decode cX7_nearest 42 = .ok (.ireturn, 1) := by decide +kernel
theorem dX7_nearest_43 : decode cX7_nearest 43 = .ok (.aload_n 0, 1) := by decide +kernel
theorem dX7_nearest_44 : decode cX7_nearest 44 = .ok (.aload_n 0, 1) := by decide +kernel
theorem dX7_nearest_45 : decode cX7_nearest 45 = .ok (.getfield 37, 3) := by decide +kernel
theorem dX7_nearest_48 : decode cX7_nearest 48 = .ok (.iload_n 1, 1) := by decide +kernel
theorem dX7_nearest_49 : decode cX7_nearest 49 = .ok (.invokevirtual 172, 3) := by decide +kernel
theorem dX7_nearest_52 : decode cX7_nearest 52 = .ok (.iconst 1, 1) := by decide +kernel
theorem dX7_nearest_53 : decode cX7_nearest 53 = .ok (.ireturn, 1) := by decide +kernel
theorem dX7_turn_0 : decode cX7_turn 0 = .ok (.iload_n 1, 1) := by decide +kernel
theorem dX7_turn_1 : decode cX7_turn 1 = .ok (.bipush (-2), 2) := by decide +kernel
theorem dX7_turn_3 : decode cX7_turn 3 = .ok (.iconst 2, 1) := by decide +kernel
theorem dX7_turn_4 : decode cX7_turn 4 = .ok (.invokestatic 61, 3) := by decide +kernel
theorem dX7_turn_7 : decode cX7_turn 7 = .ok (.istore_n 2, 1) := by decide +kernel
theorem dX7_turn_8 : decode cX7_turn 8 = .ok (.iload_n 2, 1) := by decide +kernel
theorem dX7_turn_9 : decode cX7_turn 9 = .ok (.ifCond .ne 15, 3) := by decide +kernel
theorem dX7_turn_12 : decode cX7_turn 12 = .ok (.aload_n 0, 1) := by decide +kernel
theorem dX7_turn_13 : decode cX7_turn 13 = .ok (.getfield 185, 3) := by decide +kernel
theorem dX7_turn_16 : decode cX7_turn 16 = .ok (.bipush 6, 2) := by decide +kernel
theorem dX7_turn_18 : decode cX7_turn 18 = .ok (.if_icmp .ne 6, 3) := by decide +kernel
theorem dX7_turn_21 : decode cX7_turn 21 = .ok (.bipush (-6), 2) := by decide +kernel
theorem dX7_turn_23 : decode cX7_turn 23 = .ok (.istore_n 2, 1) := by decide +kernel
theorem dX7_turn_24 : decode cX7_turn 24 = .ok (.iload_n 2, 1) := by decide +kernel
theorem dX7_turn_25 : decode cX7_turn 25 = .ok (.ifCond .eq 9, 3) := by decide +kernel
theorem dX7_turn_28 : decode cX7_turn 28 = .ok (.aload_n 0, 1) := by decide +kernel
theorem dX7_turn_29 : decode cX7_turn 29 = .ok (.iload_n 2, 1) := by decide +kernel
theorem dX7_turn_30 : decode cX7_turn 30 = .ok (.invokevirtual 44, 3) := by decide +kernel
theorem dX7_turn_33 : decode cX7_turn 33 = .ok (.ireturn, 1) := by decide +kernel
theorem dX7_turn_34 : decode cX7_turn 34 = .ok (.aload_n 0, 1) := by decide +kernel
theorem dX7_turn_35 : decode cX7_turn 35 = .ok (.getfield 31, 3) := by decide +kernel
theorem dX7_turn_38 : decode cX7_turn 38 = .ok (.aload_n 0, 1) := by decide +kernel
theorem dX7_turn_39 : decode cX7_turn 39 = .ok (.getfield 185, 3) := by decide +kernel
theorem dX7_turn_42 : decode cX7_turn 42 = .ok (.iload_n 1, 1) := by decide +kernel
theorem dX7_turn_43 : decode cX7_turn 43 = .ok (.iastore, 1) := by decide +kernel
theorem dX7_turn_44 : decode cX7_turn 44 = .ok (.aload_n 0, 1) := by decide +kernel
theorem dX7_turn_45 : decode cX7_turn 45 = .ok (.dup, 1) := by decide +kernel
theorem dX7_turn_46 : decode cX7_turn 46 = .ok (.getfield 185, 3) := by decide +kernel
theorem dX7_turn_49 : decode cX7_turn 49 = .ok (.iconst 1, 1) := by decide +kernel
theorem dX7_turn_50 : decode cX7_turn 50 = .ok (.iadd, 1) := by decide +kernel
theorem dX7_turn_51 : decode cX7_turn 51 = .ok (.putfield 185, 3) := by decide +kernel
theorem dX7_turn_54 : decode cX7_turn 54 = .ok (.aload_n 0, 1) := by decide +kernel
theorem dX7_turn_55 : decode cX7_turn 55 = .ok (.getfield 185, 3) := by decide +kernel
theorem dX7_turn_58 : decode cX7_turn 58 = .ok (.ireturn, 1) := by decide +kernel
theorem dX7_photo_0 : decode cX7_photo 0 = .ok (.aload_n 0, 1) := by decide +kernel
theorem dX7_photo_1 : decode cX7_photo 1 = .ok (.getfield 185, 3) := by decide +kernel
theorem dX7_photo_4 : decode cX7_photo 4 = .ok (.istore_n 1, 1) := by decide +kernel
theorem dX7_photo_5 : decode cX7_photo 5 = .ok (.aload_n 0, 1) := by decide +kernel
theorem dX7_photo_6 : decode cX7_photo 6 = .ok (.iconst 0, 1) := by decide +kernel
theorem dX7_photo_7 : decode cX7_photo 7 = .ok (.putfield 185, 3) := by decide +kernel
theorem dX7_photo_10 : decode cX7_photo 10 = .ok (.iload_n 1, 1) := by decide +kernel
theorem dX7_photo_11 : decode cX7_photo 11 = .ok (.ifCond .ne 5, 3) := by decide +kernel
theorem dX7_photo_14 : decode cX7_photo 14 = .ok (.iconst 0, 1) := by decide +kernel
theorem dX7_photo_15 : decode cX7_photo 15 = .ok (.ireturn, 1) := by decide +kernel
theorem dX7_photo_16 : decode cX7_photo 16 = .ok (.aload_n 0, 1) := by decide +kernel
theorem dX7_photo_17 : decode cX7_photo 17 = .ok (.iload_n 1, 1) := by decide +kernel
theorem dX7_photo_18 : decode cX7_photo 18 = .ok (.invokevirtual 165, 3) := by decide +kernel
theorem dX7_photo_21 : decode cX7_photo 21 = .ok (.aload_n 0, 1) := by decide +kernel
theorem dX7_photo_22 : decode cX7_photo 22 = .ok (.iconst 0, 1) := by decide +kernel
theorem dX7_photo_23 : decode cX7_photo 23 = .ok (.putfield 142, 3) := by decide +kernel
theorem dX7_photo_26 : decode cX7_photo 26 = .ok (.aload_n 0, 1) := by decide +kernel
theorem dX7_photo_27 : decode cX7_photo 27 = .ok (.iconst 0, 1) := by decide +kernel
theorem dX7_photo_28 : decode cX7_photo 28 = .ok (.iconst 2, 1) := by decide +kernel
theorem dX7_photo_29 : decode cX7_photo 29 = .ok (.invokevirtual 149, 3) := by decide +kernel
theorem dX7_photo_32 : decode cX7_photo 32 = .ok (.aload_n 0, 1) := by decide +kernel
theorem dX7_photo_33 : decode cX7_photo 33 = .ok (.getfield 142, 3) := by decide +kernel
theorem dX7_photo_36 : decode cX7_photo 36 = .ok (.ireturn, 1) := by decide +kernel
theorem dX7_image_0 : decode cX7_image 0 = .ok (.iconst 0, 1) := by decide +kernel
theorem dX7_image_1 : decode cX7_image 1 = .ok (.istore_n 1, 1) := by decide +kernel
theorem dX7_image_2 : decode cX7_image 2 = .ok (.iload_n 1, 1) := by decide +kernel
theorem dX7_image_3 : decode cX7_image 3 = .ok (.bipush 56, 2) := by decide +kernel
theorem dX7_image_5 : decode cX7_image 5 = .ok (.if_icmp .ge 21, 3) := by decide +kernel
theorem dX7_image_8 : decode cX7_image 8 = .ok (.aload_n 0, 1) := by decide +kernel
theorem dX7_image_9 : decode cX7_image 9 = .ok (.getfield 16, 3) := by decide +kernel
theorem dX7_image_12 : decode cX7_image 12 = .ok (.iload_n 1, 1) := by decide +kernel
theorem dX7_image_13 : decode cX7_image 13 = .ok (.aload_n 0, 1) := by decide +kernel
theorem dX7_image_14 : decode cX7_image 14 = .ok (.getfield 13, 3) := by decide +kernel
theorem dX7_image_17 : decode cX7_image 17 = .ok (.iload_n 1, 1) := by decide +kernel
theorem dX7_image_18 : decode cX7_image 18 = .ok (.iaload, 1) := by decide +kernel
theorem dX7_image_19 : decode cX7_image 19 = .ok (.iastore, 1) := by decide +kernel
theorem dX7_image_20 : decode cX7_image 20 = .ok (.iinc 1 1, 3) := by decide +kernel
theorem dX7_image_23 : decode cX7_image 23 = .ok (.goto (-21), 3) := by decide +kernel
theorem dX7_image_26 : decode cX7_image 26 = .ok (.aload_n 0, 1) := by decide +kernel
theorem dX7_image_27 : decode cX7_image 27 = .ok (.iconst 1, 1) := by decide +kernel
theorem dX7_image_28 : decode cX7_image 28 = .ok (.putfield 188, 3) := by decide +kernel
theorem dX7_image_31 : decode cX7_image 31 = .ok (.aload_n 0, 1) := by decide +kernel
theorem dX7_image_32 : decode cX7_image 32 = .ok (.getfield 13, 3) := by decide +kernel
theorem dX7_image_35 : decode cX7_image 35 = .ok (.bipush 55, 2) := by decide +kernel
theorem dX7_image_37 : decode cX7_image 37 = .ok (.iaload, 1) := by decide +kernel
theorem dX7_image_38 : decode cX7_image 38 = .ok (.ireturn, 1) := by decide +kernel
theorem dX7_on_0 : decode cX7_on 0 = .ok (.aload_n 0, 1) := by decide +kernel
theorem dX7_on_1 : decode cX7_on 1 = .ok (.getfield 188, 3) := by decide +kernel
theorem dX7_on_4 : decode cX7_on 4 = .ok (.ifCond .ne 10, 3) := by decide +kernel
theorem dX7_on_7 : decode cX7_on 7 = .ok (.aload_n 0, 1) := by decide +kernel
theorem dX7_on_8 : decode cX7_on 8 = .ok (.bipush (-3), 2) := by decide +kernel
theorem dX7_on_10 : decode cX7_on 10 = .ok (.invokevirtual 44, 3) := by decide +kernel
theorem dX7_on_13 : decode cX7_on 13 = .ok (.ireturn, 1) := by decide +kernel
theorem dX7_on_14 : decode cX7_on 14 = .ok (.iconst 0, 1) := by decide +kernel
theorem dX7_on_15 : decode cX7_on 15 = .ok (.istore_n 1, 1) := by decide +kernel
theorem dX7_on_16 : decode cX7_on 16 = .ok (.iload_n 1, 1) := by decide +kernel
theorem dX7_on_17 : decode cX7_on 17 = .ok (.bipush 56, 2) := by decide +kernel
theorem dX7_on_19 : decode cX7_on 19 = .ok (.if_icmp .ge 21, 3) := by decide +kernel
theorem dX7_on_22 : decode cX7_on 22 = .ok (.aload_n 0, 1) := by decide +kernel
theorem dX7_on_23 : decode cX7_on 23 = .ok (.getfield 13, 3) := by decide +kernel
theorem dX7_on_26 : decode cX7_on 26 = .ok (.iload_n 1, 1) := by decide +kernel
theorem dX7_on_27 : decode cX7_on 27 = .ok (.aload_n 0, 1) := by decide +kernel
theorem dX7_on_28 : decode cX7_on 28 = .ok (.getfield 16, 3) := by decide +kernel
theorem dX7_on_31 : decode cX7_on 31 = .ok (.iload_n 1, 1) := by decide +kernel
theorem dX7_on_32 : decode cX7_on 32 = .ok (.iaload, 1) := by decide +kernel
theorem dX7_on_33 : decode cX7_on 33 = .ok (.iastore, 1) := by decide +kernel
theorem dX7_on_34 : decode cX7_on 34 = .ok (.iinc 1 1, 3) := by decide +kernel
theorem dX7_on_37 : decode cX7_on 37 = .ok (.goto (-21), 3) := by decide +kernel
theorem dX7_on_40 : decode cX7_on 40 = .ok (.aload_n 0, 1) := by decide +kernel
theorem dX7_on_41 : decode cX7_on 41 = .ok (.getfield 13, 3) := by decide +kernel
theorem dX7_on_44 : decode cX7_on 44 = .ok (.bipush 55, 2) := by decide +kernel
theorem dX7_on_46 : decode cX7_on 46 = .ok (.iaload, 1) := by decide +kernel
theorem dX7_on_47 : decode cX7_on 47 = .ok (.ireturn, 1) := by decide +kernel
theorem dX7_count_0 : decode cX7_count 0 = .ok (.iload_n 1, 1) := by decide +kernel
theorem dX7_count_1 : decode cX7_count 1 = .ok (.bipush 10, 2) := by decide +kernel
theorem dX7_count_3 : decode cX7_count 3 = .ok (.if_icmp .le 19, 3) := by decide +kernel
theorem dX7_count_6 : decode cX7_count 6 = .ok (.iload_n 1, 1) := by decide +kernel
theorem dX7_count_7 : decode cX7_count 7 = .ok (.bipush 17, 2) := by decide +kernel
theorem dX7_count_9 : decode cX7_count 9 = .ok (.if_icmp .ge 13, 3) := by decide +kernel
theorem dX7_count_12 : decode cX7_count 12 = .ok (.aload_n 0, 1) := by decide +kernel
theorem dX7_count_13 : decode cX7_count 13 = .ok (.getfield 7, 3) := by decide +kernel
theorem dX7_count_16 : decode cX7_count 16 = .ok (.iload_n 1, 1) := by decide +kernel
theorem dX7_count_17 : decode cX7_count 17 = .ok (.bipush 10, 2) := by decide +kernel
theorem dX7_count_19 : decode cX7_count 19 = .ok (.isub, 1) := by decide +kernel
theorem dX7_count_20 : decode cX7_count 20 = .ok (.iaload, 1) := by decide +kernel
theorem dX7_count_21 : decode cX7_count 21 = .ok (.ireturn, 1) := by decide +kernel
theorem dX7_count_22 : decode cX7_count 22 = .ok (.iconst 0, 1) := by decide +kernel
theorem dX7_count_23 : decode cX7_count 23 = .ok (.istore_n 2, 1) := by decide +kernel
theorem dX7_count_24 : decode cX7_count 24 = .ok (.iload_n 1, 1) := by decide +kernel
theorem dX7_count_25 : decode cX7_count 25 = .ok (.tableswitch 86 0 4 #[35, 43, 68, 76, 81], 35) := by decide +kernel
theorem dX7_count_60 : decode cX7_count 60 = .ok (.aload_n 0, 1) := by decide +kernel
theorem dX7_count_61 : decode cX7_count 61 = .ok (.getfield 13, 3) := by decide +kernel
theorem dX7_count_64 : decode cX7_count 64 = .ok (.bipush 55, 2) := by decide +kernel
theorem dX7_count_66 : decode cX7_count 66 = .ok (.iaload, 1) := by decide +kernel
theorem dX7_count_67 : decode cX7_count 67 = .ok (.ireturn, 1) := by decide +kernel
theorem dX7_count_68 : decode cX7_count 68 = .ok (.iconst 0, 1) := by decide +kernel
theorem dX7_count_69 : decode cX7_count 69 = .ok (.istore_n 3, 1) := by decide +kernel
theorem dX7_count_70 : decode cX7_count 70 = .ok (.iload_n 3, 1) := by decide +kernel
theorem dX7_count_71 : decode cX7_count 71 = .ok (.bipush 7, 2) := by decide +kernel
theorem dX7_count_73 : decode cX7_count 73 = .ok (.if_icmp .ge 18, 3) := by decide +kernel
theorem dX7_count_76 : decode cX7_count 76 = .ok (.iload_n 2, 1) := by decide +kernel
theorem dX7_count_77 : decode cX7_count 77 = .ok (.aload_n 0, 1) := by decide +kernel
theorem dX7_count_78 : decode cX7_count 78 = .ok (.getfield 13, 3) := by decide +kernel
theorem dX7_count_81 : decode cX7_count 81 = .ok (.iload_n 3, 1) := by decide +kernel
theorem dX7_count_82 : decode cX7_count 82 = .ok (.iaload, 1) := by decide +kernel
theorem dX7_count_83 : decode cX7_count 83 = .ok (.iadd, 1) := by decide +kernel
theorem dX7_count_84 : decode cX7_count 84 = .ok (.istore_n 2, 1) := by decide +kernel
theorem dX7_count_85 : decode cX7_count 85 = .ok (.iinc 3 1, 3) := by decide +kernel
theorem dX7_count_88 : decode cX7_count 88 = .ok (.goto (-18), 3) := by decide +kernel
theorem dX7_count_91 : decode cX7_count 91 = .ok (.iload_n 2, 1) := by decide +kernel
theorem dX7_count_92 : decode cX7_count 92 = .ok (.ireturn, 1) := by decide +kernel
theorem dX7_count_93 : decode cX7_count 93 = .ok (.aload_n 0, 1) := by decide +kernel
theorem dX7_count_94 : decode cX7_count 94 = .ok (.getfield 13, 3) := by decide +kernel
theorem dX7_count_97 : decode cX7_count 97 = .ok (.bipush 30, 2) := by decide +kernel
theorem dX7_count_99 : decode cX7_count 99 = .ok (.iaload, 1) := by decide +kernel
theorem dX7_count_100 : decode cX7_count 100 = .ok (.ireturn, 1) := by decide +kernel
theorem dX7_count_101 : decode cX7_count 101 = .ok (.aload_n 0, 1) := by decide +kernel
theorem dX7_count_102 : decode cX7_count 102 = .ok (.getfield 48, 3) := by decide +kernel
theorem dX7_count_105 : decode cX7_count 105 = .ok (.ireturn, 1) := by decide +kernel
theorem dX7_count_106 : decode cX7_count 106 = .ok (.aload_n 0, 1) := by decide +kernel
theorem dX7_count_107 : decode cX7_count 107 = .ok (.getfield 185, 3) := by decide +kernel
theorem dX7_count_110 : decode cX7_count 110 = .ok (.ireturn, 1) := by decide +kernel
theorem dX7_count_111 : decode cX7_count 111 = .ok (.bipush (-9), 2) := by decide +kernel
theorem dX7_count_113 : decode cX7_count 113 = .ok (.ireturn, 1) := by decide +kernel
theorem dJ6_compare_7cf53_0 : decode cJ6_compare_7cf53 0 = .ok (.iload_n 0, 1) := by decide +kernel
theorem dJ6_compare_7cf53_1 : decode cJ6_compare_7cf53 1 = .ok (.iload_n 1, 1) := by decide +kernel
theorem dJ6_compare_7cf53_2 : decode cJ6_compare_7cf53 2 = .ok (.if_icmp .ge 7, 3) := by decide +kernel
theorem dJ6_compare_7cf53_5 : decode cJ6_compare_7cf53 5 = .ok (.iconst (-1), 1) := by decide +kernel
theorem dJ6_compare_7cf53_6 : decode cJ6_compare_7cf53 6 = .ok (.goto 13, 3) := by decide +kernel
theorem dJ6_compare_7cf53_9 : decode cJ6_compare_7cf53 9 = .ok (.iload_n 0, 1) := by decide +kernel
theorem dJ6_compare_7cf53_10 : decode cJ6_compare_7cf53 10 = .ok (.iload_n 1, 1) := by decide +kernel
theorem dJ6_compare_7cf53_11 : decode cJ6_compare_7cf53 11 = .ok (.if_icmp .ne 7, 3) := by decide +kernel
theorem dJ6_compare_7cf53_14 : decode cJ6_compare_7cf53 14 = .ok (.iconst 0, 1) := by decide +kernel
theorem dJ6_compare_7cf53_15 : decode cJ6_compare_7cf53 15 = .ok (.goto 4, 3) := by decide +kernel
theorem dJ6_compare_7cf53_18 : decode cJ6_compare_7cf53 18 = .ok (.iconst 1, 1) := by decide +kernel
theorem dJ6_compare_7cf53_19 : decode cJ6_compare_7cf53 19 = .ok (.ireturn, 1) := by decide +kernel
theorem dJ9_max_7cf53_0 : decode cJ9_max_7cf53 0 = .ok (.iload_n 0, 1) := by decide +kernel
theorem dJ9_max_7cf53_1 : decode cJ9_max_7cf53 1 = .ok (.iload_n 1, 1) := by decide +kernel
theorem dJ9_max_7cf53_2 : decode cJ9_max_7cf53 2 = .ok (.if_icmp .lt 7, 3) := by decide +kernel
theorem dJ9_max_7cf53_5 : decode cJ9_max_7cf53 5 = .ok (.iload_n 0, 1) := by decide +kernel
theorem dJ9_max_7cf53_6 : decode cJ9_max_7cf53 6 = .ok (.goto 4, 3) := by decide +kernel
theorem dJ9_max_7cf53_9 : decode cJ9_max_7cf53 9 = .ok (.iload_n 1, 1) := by decide +kernel
theorem dJ9_max_7cf53_10 : decode cJ9_max_7cf53 10 = .ok (.ireturn, 1) := by decide +kernel
theorem dJ9_min_7cf53_0 : decode cJ9_min_7cf53 0 = .ok (.iload_n 0, 1) := by decide +kernel
theorem dJ9_min_7cf53_1 : decode cJ9_min_7cf53 1 = .ok (.iload_n 1, 1) := by decide +kernel
theorem dJ9_min_7cf53_2 : decode cJ9_min_7cf53 2 = .ok (.if_icmp .gt 7, 3) := by decide +kernel
theorem dJ9_min_7cf53_5 : decode cJ9_min_7cf53 5 = .ok (.iload_n 0, 1) := by decide +kernel
theorem dJ9_min_7cf53_6 : decode cJ9_min_7cf53 6 = .ok (.goto 4, 3) := by decide +kernel
theorem dJ9_min_7cf53_9 : decode cJ9_min_7cf53 9 = .ok (.iload_n 1, 1) := by decide +kernel
theorem dJ9_min_7cf53_10 : decode cJ9_min_7cf53 10 = .ok (.ireturn, 1) := by decide +kernel
theorem dJ7_fill_53178_0 : decode cJ7_fill_53178 0 = .ok (.iconst 0, 1) := by decide +kernel
theorem dJ7_fill_53178_1 : decode cJ7_fill_53178 1 = .ok (.istore_n 2, 1) := by decide +kernel
theorem dJ7_fill_53178_2 : decode cJ7_fill_53178 2 = .ok (.aload_n 0, 1) := by decide +kernel
theorem dJ7_fill_53178_3 : decode cJ7_fill_53178 3 = .ok (.arraylength, 1) := by decide +kernel
theorem dJ7_fill_53178_4 : decode cJ7_fill_53178 4 = .ok (.istore_n 3, 1) := by decide +kernel
theorem dJ7_fill_53178_5 : decode cJ7_fill_53178 5 = .ok (.iload_n 2, 1) := by decide +kernel
theorem dJ7_fill_53178_6 : decode cJ7_fill_53178 6 = .ok (.iload_n 3, 1) := by decide +kernel
theorem dJ7_fill_53178_7 : decode cJ7_fill_53178 7 = .ok (.if_icmp .ge 13, 3) := by decide +kernel
theorem dJ7_fill_53178_10 : decode cJ7_fill_53178 10 = .ok (.aload_n 0, 1) := by decide +kernel
theorem dJ7_fill_53178_11 : decode cJ7_fill_53178 11 = .ok (.iload_n 2, 1) := by decide +kernel
theorem dJ7_fill_53178_12 : decode cJ7_fill_53178 12 = .ok (.iload_n 1, 1) := by decide +kernel
theorem dJ7_fill_53178_13 : decode cJ7_fill_53178 13 = .ok (.iastore, 1) := by decide +kernel
theorem dJ7_fill_53178_14 : decode cJ7_fill_53178 14 = .ok (.iinc 2 1, 3) := by decide +kernel
theorem dJ7_fill_53178_17 : decode cJ7_fill_53178 17 = .ok (.goto (-12), 3) := by decide +kernel
theorem dJ7_fill_53178_20 : decode cJ7_fill_53178 20 = .ok (.return_, 1) := by decide +kernel
theorem dL_law_0 : decode cL_law 0 = .ok (.new 7, 3) := by decide +kernel
theorem dL_law_3 : decode cL_law 3 = .ok (.dup, 1) := by decide +kernel
theorem dL_law_4 : decode cL_law 4 = .ok (.invokespecial 9, 3) := by decide +kernel
theorem dL_law_7 : decode cL_law 7 = .ok (.astore_n 1, 1) := by decide +kernel
theorem dL_law_8 : decode cL_law 8 = .ok (.new 10, 3) := by decide +kernel
theorem dL_law_11 : decode cL_law 11 = .ok (.dup, 1) := by decide +kernel
theorem dL_law_12 : decode cL_law 12 = .ok (.invokespecial 12, 3) := by decide +kernel
theorem dL_law_15 : decode cL_law 15 = .ok (.astore_n 2, 1) := by decide +kernel
theorem dL_law_16 : decode cL_law 16 = .ok (.iconst 0, 1) := by decide +kernel
theorem dL_law_17 : decode cL_law 17 = .ok (.istore_n 3, 1) := by decide +kernel
theorem dL_law_18 : decode cL_law 18 = .ok (.iload_n 3, 1) := by decide +kernel
theorem dL_law_19 : decode cL_law 19 = .ok (.aload_n 0, 1) := by decide +kernel
theorem dL_law_20 : decode cL_law 20 = .ok (.arraylength, 1) := by decide +kernel
theorem dL_law_21 : decode cL_law 21 = .ok (.iconst 4, 1) := by decide +kernel
theorem dL_law_22 : decode cL_law 22 = .ok (.isub, 1) := by decide +kernel
theorem dL_law_23 : decode cL_law 23 = .ok (.if_icmp .gt 857, 3) := by decide +kernel
theorem dL_law_26 : decode cL_law 26 = .ok (.aload_n 0, 1) := by decide +kernel
theorem dL_law_27 : decode cL_law 27 = .ok (.iload_n 3, 1) := by decide +kernel
theorem dL_law_28 : decode cL_law 28 = .ok (.iaload, 1) := by decide +kernel
theorem dL_law_29 : decode cL_law 29 = .ok (.bipush 31, 2) := by decide +kernel
theorem dL_law_31 : decode cL_law 31 = .ok (.iand, 1) := by decide +kernel
theorem dL_law_32 : decode cL_law 32 = .ok (.tableswitch 842 0 25 #[120, 183, 196, 229, 262, 285, 318, 331, 344, 377, 400, 433, 466, 499, 512, 525, 538, 587, 646, 685, 734, 757, 780, 793, 806, 819], 120) := by decide +kernel
theorem dL_law_152 : decode cL_law 152 = .ok (.aload_n 1, 1) := by decide +kernel
theorem dL_law_153 : decode cL_law 153 = .ok (.aload_n 0, 1) := by decide +kernel
theorem dL_law_154 : decode cL_law 154 = .ok (.iload_n 3, 1) := by decide +kernel
theorem dL_law_155 : decode cL_law 155 = .ok (.iconst 1, 1) := by decide +kernel
theorem dL_law_156 : decode cL_law 156 = .ok (.iadd, 1) := by decide +kernel
theorem dL_law_157 : decode cL_law 157 = .ok (.iaload, 1) := by decide +kernel
theorem dL_law_158 : decode cL_law 158 = .ok (.aload_n 0, 1) := by decide +kernel
theorem dL_law_159 : decode cL_law 159 = .ok (.iload_n 3, 1) := by decide +kernel
theorem dL_law_160 : decode cL_law 160 = .ok (.iconst 2, 1) := by decide +kernel
theorem dL_law_161 : decode cL_law 161 = .ok (.iadd, 1) := by decide +kernel
theorem dL_law_162 : decode cL_law 162 = .ok (.iaload, 1) := by decide +kernel
theorem dL_law_163 : decode cL_law 163 = .ok (.i2l, 1) := by decide +kernel
theorem dL_law_164 : decode cL_law 164 = .ok (.bipush 32, 2) := by decide +kernel
theorem dL_law_166 : decode cL_law 166 = .ok (.lshl, 1) := by decide +kernel
theorem dL_law_167 : decode cL_law 167 = .ok (.aload_n 0, 1) := by decide +kernel
theorem dL_law_168 : decode cL_law 168 = .ok (.iload_n 3, 1) := by decide +kernel
theorem dL_law_169 : decode cL_law 169 = .ok (.iconst 3, 1) := by decide +kernel
theorem dL_law_170 : decode cL_law 170 = .ok (.iadd, 1) := by decide +kernel
theorem dL_law_171 : decode cL_law 171 = .ok (.iaload, 1) := by decide +kernel
theorem dL_law_172 : decode cL_law 172 = .ok (.i2l, 1) := by decide +kernel
theorem dL_law_173 : decode cL_law 173 = .ok (.ldc2_w 13, 3) := by decide +kernel
theorem dL_law_176 : decode cL_law 176 = .ok (.land, 1) := by decide +kernel
theorem dL_law_177 : decode cL_law 177 = .ok (.lor, 1) := by decide +kernel
theorem dL_law_178 : decode cL_law 178 = .ok (.invokevirtual 15, 3) := by decide +kernel
theorem dL_law_181 : decode cL_law 181 = .ok (.aload_n 2, 1) := by decide +kernel
theorem dL_law_182 : decode cL_law 182 = .ok (.aload_n 0, 1) := by decide +kernel
theorem dL_law_183 : decode cL_law 183 = .ok (.iload_n 3, 1) := by decide +kernel
theorem dL_law_184 : decode cL_law 184 = .ok (.iconst 1, 1) := by decide +kernel
theorem dL_law_185 : decode cL_law 185 = .ok (.iadd, 1) := by decide +kernel
theorem dL_law_186 : decode cL_law 186 = .ok (.iaload, 1) := by decide +kernel
theorem dL_law_187 : decode cL_law 187 = .ok (.aload_n 0, 1) := by decide +kernel
theorem dL_law_188 : decode cL_law 188 = .ok (.iload_n 3, 1) := by decide +kernel
theorem dL_law_189 : decode cL_law 189 = .ok (.iconst 2, 1) := by decide +kernel
theorem dL_law_190 : decode cL_law 190 = .ok (.iadd, 1) := by decide +kernel
theorem dL_law_191 : decode cL_law 191 = .ok (.iaload, 1) := by decide +kernel
theorem dL_law_192 : decode cL_law 192 = .ok (.i2l, 1) := by decide +kernel
theorem dL_law_193 : decode cL_law 193 = .ok (.bipush 32, 2) := by decide +kernel
theorem dL_law_195 : decode cL_law 195 = .ok (.lshl, 1) := by decide +kernel
theorem dL_law_196 : decode cL_law 196 = .ok (.aload_n 0, 1) := by decide +kernel
theorem dL_law_197 : decode cL_law 197 = .ok (.iload_n 3, 1) := by decide +kernel
theorem dL_law_198 : decode cL_law 198 = .ok (.iconst 3, 1) := by decide +kernel
theorem dL_law_199 : decode cL_law 199 = .ok (.iadd, 1) := by decide +kernel
theorem dL_law_200 : decode cL_law 200 = .ok (.iaload, 1) := by decide +kernel
theorem dL_law_201 : decode cL_law 201 = .ok (.i2l, 1) := by decide +kernel
theorem dL_law_202 : decode cL_law 202 = .ok (.ldc2_w 13, 3) := by decide +kernel
theorem dL_law_205 : decode cL_law 205 = .ok (.land, 1) := by decide +kernel
theorem dL_law_206 : decode cL_law 206 = .ok (.lor, 1) := by decide +kernel
theorem dL_law_207 : decode cL_law 207 = .ok (.invokevirtual 19, 3) := by decide +kernel
theorem dL_law_210 : decode cL_law 210 = .ok (.if_icmp .eq 664, 3) := by decide +kernel
theorem dL_law_213 : decode cL_law 213 = .ok (.iconst 0, 1) := by decide +kernel
theorem dL_law_214 : decode cL_law 214 = .ok (.ireturn, 1) := by decide +kernel
theorem dL_law_215 : decode cL_law 215 = .ok (.aload_n 1, 1) := by decide +kernel
theorem dL_law_216 : decode cL_law 216 = .ok (.invokevirtual 20, 3) := by decide +kernel
theorem dL_law_219 : decode cL_law 219 = .ok (.aload_n 2, 1) := by decide +kernel
theorem dL_law_220 : decode cL_law 220 = .ok (.invokevirtual 24, 3) := by decide +kernel
theorem dL_law_223 : decode cL_law 223 = .ok (.if_icmp .eq 651, 3) := by decide +kernel
theorem dL_law_226 : decode cL_law 226 = .ok (.iconst 0, 1) := by decide +kernel
theorem dL_law_227 : decode cL_law 227 = .ok (.ireturn, 1) := by decide +kernel
theorem dL_law_228 : decode cL_law 228 = .ok (.aload_n 1, 1) := by decide +kernel
theorem dL_law_229 : decode cL_law 229 = .ok (.aload_n 0, 1) := by decide +kernel
theorem dL_law_230 : decode cL_law 230 = .ok (.iload_n 3, 1) := by decide +kernel
theorem dL_law_231 : decode cL_law 231 = .ok (.iconst 1, 1) := by decide +kernel
theorem dL_law_232 : decode cL_law 232 = .ok (.iadd, 1) := by decide +kernel
theorem dL_law_233 : decode cL_law 233 = .ok (.iaload, 1) := by decide +kernel
theorem dL_law_234 : decode cL_law 234 = .ok (.aload_n 0, 1) := by decide +kernel
theorem dL_law_235 : decode cL_law 235 = .ok (.iload_n 3, 1) := by decide +kernel
theorem dL_law_236 : decode cL_law 236 = .ok (.iconst 2, 1) := by decide +kernel
theorem dL_law_237 : decode cL_law 237 = .ok (.iadd, 1) := by decide +kernel
theorem dL_law_238 : decode cL_law 238 = .ok (.iaload, 1) := by decide +kernel
theorem dL_law_239 : decode cL_law 239 = .ok (.invokevirtual 25, 3) := by decide +kernel
theorem dL_law_242 : decode cL_law 242 = .ok (.aload_n 2, 1) := by decide +kernel
theorem dL_law_243 : decode cL_law 243 = .ok (.aload_n 0, 1) := by decide +kernel
theorem dL_law_244 : decode cL_law 244 = .ok (.iload_n 3, 1) := by decide +kernel
theorem dL_law_245 : decode cL_law 245 = .ok (.iconst 1, 1) := by decide +kernel
theorem dL_law_246 : decode cL_law 246 = .ok (.iadd, 1) := by decide +kernel
theorem dL_law_247 : decode cL_law 247 = .ok (.iaload, 1) := by decide +kernel
theorem dL_law_248 : decode cL_law 248 = .ok (.aload_n 0, 1) := by decide +kernel
theorem dL_law_249 : decode cL_law 249 = .ok (.iload_n 3, 1) := by decide +kernel
theorem dL_law_250 : decode cL_law 250 = .ok (.iconst 2, 1) := by decide +kernel
theorem dL_law_251 : decode cL_law 251 = .ok (.iadd, 1) := by decide +kernel
theorem dL_law_252 : decode cL_law 252 = .ok (.iaload, 1) := by decide +kernel
theorem dL_law_253 : decode cL_law 253 = .ok (.invokevirtual 29, 3) := by decide +kernel
theorem dL_law_256 : decode cL_law 256 = .ok (.if_icmp .eq 618, 3) := by decide +kernel
theorem dL_law_259 : decode cL_law 259 = .ok (.iconst 0, 1) := by decide +kernel
theorem dL_law_260 : decode cL_law 260 = .ok (.ireturn, 1) := by decide +kernel
theorem dL_law_261 : decode cL_law 261 = .ok (.aload_n 1, 1) := by decide +kernel
theorem dL_law_262 : decode cL_law 262 = .ok (.aload_n 0, 1) := by decide +kernel
theorem dL_law_263 : decode cL_law 263 = .ok (.iload_n 3, 1) := by decide +kernel
theorem dL_law_264 : decode cL_law 264 = .ok (.iconst 1, 1) := by decide +kernel
theorem dL_law_265 : decode cL_law 265 = .ok (.iadd, 1) := by decide +kernel
theorem dL_law_266 : decode cL_law 266 = .ok (.iaload, 1) := by decide +kernel
theorem dL_law_267 : decode cL_law 267 = .ok (.aload_n 0, 1) := by decide +kernel
theorem dL_law_268 : decode cL_law 268 = .ok (.iload_n 3, 1) := by decide +kernel
theorem dL_law_269 : decode cL_law 269 = .ok (.iconst 2, 1) := by decide +kernel
theorem dL_law_270 : decode cL_law 270 = .ok (.iadd, 1) := by decide +kernel
theorem dL_law_271 : decode cL_law 271 = .ok (.iaload, 1) := by decide +kernel
theorem dL_law_272 : decode cL_law 272 = .ok (.invokevirtual 30, 3) := by decide +kernel
theorem dL_law_275 : decode cL_law 275 = .ok (.aload_n 2, 1) := by decide +kernel
theorem dL_law_276 : decode cL_law 276 = .ok (.aload_n 0, 1) := by decide +kernel
theorem dL_law_277 : decode cL_law 277 = .ok (.iload_n 3, 1) := by decide +kernel
theorem dL_law_278 : decode cL_law 278 = .ok (.iconst 1, 1) := by decide +kernel
theorem dL_law_279 : decode cL_law 279 = .ok (.iadd, 1) := by decide +kernel
theorem dL_law_280 : decode cL_law 280 = .ok (.iaload, 1) := by decide +kernel
theorem dL_law_281 : decode cL_law 281 = .ok (.aload_n 0, 1) := by decide +kernel
theorem dL_law_282 : decode cL_law 282 = .ok (.iload_n 3, 1) := by decide +kernel
theorem dL_law_283 : decode cL_law 283 = .ok (.iconst 2, 1) := by decide +kernel
theorem dL_law_284 : decode cL_law 284 = .ok (.iadd, 1) := by decide +kernel
theorem dL_law_285 : decode cL_law 285 = .ok (.iaload, 1) := by decide +kernel
theorem dL_law_286 : decode cL_law 286 = .ok (.invokevirtual 33, 3) := by decide +kernel
theorem dL_law_289 : decode cL_law 289 = .ok (.if_icmp .eq 585, 3) := by decide +kernel
theorem dL_law_292 : decode cL_law 292 = .ok (.iconst 0, 1) := by decide +kernel
theorem dL_law_293 : decode cL_law 293 = .ok (.ireturn, 1) := by decide +kernel
theorem dL_law_294 : decode cL_law 294 = .ok (.aload_n 1, 1) := by decide +kernel
theorem dL_law_295 : decode cL_law 295 = .ok (.aload_n 0, 1) := by decide +kernel
theorem dL_law_296 : decode cL_law 296 = .ok (.iload_n 3, 1) := by decide +kernel
theorem dL_law_297 : decode cL_law 297 = .ok (.iconst 1, 1) := by decide +kernel
theorem dL_law_298 : decode cL_law 298 = .ok (.iadd, 1) := by decide +kernel
theorem dL_law_299 : decode cL_law 299 = .ok (.iaload, 1) := by decide +kernel
theorem dL_law_300 : decode cL_law 300 = .ok (.invokevirtual 34, 3) := by decide +kernel
theorem dL_law_303 : decode cL_law 303 = .ok (.aload_n 2, 1) := by decide +kernel
theorem dL_law_304 : decode cL_law 304 = .ok (.aload_n 0, 1) := by decide +kernel
theorem dL_law_305 : decode cL_law 305 = .ok (.iload_n 3, 1) := by decide +kernel
theorem dL_law_306 : decode cL_law 306 = .ok (.iconst 1, 1) := by decide +kernel
theorem dL_law_307 : decode cL_law 307 = .ok (.iadd, 1) := by decide +kernel
theorem dL_law_308 : decode cL_law 308 = .ok (.iaload, 1) := by decide +kernel
theorem dL_law_309 : decode cL_law 309 = .ok (.invokevirtual 38, 3) := by decide +kernel
theorem dL_law_312 : decode cL_law 312 = .ok (.if_icmp .eq 562, 3) := by decide +kernel
theorem dL_law_315 : decode cL_law 315 = .ok (.iconst 0, 1) := by decide +kernel
theorem dL_law_316 : decode cL_law 316 = .ok (.ireturn, 1) := by decide +kernel
theorem dL_law_317 : decode cL_law 317 = .ok (.aload_n 1, 1) := by decide +kernel
theorem dL_law_318 : decode cL_law 318 = .ok (.aload_n 0, 1) := by decide +kernel
theorem dL_law_319 : decode cL_law 319 = .ok (.iload_n 3, 1) := by decide +kernel
theorem dL_law_320 : decode cL_law 320 = .ok (.iconst 1, 1) := by decide +kernel
theorem dL_law_321 : decode cL_law 321 = .ok (.iadd, 1) := by decide +kernel
theorem dL_law_322 : decode cL_law 322 = .ok (.iaload, 1) := by decide +kernel
theorem dL_law_323 : decode cL_law 323 = .ok (.aload_n 0, 1) := by decide +kernel
theorem dL_law_324 : decode cL_law 324 = .ok (.iload_n 3, 1) := by decide +kernel
theorem dL_law_325 : decode cL_law 325 = .ok (.iconst 2, 1) := by decide +kernel
theorem dL_law_326 : decode cL_law 326 = .ok (.iadd, 1) := by decide +kernel
theorem dL_law_327 : decode cL_law 327 = .ok (.iaload, 1) := by decide +kernel
theorem dL_law_328 : decode cL_law 328 = .ok (.invokevirtual 39, 3) := by decide +kernel
theorem dL_law_331 : decode cL_law 331 = .ok (.aload_n 2, 1) := by decide +kernel
theorem dL_law_332 : decode cL_law 332 = .ok (.aload_n 0, 1) := by decide +kernel
theorem dL_law_333 : decode cL_law 333 = .ok (.iload_n 3, 1) := by decide +kernel
theorem dL_law_334 : decode cL_law 334 = .ok (.iconst 1, 1) := by decide +kernel
theorem dL_law_335 : decode cL_law 335 = .ok (.iadd, 1) := by decide +kernel
theorem dL_law_336 : decode cL_law 336 = .ok (.iaload, 1) := by decide +kernel
theorem dL_law_337 : decode cL_law 337 = .ok (.aload_n 0, 1) := by decide +kernel
theorem dL_law_338 : decode cL_law 338 = .ok (.iload_n 3, 1) := by decide +kernel
theorem dL_law_339 : decode cL_law 339 = .ok (.iconst 2, 1) := by decide +kernel
theorem dL_law_340 : decode cL_law 340 = .ok (.iadd, 1) := by decide +kernel
theorem dL_law_341 : decode cL_law 341 = .ok (.iaload, 1) := by decide +kernel
theorem dL_law_342 : decode cL_law 342 = .ok (.invokevirtual 42, 3) := by decide +kernel
theorem dL_law_345 : decode cL_law 345 = .ok (.if_icmp .eq 529, 3) := by decide +kernel
theorem dL_law_348 : decode cL_law 348 = .ok (.iconst 0, 1) := by decide +kernel
theorem dL_law_349 : decode cL_law 349 = .ok (.ireturn, 1) := by decide +kernel
theorem dL_law_350 : decode cL_law 350 = .ok (.aload_n 1, 1) := by decide +kernel
theorem dL_law_351 : decode cL_law 351 = .ok (.invokevirtual 43, 3) := by decide +kernel
theorem dL_law_354 : decode cL_law 354 = .ok (.aload_n 2, 1) := by decide +kernel
theorem dL_law_355 : decode cL_law 355 = .ok (.invokevirtual 46, 3) := by decide +kernel
theorem dL_law_358 : decode cL_law 358 = .ok (.if_icmp .eq 516, 3) := by decide +kernel
theorem dL_law_361 : decode cL_law 361 = .ok (.iconst 0, 1) := by decide +kernel
theorem dL_law_362 : decode cL_law 362 = .ok (.ireturn, 1) := by decide +kernel
theorem dL_law_363 : decode cL_law 363 = .ok (.aload_n 1, 1) := by decide +kernel
theorem dL_law_364 : decode cL_law 364 = .ok (.invokevirtual 47, 3) := by decide +kernel
theorem dL_law_367 : decode cL_law 367 = .ok (.aload_n 2, 1) := by decide +kernel
theorem dL_law_368 : decode cL_law 368 = .ok (.invokevirtual 50, 3) := by decide +kernel
theorem dL_law_371 : decode cL_law 371 = .ok (.if_icmp .eq 503, 3) := by decide +kernel
theorem dL_law_374 : decode cL_law 374 = .ok (.iconst 0, 1) := by decide +kernel
theorem dL_law_375 : decode cL_law 375 = .ok (.ireturn, 1) := by decide +kernel
theorem dL_law_376 : decode cL_law 376 = .ok (.aload_n 1, 1) := by decide +kernel
theorem dL_law_377 : decode cL_law 377 = .ok (.aload_n 0, 1) := by decide +kernel
theorem dL_law_378 : decode cL_law 378 = .ok (.iload_n 3, 1) := by decide +kernel
theorem dL_law_379 : decode cL_law 379 = .ok (.iconst 1, 1) := by decide +kernel
theorem dL_law_380 : decode cL_law 380 = .ok (.iadd, 1) := by decide +kernel
theorem dL_law_381 : decode cL_law 381 = .ok (.iaload, 1) := by decide +kernel
theorem dL_law_382 : decode cL_law 382 = .ok (.aload_n 0, 1) := by decide +kernel
theorem dL_law_383 : decode cL_law 383 = .ok (.iload_n 3, 1) := by decide +kernel
theorem dL_law_384 : decode cL_law 384 = .ok (.iconst 2, 1) := by decide +kernel
theorem dL_law_385 : decode cL_law 385 = .ok (.iadd, 1) := by decide +kernel
theorem dL_law_386 : decode cL_law 386 = .ok (.iaload, 1) := by decide +kernel
theorem dL_law_387 : decode cL_law 387 = .ok (.invokevirtual 51, 3) := by decide +kernel
theorem dL_law_390 : decode cL_law 390 = .ok (.aload_n 2, 1) := by decide +kernel
theorem dL_law_391 : decode cL_law 391 = .ok (.aload_n 0, 1) := by decide +kernel
theorem dL_law_392 : decode cL_law 392 = .ok (.iload_n 3, 1) := by decide +kernel
theorem dL_law_393 : decode cL_law 393 = .ok (.iconst 1, 1) := by decide +kernel
theorem dL_law_394 : decode cL_law 394 = .ok (.iadd, 1) := by decide +kernel
theorem dL_law_395 : decode cL_law 395 = .ok (.iaload, 1) := by decide +kernel
theorem dL_law_396 : decode cL_law 396 = .ok (.aload_n 0, 1) := by decide +kernel
theorem dL_law_397 : decode cL_law 397 = .ok (.iload_n 3, 1) := by decide +kernel
theorem dL_law_398 : decode cL_law 398 = .ok (.iconst 2, 1) := by decide +kernel
theorem dL_law_399 : decode cL_law 399 = .ok (.iadd, 1) := by decide +kernel
theorem dL_law_400 : decode cL_law 400 = .ok (.iaload, 1) := by decide +kernel
theorem dL_law_401 : decode cL_law 401 = .ok (.invokevirtual 54, 3) := by decide +kernel
theorem dL_law_404 : decode cL_law 404 = .ok (.if_icmp .eq 470, 3) := by decide +kernel
theorem dL_law_407 : decode cL_law 407 = .ok (.iconst 0, 1) := by decide +kernel
theorem dL_law_408 : decode cL_law 408 = .ok (.ireturn, 1) := by decide +kernel
theorem dL_law_409 : decode cL_law 409 = .ok (.aload_n 1, 1) := by decide +kernel
theorem dL_law_410 : decode cL_law 410 = .ok (.aload_n 0, 1) := by decide +kernel
theorem dL_law_411 : decode cL_law 411 = .ok (.iload_n 3, 1) := by decide +kernel
theorem dL_law_412 : decode cL_law 412 = .ok (.iconst 1, 1) := by decide +kernel
theorem dL_law_413 : decode cL_law 413 = .ok (.iadd, 1) := by decide +kernel
theorem dL_law_414 : decode cL_law 414 = .ok (.iaload, 1) := by decide +kernel
theorem dL_law_415 : decode cL_law 415 = .ok (.invokevirtual 55, 3) := by decide +kernel
theorem dL_law_418 : decode cL_law 418 = .ok (.aload_n 2, 1) := by decide +kernel
theorem dL_law_419 : decode cL_law 419 = .ok (.aload_n 0, 1) := by decide +kernel
theorem dL_law_420 : decode cL_law 420 = .ok (.iload_n 3, 1) := by decide +kernel
theorem dL_law_421 : decode cL_law 421 = .ok (.iconst 1, 1) := by decide +kernel
theorem dL_law_422 : decode cL_law 422 = .ok (.iadd, 1) := by decide +kernel
theorem dL_law_423 : decode cL_law 423 = .ok (.iaload, 1) := by decide +kernel
theorem dL_law_424 : decode cL_law 424 = .ok (.invokevirtual 58, 3) := by decide +kernel
theorem dL_law_427 : decode cL_law 427 = .ok (.if_icmp .eq 447, 3) := by decide +kernel
theorem dL_law_430 : decode cL_law 430 = .ok (.iconst 0, 1) := by decide +kernel
theorem dL_law_431 : decode cL_law 431 = .ok (.ireturn, 1) := by decide +kernel
theorem dL_law_432 : decode cL_law 432 = .ok (.aload_n 1, 1) := by decide +kernel
theorem dL_law_433 : decode cL_law 433 = .ok (.aload_n 0, 1) := by decide +kernel
theorem dL_law_434 : decode cL_law 434 = .ok (.iload_n 3, 1) := by decide +kernel
theorem dL_law_435 : decode cL_law 435 = .ok (.iconst 1, 1) := by decide +kernel
theorem dL_law_436 : decode cL_law 436 = .ok (.iadd, 1) := by decide +kernel
theorem dL_law_437 : decode cL_law 437 = .ok (.iaload, 1) := by decide +kernel
theorem dL_law_438 : decode cL_law 438 = .ok (.aload_n 0, 1) := by decide +kernel
theorem dL_law_439 : decode cL_law 439 = .ok (.iload_n 3, 1) := by decide +kernel
theorem dL_law_440 : decode cL_law 440 = .ok (.iconst 2, 1) := by decide +kernel
theorem dL_law_441 : decode cL_law 441 = .ok (.iadd, 1) := by decide +kernel
theorem dL_law_442 : decode cL_law 442 = .ok (.iaload, 1) := by decide +kernel
theorem dL_law_443 : decode cL_law 443 = .ok (.invokevirtual 59, 3) := by decide +kernel
theorem dL_law_446 : decode cL_law 446 = .ok (.aload_n 2, 1) := by decide +kernel
theorem dL_law_447 : decode cL_law 447 = .ok (.aload_n 0, 1) := by decide +kernel
theorem dL_law_448 : decode cL_law 448 = .ok (.iload_n 3, 1) := by decide +kernel
theorem dL_law_449 : decode cL_law 449 = .ok (.iconst 1, 1) := by decide +kernel
theorem dL_law_450 : decode cL_law 450 = .ok (.iadd, 1) := by decide +kernel
theorem dL_law_451 : decode cL_law 451 = .ok (.iaload, 1) := by decide +kernel
theorem dL_law_452 : decode cL_law 452 = .ok (.aload_n 0, 1) := by decide +kernel
theorem dL_law_453 : decode cL_law 453 = .ok (.iload_n 3, 1) := by decide +kernel
theorem dL_law_454 : decode cL_law 454 = .ok (.iconst 2, 1) := by decide +kernel
theorem dL_law_455 : decode cL_law 455 = .ok (.iadd, 1) := by decide +kernel
theorem dL_law_456 : decode cL_law 456 = .ok (.iaload, 1) := by decide +kernel
theorem dL_law_457 : decode cL_law 457 = .ok (.invokevirtual 62, 3) := by decide +kernel
theorem dL_law_460 : decode cL_law 460 = .ok (.if_icmp .eq 414, 3) := by decide +kernel
theorem dL_law_463 : decode cL_law 463 = .ok (.iconst 0, 1) := by decide +kernel
theorem dL_law_464 : decode cL_law 464 = .ok (.ireturn, 1) := by decide +kernel
theorem dL_law_465 : decode cL_law 465 = .ok (.aload_n 1, 1) := by decide +kernel
theorem dL_law_466 : decode cL_law 466 = .ok (.aload_n 0, 1) := by decide +kernel
theorem dL_law_467 : decode cL_law 467 = .ok (.iload_n 3, 1) := by decide +kernel
theorem dL_law_468 : decode cL_law 468 = .ok (.iconst 1, 1) := by decide +kernel
theorem dL_law_469 : decode cL_law 469 = .ok (.iadd, 1) := by decide +kernel
theorem dL_law_470 : decode cL_law 470 = .ok (.iaload, 1) := by decide +kernel
theorem dL_law_471 : decode cL_law 471 = .ok (.aload_n 0, 1) := by decide +kernel
theorem dL_law_472 : decode cL_law 472 = .ok (.iload_n 3, 1) := by decide +kernel
theorem dL_law_473 : decode cL_law 473 = .ok (.iconst 2, 1) := by decide +kernel
theorem dL_law_474 : decode cL_law 474 = .ok (.iadd, 1) := by decide +kernel
theorem dL_law_475 : decode cL_law 475 = .ok (.iaload, 1) := by decide +kernel
theorem dL_law_476 : decode cL_law 476 = .ok (.invokevirtual 63, 3) := by decide +kernel
theorem dL_law_479 : decode cL_law 479 = .ok (.aload_n 2, 1) := by decide +kernel
theorem dL_law_480 : decode cL_law 480 = .ok (.aload_n 0, 1) := by decide +kernel
theorem dL_law_481 : decode cL_law 481 = .ok (.iload_n 3, 1) := by decide +kernel
theorem dL_law_482 : decode cL_law 482 = .ok (.iconst 1, 1) := by decide +kernel
theorem dL_law_483 : decode cL_law 483 = .ok (.iadd, 1) := by decide +kernel
theorem dL_law_484 : decode cL_law 484 = .ok (.iaload, 1) := by decide +kernel
theorem dL_law_485 : decode cL_law 485 = .ok (.aload_n 0, 1) := by decide +kernel
theorem dL_law_486 : decode cL_law 486 = .ok (.iload_n 3, 1) := by decide +kernel
theorem dL_law_487 : decode cL_law 487 = .ok (.iconst 2, 1) := by decide +kernel
theorem dL_law_488 : decode cL_law 488 = .ok (.iadd, 1) := by decide +kernel
theorem dL_law_489 : decode cL_law 489 = .ok (.iaload, 1) := by decide +kernel
theorem dL_law_490 : decode cL_law 490 = .ok (.invokevirtual 66, 3) := by decide +kernel
theorem dL_law_493 : decode cL_law 493 = .ok (.if_icmp .eq 381, 3) := by decide +kernel
theorem dL_law_496 : decode cL_law 496 = .ok (.iconst 0, 1) := by decide +kernel
theorem dL_law_497 : decode cL_law 497 = .ok (.ireturn, 1) := by decide +kernel
theorem dL_law_498 : decode cL_law 498 = .ok (.aload_n 1, 1) := by decide +kernel
theorem dL_law_499 : decode cL_law 499 = .ok (.aload_n 0, 1) := by decide +kernel
theorem dL_law_500 : decode cL_law 500 = .ok (.iload_n 3, 1) := by decide +kernel
theorem dL_law_501 : decode cL_law 501 = .ok (.iconst 1, 1) := by decide +kernel
theorem dL_law_502 : decode cL_law 502 = .ok (.iadd, 1) := by decide +kernel
theorem dL_law_503 : decode cL_law 503 = .ok (.iaload, 1) := by decide +kernel
theorem dL_law_504 : decode cL_law 504 = .ok (.aload_n 0, 1) := by decide +kernel
theorem dL_law_505 : decode cL_law 505 = .ok (.iload_n 3, 1) := by decide +kernel
theorem dL_law_506 : decode cL_law 506 = .ok (.iconst 2, 1) := by decide +kernel
theorem dL_law_507 : decode cL_law 507 = .ok (.iadd, 1) := by decide +kernel
theorem dL_law_508 : decode cL_law 508 = .ok (.iaload, 1) := by decide +kernel
theorem dL_law_509 : decode cL_law 509 = .ok (.invokevirtual 67, 3) := by decide +kernel
theorem dL_law_512 : decode cL_law 512 = .ok (.aload_n 2, 1) := by decide +kernel
theorem dL_law_513 : decode cL_law 513 = .ok (.aload_n 0, 1) := by decide +kernel
theorem dL_law_514 : decode cL_law 514 = .ok (.iload_n 3, 1) := by decide +kernel
theorem dL_law_515 : decode cL_law 515 = .ok (.iconst 1, 1) := by decide +kernel
theorem dL_law_516 : decode cL_law 516 = .ok (.iadd, 1) := by decide +kernel
theorem dL_law_517 : decode cL_law 517 = .ok (.iaload, 1) := by decide +kernel
theorem dL_law_518 : decode cL_law 518 = .ok (.aload_n 0, 1) := by decide +kernel
theorem dL_law_519 : decode cL_law 519 = .ok (.iload_n 3, 1) := by decide +kernel
theorem dL_law_520 : decode cL_law 520 = .ok (.iconst 2, 1) := by decide +kernel
theorem dL_law_521 : decode cL_law 521 = .ok (.iadd, 1) := by decide +kernel
theorem dL_law_522 : decode cL_law 522 = .ok (.iaload, 1) := by decide +kernel
theorem dL_law_523 : decode cL_law 523 = .ok (.invokevirtual 70, 3) := by decide +kernel
theorem dL_law_526 : decode cL_law 526 = .ok (.if_icmp .eq 348, 3) := by decide +kernel
theorem dL_law_529 : decode cL_law 529 = .ok (.iconst 0, 1) := by decide +kernel
theorem dL_law_530 : decode cL_law 530 = .ok (.ireturn, 1) := by decide +kernel
theorem dL_law_531 : decode cL_law 531 = .ok (.aload_n 1, 1) := by decide +kernel
theorem dL_law_532 : decode cL_law 532 = .ok (.invokevirtual 71, 3) := by decide +kernel
theorem dL_law_535 : decode cL_law 535 = .ok (.aload_n 2, 1) := by decide +kernel
theorem dL_law_536 : decode cL_law 536 = .ok (.invokevirtual 74, 3) := by decide +kernel
theorem dL_law_539 : decode cL_law 539 = .ok (.if_icmp .eq 335, 3) := by decide +kernel
theorem dL_law_542 : decode cL_law 542 = .ok (.iconst 0, 1) := by decide +kernel
theorem dL_law_543 : decode cL_law 543 = .ok (.ireturn, 1) := by decide +kernel
theorem dL_law_544 : decode cL_law 544 = .ok (.aload_n 1, 1) := by decide +kernel
theorem dL_law_545 : decode cL_law 545 = .ok (.invokevirtual 75, 3) := by decide +kernel
theorem dL_law_548 : decode cL_law 548 = .ok (.aload_n 2, 1) := by decide +kernel
theorem dL_law_549 : decode cL_law 549 = .ok (.invokevirtual 78, 3) := by decide +kernel
theorem dL_law_552 : decode cL_law 552 = .ok (.if_icmp .eq 322, 3) := by decide +kernel
theorem dL_law_555 : decode cL_law 555 = .ok (.iconst 0, 1) := by decide +kernel
theorem dL_law_556 : decode cL_law 556 = .ok (.ireturn, 1) := by decide +kernel
theorem dL_law_557 : decode cL_law 557 = .ok (.aload_n 1, 1) := by decide +kernel
theorem dL_law_558 : decode cL_law 558 = .ok (.invokevirtual 79, 3) := by decide +kernel
theorem dL_law_561 : decode cL_law 561 = .ok (.aload_n 2, 1) := by decide +kernel
theorem dL_law_562 : decode cL_law 562 = .ok (.invokevirtual 82, 3) := by decide +kernel
theorem dL_law_565 : decode cL_law 565 = .ok (.if_icmp .eq 309, 3) := by decide +kernel
theorem dL_law_568 : decode cL_law 568 = .ok (.iconst 0, 1) := by decide +kernel
theorem dL_law_569 : decode cL_law 569 = .ok (.ireturn, 1) := by decide +kernel
theorem dL_law_570 : decode cL_law 570 = .ok (.aload_n 1, 1) := by decide +kernel
theorem dL_law_571 : decode cL_law 571 = .ok (.aload_n 0, 1) := by decide +kernel
theorem dL_law_572 : decode cL_law 572 = .ok (.iload_n 3, 1) := by decide +kernel
theorem dL_law_573 : decode cL_law 573 = .ok (.iconst 1, 1) := by decide +kernel
theorem dL_law_574 : decode cL_law 574 = .ok (.iadd, 1) := by decide +kernel
theorem dL_law_575 : decode cL_law 575 = .ok (.iaload, 1) := by decide +kernel
theorem dL_law_576 : decode cL_law 576 = .ok (.aload_n 0, 1) := by decide +kernel
theorem dL_law_577 : decode cL_law 577 = .ok (.iload_n 3, 1) := by decide +kernel
theorem dL_law_578 : decode cL_law 578 = .ok (.iconst 2, 1) := by decide +kernel
theorem dL_law_579 : decode cL_law 579 = .ok (.iadd, 1) := by decide +kernel
theorem dL_law_580 : decode cL_law 580 = .ok (.iaload, 1) := by decide +kernel
theorem dL_law_581 : decode cL_law 581 = .ok (.ifCond .eq 7, 3) := by decide +kernel
theorem dL_law_584 : decode cL_law 584 = .ok (.iconst 1, 1) := by decide +kernel
theorem dL_law_585 : decode cL_law 585 = .ok (.goto 4, 3) := by decide +kernel
theorem dL_law_588 : decode cL_law 588 = .ok (.iconst 0, 1) := by decide +kernel
theorem dL_law_589 : decode cL_law 589 = .ok (.invokevirtual 83, 3) := by decide +kernel
theorem dL_law_592 : decode cL_law 592 = .ok (.aload_n 2, 1) := by decide +kernel
theorem dL_law_593 : decode cL_law 593 = .ok (.aload_n 0, 1) := by decide +kernel
theorem dL_law_594 : decode cL_law 594 = .ok (.iload_n 3, 1) := by decide +kernel
theorem dL_law_595 : decode cL_law 595 = .ok (.iconst 1, 1) := by decide +kernel
theorem dL_law_596 : decode cL_law 596 = .ok (.iadd, 1) := by decide +kernel
theorem dL_law_597 : decode cL_law 597 = .ok (.iaload, 1) := by decide +kernel
theorem dL_law_598 : decode cL_law 598 = .ok (.aload_n 0, 1) := by decide +kernel
theorem dL_law_599 : decode cL_law 599 = .ok (.iload_n 3, 1) := by decide +kernel
theorem dL_law_600 : decode cL_law 600 = .ok (.iconst 2, 1) := by decide +kernel
theorem dL_law_601 : decode cL_law 601 = .ok (.iadd, 1) := by decide +kernel
theorem dL_law_602 : decode cL_law 602 = .ok (.iaload, 1) := by decide +kernel
theorem dL_law_603 : decode cL_law 603 = .ok (.ifCond .eq 7, 3) := by decide +kernel
theorem dL_law_606 : decode cL_law 606 = .ok (.iconst 1, 1) := by decide +kernel
theorem dL_law_607 : decode cL_law 607 = .ok (.goto 4, 3) := by decide +kernel
theorem dL_law_610 : decode cL_law 610 = .ok (.iconst 0, 1) := by decide +kernel
theorem dL_law_611 : decode cL_law 611 = .ok (.invokevirtual 87, 3) := by decide +kernel
theorem dL_law_614 : decode cL_law 614 = .ok (.if_icmp .eq 260, 3) := by decide +kernel
theorem dL_law_617 : decode cL_law 617 = .ok (.iconst 0, 1) := by decide +kernel
theorem dL_law_618 : decode cL_law 618 = .ok (.ireturn, 1) := by decide +kernel
theorem dL_law_619 : decode cL_law 619 = .ok (.aload_n 1, 1) := by decide +kernel
theorem dL_law_620 : decode cL_law 620 = .ok (.aload_n 0, 1) := by decide +kernel
theorem dL_law_621 : decode cL_law 621 = .ok (.iload_n 3, 1) := by decide +kernel
theorem dL_law_622 : decode cL_law 622 = .ok (.iconst 1, 1) := by decide +kernel
theorem dL_law_623 : decode cL_law 623 = .ok (.iadd, 1) := by decide +kernel
theorem dL_law_624 : decode cL_law 624 = .ok (.iaload, 1) := by decide +kernel
theorem dL_law_625 : decode cL_law 625 = .ok (.aload_n 0, 1) := by decide +kernel
theorem dL_law_626 : decode cL_law 626 = .ok (.iload_n 3, 1) := by decide +kernel
theorem dL_law_627 : decode cL_law 627 = .ok (.iconst 2, 1) := by decide +kernel
theorem dL_law_628 : decode cL_law 628 = .ok (.iadd, 1) := by decide +kernel
theorem dL_law_629 : decode cL_law 629 = .ok (.iaload, 1) := by decide +kernel
theorem dL_law_630 : decode cL_law 630 = .ok (.ifCond .eq 7, 3) := by decide +kernel
theorem dL_law_633 : decode cL_law 633 = .ok (.iconst 1, 1) := by decide +kernel
theorem dL_law_634 : decode cL_law 634 = .ok (.goto 4, 3) := by decide +kernel
theorem dL_law_637 : decode cL_law 637 = .ok (.iconst 0, 1) := by decide +kernel
theorem dL_law_638 : decode cL_law 638 = .ok (.aload_n 0, 1) := by decide +kernel
theorem dL_law_639 : decode cL_law 639 = .ok (.iload_n 3, 1) := by decide +kernel
theorem dL_law_640 : decode cL_law 640 = .ok (.iconst 3, 1) := by decide +kernel
theorem dL_law_641 : decode cL_law 641 = .ok (.iadd, 1) := by decide +kernel
theorem dL_law_642 : decode cL_law 642 = .ok (.iaload, 1) := by decide +kernel
theorem dL_law_643 : decode cL_law 643 = .ok (.invokevirtual 88, 3) := by decide +kernel
theorem dL_law_646 : decode cL_law 646 = .ok (.aload_n 2, 1) := by decide +kernel
theorem dL_law_647 : decode cL_law 647 = .ok (.aload_n 0, 1) := by decide +kernel
theorem dL_law_648 : decode cL_law 648 = .ok (.iload_n 3, 1) := by decide +kernel
theorem dL_law_649 : decode cL_law 649 = .ok (.iconst 1, 1) := by decide +kernel
theorem dL_law_650 : decode cL_law 650 = .ok (.iadd, 1) := by decide +kernel
theorem dL_law_651 : decode cL_law 651 = .ok (.iaload, 1) := by decide +kernel
theorem dL_law_652 : decode cL_law 652 = .ok (.aload_n 0, 1) := by decide +kernel
theorem dL_law_653 : decode cL_law 653 = .ok (.iload_n 3, 1) := by decide +kernel
theorem dL_law_654 : decode cL_law 654 = .ok (.iconst 2, 1) := by decide +kernel
theorem dL_law_655 : decode cL_law 655 = .ok (.iadd, 1) := by decide +kernel
theorem dL_law_656 : decode cL_law 656 = .ok (.iaload, 1) := by decide +kernel
theorem dL_law_657 : decode cL_law 657 = .ok (.ifCond .eq 7, 3) := by decide +kernel
theorem dL_law_660 : decode cL_law 660 = .ok (.iconst 1, 1) := by decide +kernel
theorem dL_law_661 : decode cL_law 661 = .ok (.goto 4, 3) := by decide +kernel
theorem dL_law_664 : decode cL_law 664 = .ok (.iconst 0, 1) := by decide +kernel
theorem dL_law_665 : decode cL_law 665 = .ok (.aload_n 0, 1) := by decide +kernel
theorem dL_law_666 : decode cL_law 666 = .ok (.iload_n 3, 1) := by decide +kernel
theorem dL_law_667 : decode cL_law 667 = .ok (.iconst 3, 1) := by decide +kernel
theorem dL_law_668 : decode cL_law 668 = .ok (.iadd, 1) := by decide +kernel
theorem dL_law_669 : decode cL_law 669 = .ok (.iaload, 1) := by decide +kernel
theorem dL_law_670 : decode cL_law 670 = .ok (.invokevirtual 92, 3) := by decide +kernel
theorem dL_law_673 : decode cL_law 673 = .ok (.if_icmp .eq 201, 3) := by decide +kernel
theorem dL_law_676 : decode cL_law 676 = .ok (.iconst 0, 1) := by decide +kernel
theorem dL_law_677 : decode cL_law 677 = .ok (.ireturn, 1) := by decide +kernel
theorem dL_law_678 : decode cL_law 678 = .ok (.aload_n 1, 1) := by decide +kernel
theorem dL_law_679 : decode cL_law 679 = .ok (.aload_n 0, 1) := by decide +kernel
theorem dL_law_680 : decode cL_law 680 = .ok (.iload_n 3, 1) := by decide +kernel
theorem dL_law_681 : decode cL_law 681 = .ok (.iconst 1, 1) := by decide +kernel
theorem dL_law_682 : decode cL_law 682 = .ok (.iadd, 1) := by decide +kernel
theorem dL_law_683 : decode cL_law 683 = .ok (.iaload, 1) := by decide +kernel
theorem dL_law_684 : decode cL_law 684 = .ok (.ifCond .eq 7, 3) := by decide +kernel
theorem dL_law_687 : decode cL_law 687 = .ok (.iconst 1, 1) := by decide +kernel
theorem dL_law_688 : decode cL_law 688 = .ok (.goto 4, 3) := by decide +kernel
theorem dL_law_691 : decode cL_law 691 = .ok (.iconst 0, 1) := by decide +kernel
theorem dL_law_692 : decode cL_law 692 = .ok (.invokevirtual 93, 3) := by decide +kernel
theorem dL_law_695 : decode cL_law 695 = .ok (.aload_n 2, 1) := by decide +kernel
theorem dL_law_696 : decode cL_law 696 = .ok (.aload_n 0, 1) := by decide +kernel
theorem dL_law_697 : decode cL_law 697 = .ok (.iload_n 3, 1) := by decide +kernel
theorem dL_law_698 : decode cL_law 698 = .ok (.iconst 1, 1) := by decide +kernel
theorem dL_law_699 : decode cL_law 699 = .ok (.iadd, 1) := by decide +kernel
theorem dL_law_700 : decode cL_law 700 = .ok (.iaload, 1) := by decide +kernel
theorem dL_law_701 : decode cL_law 701 = .ok (.ifCond .eq 7, 3) := by decide +kernel
theorem dL_law_704 : decode cL_law 704 = .ok (.iconst 1, 1) := by decide +kernel
theorem dL_law_705 : decode cL_law 705 = .ok (.goto 4, 3) := by decide +kernel
theorem dL_law_708 : decode cL_law 708 = .ok (.iconst 0, 1) := by decide +kernel
theorem dL_law_709 : decode cL_law 709 = .ok (.invokevirtual 97, 3) := by decide +kernel
theorem dL_law_712 : decode cL_law 712 = .ok (.if_icmp .eq 162, 3) := by decide +kernel
theorem dL_law_715 : decode cL_law 715 = .ok (.iconst 0, 1) := by decide +kernel
theorem dL_law_716 : decode cL_law 716 = .ok (.ireturn, 1) := by decide +kernel
theorem dL_law_717 : decode cL_law 717 = .ok (.aload_n 1, 1) := by decide +kernel
theorem dL_law_718 : decode cL_law 718 = .ok (.aload_n 0, 1) := by decide +kernel
theorem dL_law_719 : decode cL_law 719 = .ok (.iload_n 3, 1) := by decide +kernel
theorem dL_law_720 : decode cL_law 720 = .ok (.iconst 1, 1) := by decide +kernel
theorem dL_law_721 : decode cL_law 721 = .ok (.iadd, 1) := by decide +kernel
theorem dL_law_722 : decode cL_law 722 = .ok (.iaload, 1) := by decide +kernel
theorem dL_law_723 : decode cL_law 723 = .ok (.aload_n 0, 1) := by decide +kernel
theorem dL_law_724 : decode cL_law 724 = .ok (.iload_n 3, 1) := by decide +kernel
theorem dL_law_725 : decode cL_law 725 = .ok (.iconst 2, 1) := by decide +kernel
theorem dL_law_726 : decode cL_law 726 = .ok (.iadd, 1) := by decide +kernel
theorem dL_law_727 : decode cL_law 727 = .ok (.iaload, 1) := by decide +kernel
theorem dL_law_728 : decode cL_law 728 = .ok (.ifCond .eq 7, 3) := by decide +kernel
theorem dL_law_731 : decode cL_law 731 = .ok (.iconst 1, 1) := by decide +kernel
theorem dL_law_732 : decode cL_law 732 = .ok (.goto 4, 3) := by decide +kernel
theorem dL_law_735 : decode cL_law 735 = .ok (.iconst 0, 1) := by decide +kernel
theorem dL_law_736 : decode cL_law 736 = .ok (.invokevirtual 98, 3) := by decide +kernel
theorem dL_law_739 : decode cL_law 739 = .ok (.aload_n 2, 1) := by decide +kernel
theorem dL_law_740 : decode cL_law 740 = .ok (.aload_n 0, 1) := by decide +kernel
theorem dL_law_741 : decode cL_law 741 = .ok (.iload_n 3, 1) := by decide +kernel
theorem dL_law_742 : decode cL_law 742 = .ok (.iconst 1, 1) := by decide +kernel
theorem dL_law_743 : decode cL_law 743 = .ok (.iadd, 1) := by decide +kernel
theorem dL_law_744 : decode cL_law 744 = .ok (.iaload, 1) := by decide +kernel
theorem dL_law_745 : decode cL_law 745 = .ok (.aload_n 0, 1) := by decide +kernel
theorem dL_law_746 : decode cL_law 746 = .ok (.iload_n 3, 1) := by decide +kernel
theorem dL_law_747 : decode cL_law 747 = .ok (.iconst 2, 1) := by decide +kernel
theorem dL_law_748 : decode cL_law 748 = .ok (.iadd, 1) := by decide +kernel
theorem dL_law_749 : decode cL_law 749 = .ok (.iaload, 1) := by decide +kernel
theorem dL_law_750 : decode cL_law 750 = .ok (.ifCond .eq 7, 3) := by decide +kernel
theorem dL_law_753 : decode cL_law 753 = .ok (.iconst 1, 1) := by decide +kernel
theorem dL_law_754 : decode cL_law 754 = .ok (.goto 4, 3) := by decide +kernel
theorem dL_law_757 : decode cL_law 757 = .ok (.iconst 0, 1) := by decide +kernel
theorem dL_law_758 : decode cL_law 758 = .ok (.invokevirtual 101, 3) := by decide +kernel
theorem dL_law_761 : decode cL_law 761 = .ok (.if_icmp .eq 113, 3) := by decide +kernel
theorem dL_law_764 : decode cL_law 764 = .ok (.iconst 0, 1) := by decide +kernel
theorem dL_law_765 : decode cL_law 765 = .ok (.ireturn, 1) := by decide +kernel
theorem dL_law_766 : decode cL_law 766 = .ok (.aload_n 1, 1) := by decide +kernel
theorem dL_law_767 : decode cL_law 767 = .ok (.aload_n 0, 1) := by decide +kernel
theorem dL_law_768 : decode cL_law 768 = .ok (.iload_n 3, 1) := by decide +kernel
theorem dL_law_769 : decode cL_law 769 = .ok (.iconst 1, 1) := by decide +kernel
theorem dL_law_770 : decode cL_law 770 = .ok (.iadd, 1) := by decide +kernel
theorem dL_law_771 : decode cL_law 771 = .ok (.iaload, 1) := by decide +kernel
theorem dL_law_772 : decode cL_law 772 = .ok (.invokevirtual 102, 3) := by decide +kernel
theorem dL_law_775 : decode cL_law 775 = .ok (.aload_n 2, 1) := by decide +kernel
theorem dL_law_776 : decode cL_law 776 = .ok (.aload_n 0, 1) := by decide +kernel
theorem dL_law_777 : decode cL_law 777 = .ok (.iload_n 3, 1) := by decide +kernel
theorem dL_law_778 : decode cL_law 778 = .ok (.iconst 1, 1) := by decide +kernel
theorem dL_law_779 : decode cL_law 779 = .ok (.iadd, 1) := by decide +kernel
theorem dL_law_780 : decode cL_law 780 = .ok (.iaload, 1) := by decide +kernel
theorem dL_law_781 : decode cL_law 781 = .ok (.invokevirtual 105, 3) := by decide +kernel
theorem dL_law_784 : decode cL_law 784 = .ok (.if_icmp .eq 90, 3) := by decide +kernel
theorem dL_law_787 : decode cL_law 787 = .ok (.iconst 0, 1) := by decide +kernel
theorem dL_law_788 : decode cL_law 788 = .ok (.ireturn, 1) := by decide +kernel
theorem dL_law_789 : decode cL_law 789 = .ok (.aload_n 1, 1) := by decide +kernel
theorem dL_law_790 : decode cL_law 790 = .ok (.aload_n 0, 1) := by decide +kernel
theorem dL_law_791 : decode cL_law 791 = .ok (.iload_n 3, 1) := by decide +kernel
theorem dL_law_792 : decode cL_law 792 = .ok (.iconst 1, 1) := by decide +kernel
theorem dL_law_793 : decode cL_law 793 = .ok (.iadd, 1) := by decide +kernel
theorem dL_law_794 : decode cL_law 794 = .ok (.iaload, 1) := by decide +kernel
theorem dL_law_795 : decode cL_law 795 = .ok (.invokevirtual 106, 3) := by decide +kernel
theorem dL_law_798 : decode cL_law 798 = .ok (.aload_n 2, 1) := by decide +kernel
theorem dL_law_799 : decode cL_law 799 = .ok (.aload_n 0, 1) := by decide +kernel
theorem dL_law_800 : decode cL_law 800 = .ok (.iload_n 3, 1) := by decide +kernel
theorem dL_law_801 : decode cL_law 801 = .ok (.iconst 1, 1) := by decide +kernel
theorem dL_law_802 : decode cL_law 802 = .ok (.iadd, 1) := by decide +kernel
theorem dL_law_803 : decode cL_law 803 = .ok (.iaload, 1) := by decide +kernel
theorem dL_law_804 : decode cL_law 804 = .ok (.invokevirtual 109, 3) := by decide +kernel
theorem dL_law_807 : decode cL_law 807 = .ok (.if_icmp .eq 67, 3) := by decide +kernel
theorem dL_law_810 : decode cL_law 810 = .ok (.iconst 0, 1) := by decide +kernel
theorem dL_law_811 : decode cL_law 811 = .ok (.ireturn, 1) := by decide +kernel
theorem dL_law_812 : decode cL_law 812 = .ok (.aload_n 1, 1) := by decide +kernel
theorem dL_law_813 : decode cL_law 813 = .ok (.invokevirtual 110, 3) := by decide +kernel
theorem dL_law_816 : decode cL_law 816 = .ok (.aload_n 2, 1) := by decide +kernel
theorem dL_law_817 : decode cL_law 817 = .ok (.invokevirtual 113, 3) := by decide +kernel
theorem dL_law_820 : decode cL_law 820 = .ok (.if_icmp .eq 54, 3) := by decide +kernel
theorem dL_law_823 : decode cL_law 823 = .ok (.iconst 0, 1) := by decide +kernel
theorem dL_law_824 : decode cL_law 824 = .ok (.ireturn, 1) := by decide +kernel
theorem dL_law_825 : decode cL_law 825 = .ok (.aload_n 1, 1) := by decide +kernel
theorem dL_law_826 : decode cL_law 826 = .ok (.invokevirtual 114, 3) := by decide +kernel
theorem dL_law_829 : decode cL_law 829 = .ok (.aload_n 2, 1) := by decide +kernel
theorem dL_law_830 : decode cL_law 830 = .ok (.invokevirtual 117, 3) := by decide +kernel
theorem dL_law_833 : decode cL_law 833 = .ok (.if_icmp .eq 41, 3) := by decide +kernel
theorem dL_law_836 : decode cL_law 836 = .ok (.iconst 0, 1) := by decide +kernel
theorem dL_law_837 : decode cL_law 837 = .ok (.ireturn, 1) := by decide +kernel
theorem dL_law_838 : decode cL_law 838 = .ok (.aload_n 1, 1) := by decide +kernel
theorem dL_law_839 : decode cL_law 839 = .ok (.invokevirtual 118, 3) := by decide +kernel
theorem dL_law_842 : decode cL_law 842 = .ok (.aload_n 2, 1) := by decide +kernel
theorem dL_law_843 : decode cL_law 843 = .ok (.invokevirtual 121, 3) := by decide +kernel
theorem dL_law_846 : decode cL_law 846 = .ok (.if_icmp .eq 28, 3) := by decide +kernel
theorem dL_law_849 : decode cL_law 849 = .ok (.iconst 0, 1) := by decide +kernel
theorem dL_law_850 : decode cL_law 850 = .ok (.ireturn, 1) := by decide +kernel
theorem dL_law_851 : decode cL_law 851 = .ok (.aload_n 1, 1) := by decide +kernel
theorem dL_law_852 : decode cL_law 852 = .ok (.aload_n 0, 1) := by decide +kernel
theorem dL_law_853 : decode cL_law 853 = .ok (.iload_n 3, 1) := by decide +kernel
theorem dL_law_854 : decode cL_law 854 = .ok (.iconst 1, 1) := by decide +kernel
theorem dL_law_855 : decode cL_law 855 = .ok (.iadd, 1) := by decide +kernel
theorem dL_law_856 : decode cL_law 856 = .ok (.iaload, 1) := by decide +kernel
theorem dL_law_857 : decode cL_law 857 = .ok (.invokevirtual 122, 3) := by decide +kernel
theorem dL_law_860 : decode cL_law 860 = .ok (.aload_n 2, 1) := by decide +kernel
theorem dL_law_861 : decode cL_law 861 = .ok (.aload_n 0, 1) := by decide +kernel
theorem dL_law_862 : decode cL_law 862 = .ok (.iload_n 3, 1) := by decide +kernel
theorem dL_law_863 : decode cL_law 863 = .ok (.iconst 1, 1) := by decide +kernel
theorem dL_law_864 : decode cL_law 864 = .ok (.iadd, 1) := by decide +kernel
theorem dL_law_865 : decode cL_law 865 = .ok (.iaload, 1) := by decide +kernel
theorem dL_law_866 : decode cL_law 866 = .ok (.invokevirtual 125, 3) := by decide +kernel
theorem dL_law_869 : decode cL_law 869 = .ok (.if_icmp .eq 5, 3) := by decide +kernel
theorem dL_law_872 : decode cL_law 872 = .ok (.iconst 0, 1) := by decide +kernel
theorem dL_law_873 : decode cL_law 873 = .ok (.ireturn, 1) := by decide +kernel
theorem dL_law_874 : decode cL_law 874 = .ok (.iinc 3 4, 3) := by decide +kernel
theorem dL_law_877 : decode cL_law 877 = .ok (.goto (-859), 3) := by decide +kernel
theorem dL_law_880 : decode cL_law 880 = .ok (.iconst 1, 1) := by decide +kernel
theorem dL_law_881 : decode cL_law 881 = .ok (.ireturn, 1) := by decide +kernel
abbrev vwCl : List vw_C := [(RX0, TX0, 8), (RX1, TX1, 1), (RX3, TX3, 10), (RX4, TX4, 8), (RX5, TX5, 5), (RX6, TX6, 12), (RX7, TX7, 24)]
end
section
/-! Part 02: the fixed world of the class's and the reference's cells; abstract frames; a row an instruction -/
abbrev Mem : Type := (Nat → Nat → Int32) × (Nat → Nat → Int64)
def seI (M : Mem) (k i : Nat) (v : Int32) : Mem := (fun a b => if a = k ∧ b = i then v else M.1 a b, M.2)
def seL (M : Mem) (k i : Nat) (v : Int64) : Mem := (M.1, fun a b => if a = k ∧ b = i then v else M.2 a b)
def cv (ad : Nat → Nat) (v : Value) : Value := match v with
  | .ref k => .ref (ad k)
  | .int x => .int x
  | .long x => .long x
  | w => w
theorem cv_cat (ad : Nat → Nat) (v : Value) : (cv ad v).category = v.category := by cases v <;> rfl
/-- a field: a reference that stays (to a cell by its number), an int (false), a long (true) -/
abbrev Fk : Type := Nat ⊕ Bool
/-- a cell: an object (its class's place in vwCl, its fields), an array (long?, length) -/
abbrev Shp : Type := (Nat × List Fk) ⊕ (Bool × Nat)
def lay0 (k : Nat) : List Fk := [.inl (k + 1), .inl (k + 2), .inl (k + 3), .inr false, .inl (k + 4), .inl (k + 5), .inl (k + 6), .inr false]
def shL : List Shp := [.inl (5, [.inl 1, .inl 8, .inr false, .inl 15, .inl 17, .inl 21, .inl 27, .inl 31, .inr false, .inl 32, .inr false, .inl 33]),
  .inl (0, lay0 1), .inr (false, 7), .inr (false, 7), .inr (false, 24), .inr (false, 4), .inr (false, 6), .inr (false, 6),
  .inl (0, lay0 8), .inr (false, 7), .inr (false, 7), .inr (false, 24), .inr (false, 4), .inr (false, 6), .inr (false, 6),
  .inl (1, [.inl 16]), .inr (true, 80),
  .inl (4, [.inl 15, .inl 18, .inl 19, .inl 20, .inr false]), .inr (true, 25), .inr (false, 25), .inr (false, 24),
  .inl (2, [.inl 1, .inl 15, .inl 17, .inl 22, .inl 23, .inl 24, .inr false, .inl 25, .inl 26, .inr false]), .inr (true, 1000), .inr (false, 1000), .inr (false, 1024), .inr (false, 6), .inr (false, 7),
  .inl (3, [.inl 1, .inl 15, .inl 28, .inl 29, .inl 30, .inr false, .inr true, .inr true]), .inr (false, 7), .inr (false, 6), .inr (false, 6),
  .inr (false, 24), .inr (false, 6), .inr (false, 7),
  .inl (6, [.inl 35, .inl 36, .inl 37, .inr false, .inl 38, .inr false, .inl 39, .inl 40, .inr false, .inr false, .inr false, .inl 41, .inl 42, .inl 43, .inl 44, .inr false, .inr false, .inr false, .inr false, .inr false, .inr false, .inr false, .inr false, .inr false]),
  .inr (false, 7), .inr (false, 56), .inr (false, 56), .inr (false, 24), .inr (false, 125), .inr (false, 24), .inr (false, 7), .inr (false, 6), .inr (false, 6), .inr (false, 6)]
/-- cells by a list of shapes; the field reference 999 is null -/
def shT (T : List Shp) (k : Nat) : Shp := T.getD k (.inr (false, 0))
def shp (k : Nat) : Shp := shT shL k
def fvA (M : Mem) (k j : Nat) (f : Fk) : Value := match f with
  | .inl q => if q = 999 then .null else .ref q
  | .inr false => .int (M.1 k j)
  | .inr true => .long (M.2 k j)
def cellE (ad : Nat → Nat) (cI cJ : ClassId) (sh : Nat → Shp) (M : Mem) (k : Nat) : va_E := match sh k with
  | .inl (ci, fs) => .inr (ci, fs.mapIdx (fun j f => cv ad (fvA M k j f)))
  | .inr (false, n) => .inl (cI, n, .inl (M.1 k))
  | .inr (true, n) => .inl (cJ, n, .inr (.inl (M.2 k)))
def cells (ad : Nat → Nat) (cI cJ : ClassId) (sh : Nat → Shp) (nc : Nat) (M : Mem) : va_W := (List.range nc).map fun k => (ad k, cellE ad cI cJ sh M k)
theorem cells_at {ad : Nat → Nat} {cI cJ : ClassId} {sh : Nat → Shp} {nc : Nat} {M : Mem} {k : Nat} (h : k < nc) : (cells ad cI cJ sh nc M)[k]? = some (ad k, cellE ad cI cJ sh M k) := by simp [cells, h]
theorem cells_len {ad : Nat → Nat} {cI cJ : ClassId} {sh : Nat → Shp} {nc : Nat} {M : Mem} : (cells ad cI cJ sh nc M).length = nc := by simp [cells]
theorem cellE_o {ad : Nat → Nat} {cI cJ : ClassId} {sh : Nat → Shp} {M : Mem} {k ci : Nat} {fs : List Fk} (h : sh k = .inl (ci, fs)) : cellE ad cI cJ sh M k = .inr (ci, fs.mapIdx (fun j f => cv ad (fvA M k j f))) := by simp only [cellE, h]
theorem cellE_i {ad : Nat → Nat} {cI cJ : ClassId} {sh : Nat → Shp} {M : Mem} {k n : Nat} (h : sh k = .inr (false, n)) : cellE ad cI cJ sh M k = .inl (cI, n, .inl (M.1 k)) := by simp only [cellE, h]
theorem cellE_l {ad : Nat → Nat} {cI cJ : ClassId} {sh : Nat → Shp} {M : Mem} {k n : Nat} (h : sh k = .inr (true, n)) : cellE ad cI cJ sh M k = .inl (cJ, n, .inr (.inl (M.2 k))) := by simp only [cellE, h]
theorem cells_set {ad : Nat → Nat} {cI cJ : ClassId} {sh : Nat → Shp} {nc : Nat} {M M' : Mem} {k : Nat} {x : va_E} (hk : k < nc) (hx : x = cellE ad cI cJ sh M' k) (h : ∀ q, q ≠ k → cellE ad cI cJ sh M' q = cellE ad cI cJ sh M q) : (cells ad cI cJ sh nc M).set k (ad k, x) = cells ad cI cJ sh nc M' := by
  apply List.ext_getElem?
  intro i
  by_cases hi : i = k
  · subst hi
    rw [List.getElem?_set_self (by rw [cells_len]; exact hk), cells_at hk, hx]
  · rw [List.getElem?_set_ne (Ne.symm hi)]
    by_cases hnc : i < nc
    · rw [cells_at hnc, cells_at hnc, h i hi]
    · rw [List.getElem?_eq_none (by rw [cells_len]; omega), List.getElem?_eq_none (by rw [cells_len]; omega)]
theorem fvA_seI {M : Mem} {k i a j : Nat} {v : Int32} {f : Fk} (h : a ≠ k ∨ j ≠ i ∨ f ≠ .inr false) : fvA (seI M k i v) a j f = fvA M a j f := by
  rcases f with q | b
  · rfl
  · cases b
    · have : ¬ (a = k ∧ j = i) := by
        rintro ⟨h1, h2⟩
        rcases h with h | h | h
        · exact h h1
        · exact h h2
        · exact h rfl
      simp only [fvA, seI, if_neg this]
    · rfl
theorem fvA_seL {M : Mem} {k i a j : Nat} {v : Int64} {f : Fk} (h : a ≠ k ∨ j ≠ i ∨ f ≠ .inr true) : fvA (seL M k i v) a j f = fvA M a j f := by
  rcases f with q | b
  · rfl
  · cases b
    · rfl
    · have : ¬ (a = k ∧ j = i) := by
        rintro ⟨h1, h2⟩
        rcases h with h | h | h
        · exact h h1
        · exact h h2
        · exact h rfl
      simp only [fvA, seL, if_neg this]
theorem cellE_seI {ad : Nat → Nat} {cI cJ : ClassId} {sh : Nat → Shp} {M : Mem} {k i q : Nat} {v : Int32} (h : q ≠ k) : cellE ad cI cJ sh (seI M k i v) q = cellE ad cI cJ sh M q := by
  have e1 : (seI M k i v).1 q = M.1 q := by funext j; simp [seI, h]
  unfold cellE
  rcases sh q with ⟨ci, fs⟩ | ⟨b, n⟩
  · simp only [fvA_seI (Or.inl h)]
  · cases b
    · simp only [e1]
    · rfl
theorem cellE_seL {ad : Nat → Nat} {cI cJ : ClassId} {sh : Nat → Shp} {M : Mem} {k i q : Nat} {v : Int64} (h : q ≠ k) : cellE ad cI cJ sh (seL M k i v) q = cellE ad cI cJ sh M q := by
  have e1 : (seL M k i v).2 q = M.2 q := by funext j; simp [seL, h]
  unfold cellE
  rcases sh q with ⟨ci, fs⟩ | ⟨b, n⟩
  · simp only [fvA_seL (Or.inl h)]
  · cases b
    · rfl
    · simp only [e1]
theorem cells_seI_a {ad : Nat → Nat} {cI cJ : ClassId} {sh : Nat → Shp} {nc : Nat} {M : Mem} {k n i : Nat} {v : Int32} (hk : k < nc) (h : sh k = .inr (false, n)) : (cells ad cI cJ sh nc M).set k (ad k, .inl (cI, n, .inl (upd (M.1 k) i v))) = cells ad cI cJ sh nc (seI M k i v) := by
  refine cells_set hk ?_ (fun q hq => cellE_seI hq)
  rw [cellE_i h]
  have : upd (M.1 k) i v = (seI M k i v).1 k := by funext j; simp [upd, seI]
  rw [this]
theorem cells_seL_a {ad : Nat → Nat} {cI cJ : ClassId} {sh : Nat → Shp} {nc : Nat} {M : Mem} {k n i : Nat} {v : Int64} (hk : k < nc) (h : sh k = .inr (true, n)) : (cells ad cI cJ sh nc M).set k (ad k, .inl (cJ, n, .inr (.inl (vp_updL (M.2 k) i v)))) = cells ad cI cJ sh nc (seL M k i v) := by
  refine cells_set hk ?_ (fun q hq => cellE_seL hq)
  rw [cellE_l h]
  have : vp_updL (M.2 k) i v = (seL M k i v).2 k := by funext j; simp [vp_updL, seL]
  rw [this]
theorem cells_seI_o {ad : Nat → Nat} {cI cJ : ClassId} {sh : Nat → Shp} {nc : Nat} {M : Mem} {k ci i : Nat} {fs : List Fk} {v : Int32} (hk : k < nc) (h : sh k = .inl (ci, fs)) (hf : fs[i]? = some (.inr false)) : (cells ad cI cJ sh nc M).set k (ad k, .inr (ci, (fs.mapIdx (fun j f => cv ad (fvA M k j f))).set i (.int v))) = cells ad cI cJ sh nc (seI M k i v) := by
  refine cells_set hk ?_ (fun q hq => cellE_seI hq)
  rw [cellE_o h]
  have hl : i < fs.length := (List.getElem?_eq_some_iff.mp hf).1
  congr 2
  apply List.ext_getElem?
  intro j
  by_cases hj : j = i
  · subst hj
    rw [List.getElem?_set_self (by simpa using hl), List.getElem?_mapIdx, hf]
    simp [fvA, seI, cv]
  · rw [List.getElem?_set_ne (Ne.symm hj), List.getElem?_mapIdx, List.getElem?_mapIdx]
    cases fs[j]? with
    | none => rfl
    | some f => simp only [Option.map_some, fvA_seI (Or.inr (Or.inl hj))]
theorem cells_seL_o {ad : Nat → Nat} {cI cJ : ClassId} {sh : Nat → Shp} {nc : Nat} {M : Mem} {k ci i : Nat} {fs : List Fk} {v : Int64} (hk : k < nc) (h : sh k = .inl (ci, fs)) (hf : fs[i]? = some (.inr true)) : (cells ad cI cJ sh nc M).set k (ad k, .inr (ci, (fs.mapIdx (fun j f => cv ad (fvA M k j f))).set i (.long v))) = cells ad cI cJ sh nc (seL M k i v) := by
  refine cells_set hk ?_ (fun q hq => cellE_seL hq)
  rw [cellE_o h]
  have hl : i < fs.length := (List.getElem?_eq_some_iff.mp hf).1
  congr 2
  apply List.ext_getElem?
  intro j
  by_cases hj : j = i
  · subst hj
    rw [List.getElem?_set_self (by simpa using hl), List.getElem?_mapIdx, hf]
    simp [fvA, seL, cv]
  · rw [List.getElem?_set_ne (Ne.symm hj), List.getElem?_mapIdx, List.getElem?_mapIdx]
    cases fs[j]? with
    | none => rfl
    | some f => simp only [Option.map_some, fvA_seL (Or.inr (Or.inl hj))]
/-- the static arrays, cells 45 .. 50 -/
def stL : List (String × List Int32) := [("SIGNS", [97, 98, 99, 108, 109, 114, 115, 113, 116, 120]), ("KIND_OF", [0, 1, 2, 3, 4, 3, 4, 5, 5, 6]), ("TURN_OF", [0, 0, 0, 1, 1, -1, -1, 2, -2, 0]), ("MIRROR_OF", [0, 1, 2, 5, 6, 3, 4, 8, 7, 9]), ("FIRST_SIZES", [4, 2, 1, 4, 6, 4, 4]), ("FIRST_SIDES", [-400, 400, -400, 400])]
def snm (k : Nat) : String := (stL.getD k ("", [])).1
def sdl (k : Nat) : List Int32 := (stL.getD k ("", [])).2
def sln (k : Nat) : Nat := (sdl k).length
def sdt (k j : Nat) : Int32 := (sdl k).getD j 0
/-- the length of an int array -/
def iaL (sh : Nat → Shp) (k : Nat) : Option Nat := if k < 45 then (match sh k with | .inr (false, n) => some n | _ => none) else if k < 51 then some (sln (k - 45)) else none
def okw (w : Cond) : Bool := w.onTables && (goodWord w || (match w with | .methodLinkNest _ _ _ _ => true | .fieldLinkNest _ _ _ _ _ _ => true | _ => false))
/-- the tables' words, but for those of arrays' classes -/
def Tb (U : State) : Prop := ∀ w ∈ lw_tbl, okw w = true → ∀ a : Array Value, w.before a U = true
theorem okw_on {w : Cond} (h : okw w = true) : w.onTables = true := by
  simp only [okw, Bool.and_eq_true] at h
  exact h.1
theorem Tb.of {a : Array Value} {U : State} (h : ∀ w ∈ lw_tbl, w.before a U = true) : Tb U := fun w hw h1 _ => va_Nw.use (okw_on h1) (va_Nw.of (okw_on h1) (h w hw))
theorem Tb.warm {s U : State} (hW : s.WarmedH U.vm) (h : Tb s) : Tb U := by
  intro w hw h0 a
  have h1 := h0
  simp only [okw, Bool.and_eq_true, Bool.or_eq_true] at h1
  rcases h1.2 with h1 | h1
  · exact word_at hW (good_of_word h1) (h w hw h0 #[])
  · cases w <;> first | exact va_Nw.use rfl (va_Nw.warmM hW (h _ hw h0 #[])) | exact va_Nw.use rfl (va_Nw.warmF hW (h _ hw h0 #[])) | (simp at h1; done)
section AIRW
variable (A : Nat → Prop) (ad : Nat → Nat) (D : va_G) (cI cJ : ClassId)
def Evn (U : State) (H : Heap) : Prop := Tb U ∧ va_K D vwCl [(cI, .int), (cJ, .long)] U ∧ ∀ k, k < 6 → va_Z "TrackBox" (snm k) "[I" (.ref (ad (45 + k))) A U H ∧ va_T .int (ad (45 + k)) (sln k) (fun j => .int (sdt k j)) A U H
def Dy (sh : Nat → Shp) (nc : Nat) (M : Mem) (H : Heap) : Prop := va_P D vwCl (cells ad cI cJ sh nc M) H ∧ va_D A (cells ad cI cJ sh nc M) ∧ nc ≤ 45 ∧ ∀ k j, k < 6 → j < sln k → M.1 (45 + k) j = sdt k j
def Pq (sh : Nat → Shp) (nc : Nat) (av : List Value) (M : Mem) : Array Value → State → Prop := fun v U => v = (av.map (cv ad)).toArray ∧ Evn A ad D cI cJ U U.heap ∧ Dy A ad D cI cJ sh nc M U.heap
def Qq (sh : Nat → Shp) (nc : Nat) (r : Option Value) (M' : Mem) : Array Value → State → Outcome → State → Prop := fun _ st o t => o = .returned (r.map (cv ad)) ∧ Dy A ad D cI cJ sh nc M' t.heap ∧ va_F A st t
end AIRW
def rmd (d : Nat) : Room := { frames := d, cells := 0, slots := 0, locals := 40 * d }
/-- a method's contract: from arguments and memory to its answer and the memory behind it -/
def Ct (l : Launch) (d : Nat) (y : MethodName) (cc : ByteArray) (nL : Nat) (ret : Option FieldType) (sh : Nat → Shp) (nc : Nat) (av : List Value) (M : Mem) (r : Option Value) (M' : Mem) : Prop :=
  ∀ (A : Nat → Prop) (ad : Nat → Nat) (D : va_G) (cI cJ : ClassId), Met l y [.code y cc nL ret] (rmd d) (Pq A ad D cI cJ sh nc av M) (Qq A ad D cI cJ sh nc r M') 0 0 A
theorem Evn.moved {A : Nat → Prop} {ad : Nat → Nat} {D : va_G} {cI cJ : ClassId} {s U : State} {H : Heap} (h : Evn A ad D cI cJ s H) (hW : s.WarmedH U.vm) : Evn A ad D cI cJ U H :=
  ⟨h.1.warm hW, h.2.1.moved hW.alike, fun k hk => ⟨(h.2.2 k hk).1.moved hW.alike, (h.2.2 k hk).2.moved hW.alike⟩⟩
theorem Evn.kept {A : Nat → Prop} {ad : Nat → Nat} {D : va_G} {cI cJ : ClassId} {s : State} {H H1 : Heap} (h : Evn A ad D cI cJ s H) (hq : ∀ a : Nat, a < H.size → ¬ A a → H1[a]? = H[a]?) : Evn A ad D cI cJ s H1 :=
  ⟨h.1, h.2.1, fun k hk => ⟨(h.2.2 k hk).1.kept hq, (h.2.2 k hk).2.kept hq⟩⟩
theorem Evn.same {A : Nat → Prop} {ad : Nat → Nat} {D : va_G} {cI cJ : ClassId} {s U : State} {H : Heap} (h : Evn A ad D cI cJ s H) (hv : s.vm = U.vm) : Evn A ad D cI cJ U H := by
  exact ⟨fun w hw h1 a => va_tabs (okw_on h1) hv (h.1 w hw h1 a), va_K.moved (by rw [← hv]; exact Vm.Alike.refl _) h.2.1, fun k hk => ⟨va_Z.moved (by rw [← hv]; exact Vm.Alike.refl _) (h.2.2 k hk).1, va_T.moved (by rw [← hv]; exact Vm.Alike.refl _) (h.2.2 k hk).2⟩⟩
theorem Pq_blind {A : Nat → Prop} {ad : Nat → Nat} {D : va_G} {cI cJ : ClassId} {sh : Nat → Shp} {nc : Nat} {av : List Value} {M : Mem} : FrameBlind (Pq A ad D cI cJ sh nc av M) := by
  intro a U g mk h
  exact ⟨h.1, h.2.1.same rfl, h.2.2⟩
theorem lv_args_map (ad : Nat → Nat) : ∀ (vs : List Value) (i : Nat), lv_args i (vs.map (cv ad)) = (lv_args i vs).map (fun q => (q.1, cv ad q.2))
  | [], _ => rfl
  | v :: vs, i => by
    simp only [List.map_cons, lv_args, cv_cat, lv_args_map ad vs]
theorem lg_sl_map (ad : Nat → Nat) : ∀ (vs : List Value), (lg_sl (vs.map (cv ad))).length = (lg_sl vs).length
  | [] => rfl
  | v :: vs => by
    have ih := lg_sl_map ad vs
    unfold lg_sl at ih ⊢
    simp only [List.map_cons, List.flatMap_cons, List.length_append, cv_cat, ih]
    split <;> rfl
section AW
variable (p : Program) (l : Launch) (e : Env) (R : Room) (s : State) (m : MethodId) (args : Array Value) (below : List Frame) (meth : Method) (c : Code) (cc : ByteArray) (nL : Nat) (own : String) (A : Nat → Prop) (ad : Nat → Nat) (D : va_G) (cI cJ : ClassId) (sh : Nat → Shp) (nc : Nat) (kc ks : Nat) (Q : State → Prop)
/-- what holds all through a method's walk -/
def Cx : Prop := p.tables.exec = Jvm.exec ∧ c.code = cc ∧ c.maxLocals = nL ∧ s.vm.findClass own = some m.cls ∧ Evn A ad D cI cJ s s.heap ∧ meth.locks = false
/-- the machine at an abstract frame comes to Q -/
def AW (M : Mem) (pc : Nat) (ls : List (Nat × Value)) (st : List Value) : Prop := ∀ (H : Heap) (locs : List Loc) (lsA : Array Slot), Dy A ad D cI cJ sh nc M H → va_S A s.heap H locs → lv_has lsA nL (ls.map (fun q => (q.1, cv ad q.2))) →
  W p l e R s m args below meth c H locs kc ks Q (F0 m pc lsA (st.map (cv ad)))
end AW
end
section
/-! Part 03: rows over abstract frames, an instruction each -/
theorem map_at {ad : Nat → Nat} {ls : List (Nat × Value)} {q i : Nat} {v : Value} (h : ls[q]? = some (i, v)) : (ls.map (fun q => (q.1, cv ad q.2)))[q]? = some (i, cv ad v) := by rw [List.getElem?_map, h]; rfl
theorem flt1 {ad : Nat → Nat} (ls : List (Nat × Value)) (i : Nat) : (ls.map (fun q => (q.1, cv ad q.2))).filter (fun q => !(q.1 == i) && !(q.1 + 1 == i && q.2.category == 2)) = (ls.filter (fun q => !(q.1 == i) && !(q.1 + 1 == i && q.2.category == 2))).map (fun q => (q.1, cv ad q.2)) := by
  rw [List.filter_map]
  congr 1
  apply List.filter_congr
  intro q _
  simp only [Function.comp_apply, cv_cat]
theorem flt2 {ad : Nat → Nat} (ls : List (Nat × Value)) (i : Nat) : (ls.map (fun q => (q.1, cv ad q.2))).filter (fun q => !(q.1 == i) && (!(q.1 == i + 1) && !(q.1 + 1 == i && q.2.category == 2))) = (ls.filter (fun q => !(q.1 == i) && (!(q.1 == i + 1) && !(q.1 + 1 == i && q.2.category == 2)))).map (fun q => (q.1, cv ad q.2)) := by
  rw [List.filter_map]
  congr 1
  apply List.filter_congr
  intro q _
  simp only [Function.comp_apply, cv_cat]
section ROWS
variable {p : Program} {l : Launch} {e : Env} {R : Room} {s : State} {m : MethodId} {args : Array Value} {below : List Frame} {meth : Method} {c : Code} {cc : ByteArray} {nL : Nat} {own : String} {A : Nat → Prop} {ad : Nat → Nat} {D : va_G} {cI cJ : ClassId} {sh : Nat → Shp} {nc : Nat} {kc ks : Nat} {Q : State → Prop}
variable {M : Mem} {pc : Nat} {ls ls' : List (Nat × Value)} {st : List Value}
theorem r_iconst (X : Cx p s m meth c cc nL own A ad D cI cJ) {n : Int} (v : Int32) (hd : decode cc pc = .ok (.iconst n, 1)) (hv : Int32.ofInt n = v) (k : AW p l e R s m args below meth c nL A ad D cI cJ sh nc kc ks Q M (pc + 1) ls (.int v :: st)) : AW p l e R s m args below meth c nL A ad D cI cJ sh nc kc ks Q M pc ls st := fun H locs lsA hD hS hl => lv_iconst X.1 X.2.1 hd hv (k H locs lsA hD hS hl)
theorem r_bipush (X : Cx p s m meth c cc nL own A ad D cI cJ) {n : Int} (v : Int32) (hd : decode cc pc = .ok (.bipush n, 2)) (hv : (Int8.ofInt n).toInt32 = v) (k : AW p l e R s m args below meth c nL A ad D cI cJ sh nc kc ks Q M (pc + 2) ls (.int v :: st)) : AW p l e R s m args below meth c nL A ad D cI cJ sh nc kc ks Q M pc ls st := fun H locs lsA hD hS hl => lv_bipush X.1 X.2.1 hd hv (k H locs lsA hD hS hl)
theorem r_sipush (X : Cx p s m meth c cc nL own A ad D cI cJ) {n : Int} (v : Int32) (hd : decode cc pc = .ok (.sipush n, 3)) (hv : (Int16.ofInt n).toInt32 = v) (k : AW p l e R s m args below meth c nL A ad D cI cJ sh nc kc ks Q M (pc + 3) ls (.int v :: st)) : AW p l e R s m args below meth c nL A ad D cI cJ sh nc kc ks Q M pc ls st := fun H locs lsA hD hS hl => lv_sipush X.1 X.2.1 hd hv (k H locs lsA hD hS hl)
theorem r_lconst (X : Cx p s m meth c cc nL own A ad D cI cJ) {n : Fin 2} (v : Int64) (hd : decode cc pc = .ok (.lconst n, 1)) (hv : Int64.ofNat (n : Nat) = v) (k : AW p l e R s m args below meth c nL A ad D cI cJ sh nc kc ks Q M (pc + 1) ls (.long v :: st)) : AW p l e R s m args below meth c nL A ad D cI cJ sh nc kc ks Q M pc ls st := fun H locs lsA hD hS hl => lv_lconst X.1 X.2.1 hd hv (k H locs lsA hD hS hl)
theorem r_ldc (X : Cx p s m meth c cc nL own A ad D cI cJ) {ix : Nat} {v : Int32} (hw : Cond.constant own ix v ∈ lw_tbl) (hd : decode cc pc = .ok (.ldc ix, 2)) (k : AW p l e R s m args below meth c nL A ad D cI cJ sh nc kc ks Q M (pc + 2) ls (.int v :: st)) : AW p l e R s m args below meth c nL A ad D cI cJ sh nc kc ks Q M pc ls st := fun H locs lsA hD hS hl => lv_ldc X.1 X.2.1 X.2.2.2.1 (X.2.2.2.2.1.1 _ hw rfl args) hd (k H locs lsA hD hS hl)
theorem r_ldc2 (X : Cx p s m meth c cc nL own A ad D cI cJ) {ix : Nat} {v : Int64} (hw : Cond.constantLong own ix v ∈ lw_tbl) (hd : decode cc pc = .ok (.ldc2_w ix, 3)) (k : AW p l e R s m args below meth c nL A ad D cI cJ sh nc kc ks Q M (pc + 3) ls (.long v :: st)) : AW p l e R s m args below meth c nL A ad D cI cJ sh nc kc ks Q M pc ls st := fun H locs lsA hD hS hl => lv_ldc2 X.1 X.2.1 X.2.2.2.1 (X.2.2.2.2.1.1 _ hw rfl args) hd (k H locs lsA hD hS hl)
theorem r_iload_n (X : Cx p s m meth c cc nL own A ad D cI cJ) {k9 : Fin 4} {i : Nat} {x : Int32} (q : Nat) (hd : decode cc pc = .ok (.iload_n k9, 1)) (hi : (k9 : Nat) = i) (hq : ls[q]? = some (i, .int x)) (k : AW p l e R s m args below meth c nL A ad D cI cJ sh nc kc ks Q M (pc + 1) ls (.int x :: st)) : AW p l e R s m args below meth c nL A ad D cI cJ sh nc kc ks Q M pc ls st := fun H locs lsA hD hS hl => lv_iload_n X.1 X.2.1 hd hi (lv_at hl q (map_at hq)) (k H locs lsA hD hS hl)
theorem r_iload (X : Cx p s m meth c cc nL own A ad D cI cJ) {i : Nat} {x : Int32} (q : Nat) (hd : decode cc pc = .ok (.iload i, 2)) (hq : ls[q]? = some (i, .int x)) (k : AW p l e R s m args below meth c nL A ad D cI cJ sh nc kc ks Q M (pc + 2) ls (.int x :: st)) : AW p l e R s m args below meth c nL A ad D cI cJ sh nc kc ks Q M pc ls st := fun H locs lsA hD hS hl => lv_iload X.1 X.2.1 hd (lv_at hl q (map_at hq)) (k H locs lsA hD hS hl)
theorem r_lload_n (X : Cx p s m meth c cc nL own A ad D cI cJ) {k9 : Fin 4} {i : Nat} {x : Int64} (q : Nat) (hd : decode cc pc = .ok (.lload_n k9, 1)) (hi : (k9 : Nat) = i) (hq : ls[q]? = some (i, .long x)) (k : AW p l e R s m args below meth c nL A ad D cI cJ sh nc kc ks Q M (pc + 1) ls (.long x :: st)) : AW p l e R s m args below meth c nL A ad D cI cJ sh nc kc ks Q M pc ls st := fun H locs lsA hD hS hl => lv_lload_n X.1 X.2.1 hd hi (lv_at hl q (map_at hq)) (k H locs lsA hD hS hl)
theorem r_lload (X : Cx p s m meth c cc nL own A ad D cI cJ) {i : Nat} {x : Int64} (q : Nat) (hd : decode cc pc = .ok (.lload i, 2)) (hq : ls[q]? = some (i, .long x)) (k : AW p l e R s m args below meth c nL A ad D cI cJ sh nc kc ks Q M (pc + 2) ls (.long x :: st)) : AW p l e R s m args below meth c nL A ad D cI cJ sh nc kc ks Q M pc ls st := fun H locs lsA hD hS hl => lv_lload X.1 X.2.1 hd (lv_at hl q (map_at hq)) (k H locs lsA hD hS hl)
theorem r_aload_n (X : Cx p s m meth c cc nL own A ad D cI cJ) {k9 : Fin 4} {i : Nat} {x : Nat} (q : Nat) (hd : decode cc pc = .ok (.aload_n k9, 1)) (hi : (k9 : Nat) = i) (hq : ls[q]? = some (i, .ref x)) (k : AW p l e R s m args below meth c nL A ad D cI cJ sh nc kc ks Q M (pc + 1) ls (.ref x :: st)) : AW p l e R s m args below meth c nL A ad D cI cJ sh nc kc ks Q M pc ls st := fun H locs lsA hD hS hl => lv_aload_n X.1 X.2.1 hd hi (lv_at hl q (map_at hq)) (k H locs lsA hD hS hl)
theorem r_aload (X : Cx p s m meth c cc nL own A ad D cI cJ) {i : Nat} {x : Nat} (q : Nat) (hd : decode cc pc = .ok (.aload i, 2)) (hq : ls[q]? = some (i, .ref x)) (k : AW p l e R s m args below meth c nL A ad D cI cJ sh nc kc ks Q M (pc + 2) ls (.ref x :: st)) : AW p l e R s m args below meth c nL A ad D cI cJ sh nc kc ks Q M pc ls st := fun H locs lsA hD hS hl => lv_aload X.1 X.2.1 hd (lv_at hl q (map_at hq)) (k H locs lsA hD hS hl)
theorem r_istore_n (X : Cx p s m meth c cc nL own A ad D cI cJ) {k9 : Fin 4} (ls' : List (Nat × Value)) {i : Nat} {x : Int32} (hd : decode cc pc = .ok (.istore_n k9, 1)) (hi : (k9 : Nat) = i) (hn : i < nL) (h9 : (i, Value.int x) :: ls.filter (fun q => !(q.1 == i) && !(q.1 + 1 == i && q.2.category == 2)) = ls') (k : AW p l e R s m args below meth c nL A ad D cI cJ sh nc kc ks Q M (pc + 1) ls' st) : AW p l e R s m args below meth c nL A ad D cI cJ sh nc kc ks Q M pc ls (.int x :: st) := fun H locs lsA hD hS hl => lv_istore_n (lv' := ls'.map (fun q => (q.1, cv ad q.2))) X.1 X.2.1 hd hi hl hn (by rw [flt1, ← h9]; rfl) (fun lsB hl' => k H locs lsB hD hS hl')
theorem r_istore (X : Cx p s m meth c cc nL own A ad D cI cJ) (ls' : List (Nat × Value)) {i : Nat} {x : Int32} (hd : decode cc pc = .ok (.istore i, 2)) (hn : i < nL) (h9 : (i, Value.int x) :: ls.filter (fun q => !(q.1 == i) && !(q.1 + 1 == i && q.2.category == 2)) = ls') (k : AW p l e R s m args below meth c nL A ad D cI cJ sh nc kc ks Q M (pc + 2) ls' st) : AW p l e R s m args below meth c nL A ad D cI cJ sh nc kc ks Q M pc ls (.int x :: st) := fun H locs lsA hD hS hl => lv_istore (lv' := ls'.map (fun q => (q.1, cv ad q.2))) X.1 X.2.1 hd hl hn (by rw [flt1, ← h9]; rfl) (fun lsB hl' => k H locs lsB hD hS hl')
theorem r_lstore_n (X : Cx p s m meth c cc nL own A ad D cI cJ) {k9 : Fin 4} (ls' : List (Nat × Value)) {i : Nat} {x : Int64} (hd : decode cc pc = .ok (.lstore_n k9, 1)) (hi : (k9 : Nat) = i) (hn : i + 1 < nL) (h9 : (i, Value.long x) :: ls.filter (fun q => !(q.1 == i) && (!(q.1 == i + 1) && !(q.1 + 1 == i && q.2.category == 2))) = ls') (k : AW p l e R s m args below meth c nL A ad D cI cJ sh nc kc ks Q M (pc + 1) ls' st) : AW p l e R s m args below meth c nL A ad D cI cJ sh nc kc ks Q M pc ls (.long x :: st) := fun H locs lsA hD hS hl => lv_lstore_n (lv' := ls'.map (fun q => (q.1, cv ad q.2))) X.1 X.2.1 hd hi hl hn (by rw [flt2, ← h9]; rfl) (fun lsB hl' => k H locs lsB hD hS hl')
theorem r_lstore (X : Cx p s m meth c cc nL own A ad D cI cJ) (ls' : List (Nat × Value)) {i : Nat} {x : Int64} (hd : decode cc pc = .ok (.lstore i, 2)) (hn : i + 1 < nL) (h9 : (i, Value.long x) :: ls.filter (fun q => !(q.1 == i) && (!(q.1 == i + 1) && !(q.1 + 1 == i && q.2.category == 2))) = ls') (k : AW p l e R s m args below meth c nL A ad D cI cJ sh nc kc ks Q M (pc + 2) ls' st) : AW p l e R s m args below meth c nL A ad D cI cJ sh nc kc ks Q M pc ls (.long x :: st) := fun H locs lsA hD hS hl => lv_lstore (lv' := ls'.map (fun q => (q.1, cv ad q.2))) X.1 X.2.1 hd hl hn (by rw [flt2, ← h9]; rfl) (fun lsB hl' => k H locs lsB hD hS hl')
theorem r_astore_n (X : Cx p s m meth c cc nL own A ad D cI cJ) {k9 : Fin 4} (ls' : List (Nat × Value)) {i : Nat} {x : Nat} (hd : decode cc pc = .ok (.astore_n k9, 1)) (hi : (k9 : Nat) = i) (hn : i < nL) (h9 : (i, Value.ref x) :: ls.filter (fun q => !(q.1 == i) && !(q.1 + 1 == i && q.2.category == 2)) = ls') (k : AW p l e R s m args below meth c nL A ad D cI cJ sh nc kc ks Q M (pc + 1) ls' st) : AW p l e R s m args below meth c nL A ad D cI cJ sh nc kc ks Q M pc ls (.ref x :: st) := fun H locs lsA hD hS hl => lv_astore_n (lv' := ls'.map (fun q => (q.1, cv ad q.2))) X.1 X.2.1 hd hi hl hn (by rw [flt1, ← h9]; rfl) (fun lsB hl' => k H locs lsB hD hS hl')
theorem r_iinc (X : Cx p s m meth c cc nL own A ad D cI cJ) (ls' : List (Nat × Value)) {i : Nat} {n : Int} {x : Int32} (q : Nat) (v : Int32) (hd : decode cc pc = .ok (.iinc i n, 3)) (hq : ls[q]? = some (i, .int x)) (hv : x + Int32.ofInt n = v) (hn : i < nL) (h9 : (i, Value.int v) :: ls.filter (fun q => !(q.1 == i) && !(q.1 + 1 == i && q.2.category == 2)) = ls') (k : AW p l e R s m args below meth c nL A ad D cI cJ sh nc kc ks Q M (pc + 3) ls' st) : AW p l e R s m args below meth c nL A ad D cI cJ sh nc kc ks Q M pc ls st := fun H locs lsA hD hS hl => lv_iinc (lv' := ls'.map (fun q => (q.1, cv ad q.2))) X.1 X.2.1 hd hl (map_at hq) hv hn (by rw [flt1, ← h9]; rfl) (fun lsB hl' => k H locs lsB hD hS hl')
theorem r_sub {ls' : List (Nat × Value)} (qs : List Nat) (h : qs.filterMap (fun k => ls[k]?) = ls') (k : AW p l e R s m args below meth c nL A ad D cI cJ sh nc kc ks Q M pc ls' st) : AW p l e R s m args below meth c nL A ad D cI cJ sh nc kc ks Q M pc ls st := fun H locs lsA hD hS hl => k H locs lsA hD hS (lv_sub hl qs (by subst h; simp only [lv_pick, List.getElem?_map]; rw [List.map_filterMap]))
theorem r_iadd (X : Cx p s m meth c cc nL own A ad D cI cJ) {x y : Int32} (hd : decode cc pc = .ok (.iadd, 1)) (k : AW p l e R s m args below meth c nL A ad D cI cJ sh nc kc ks Q M (pc + 1) ls (.int (x + y) :: st)) : AW p l e R s m args below meth c nL A ad D cI cJ sh nc kc ks Q M pc ls (.int y :: .int x :: st) := fun H locs lsA hD hS hl => lv_iadd X.1 X.2.1 hd (k H locs lsA hD hS hl)
theorem r_isub (X : Cx p s m meth c cc nL own A ad D cI cJ) {x y : Int32} (hd : decode cc pc = .ok (.isub, 1)) (k : AW p l e R s m args below meth c nL A ad D cI cJ sh nc kc ks Q M (pc + 1) ls (.int (x - y) :: st)) : AW p l e R s m args below meth c nL A ad D cI cJ sh nc kc ks Q M pc ls (.int y :: .int x :: st) := fun H locs lsA hD hS hl => lv_isub X.1 X.2.1 hd (k H locs lsA hD hS hl)
theorem r_imul (X : Cx p s m meth c cc nL own A ad D cI cJ) {x y : Int32} (hd : decode cc pc = .ok (.imul, 1)) (k : AW p l e R s m args below meth c nL A ad D cI cJ sh nc kc ks Q M (pc + 1) ls (.int (x * y) :: st)) : AW p l e R s m args below meth c nL A ad D cI cJ sh nc kc ks Q M pc ls (.int y :: .int x :: st) := fun H locs lsA hD hS hl => lv_imul X.1 X.2.1 hd (k H locs lsA hD hS hl)
theorem r_iand (X : Cx p s m meth c cc nL own A ad D cI cJ) {x y : Int32} (hd : decode cc pc = .ok (.iand, 1)) (k : AW p l e R s m args below meth c nL A ad D cI cJ sh nc kc ks Q M (pc + 1) ls (.int (x &&& y) :: st)) : AW p l e R s m args below meth c nL A ad D cI cJ sh nc kc ks Q M pc ls (.int y :: .int x :: st) := fun H locs lsA hD hS hl => lv_iand X.1 X.2.1 hd (k H locs lsA hD hS hl)
theorem r_idiv (X : Cx p s m meth c cc nL own A ad D cI cJ) {x y : Int32} (hne : ¬ y = 0) (hd : decode cc pc = .ok (.idiv, 1)) (k : AW p l e R s m args below meth c nL A ad D cI cJ sh nc kc ks Q M (pc + 1) ls (.int (x / y) :: st)) : AW p l e R s m args below meth c nL A ad D cI cJ sh nc kc ks Q M pc ls (.int y :: .int x :: st) := fun H locs lsA hD hS hl => lv_idiv X.1 X.2.1 hd hne (k H locs lsA hD hS hl)
theorem r_irem (X : Cx p s m meth c cc nL own A ad D cI cJ) {x y : Int32} (hne : ¬ y = 0) (hd : decode cc pc = .ok (.irem, 1)) (k : AW p l e R s m args below meth c nL A ad D cI cJ sh nc kc ks Q M (pc + 1) ls (.int (x - x / y * y) :: st)) : AW p l e R s m args below meth c nL A ad D cI cJ sh nc kc ks Q M pc ls (.int y :: .int x :: st) := fun H locs lsA hD hS hl => lv_irem X.1 X.2.1 hd hne (k H locs lsA hD hS hl)
theorem r_ineg (X : Cx p s m meth c cc nL own A ad D cI cJ) {x : Int32} (hd : decode cc pc = .ok (.ineg, 1)) (k : AW p l e R s m args below meth c nL A ad D cI cJ sh nc kc ks Q M (pc + 1) ls (.int (-x) :: st)) : AW p l e R s m args below meth c nL A ad D cI cJ sh nc kc ks Q M pc ls (.int x :: st) := fun H locs lsA hD hS hl => lv_ineg X.1 X.2.1 hd (k H locs lsA hD hS hl)
theorem r_ladd (X : Cx p s m meth c cc nL own A ad D cI cJ) {x y : Int64} (hd : decode cc pc = .ok (.ladd, 1)) (k : AW p l e R s m args below meth c nL A ad D cI cJ sh nc kc ks Q M (pc + 1) ls (.long (x + y) :: st)) : AW p l e R s m args below meth c nL A ad D cI cJ sh nc kc ks Q M pc ls (.long y :: .long x :: st) := fun H locs lsA hD hS hl => lv_ladd X.1 X.2.1 hd (k H locs lsA hD hS hl)
theorem r_lsub (X : Cx p s m meth c cc nL own A ad D cI cJ) {x y : Int64} (hd : decode cc pc = .ok (.lsub, 1)) (k : AW p l e R s m args below meth c nL A ad D cI cJ sh nc kc ks Q M (pc + 1) ls (.long (x - y) :: st)) : AW p l e R s m args below meth c nL A ad D cI cJ sh nc kc ks Q M pc ls (.long y :: .long x :: st) := fun H locs lsA hD hS hl => lv_lsub X.1 X.2.1 hd (k H locs lsA hD hS hl)
theorem r_lmul (X : Cx p s m meth c cc nL own A ad D cI cJ) {x y : Int64} (hd : decode cc pc = .ok (.lmul, 1)) (k : AW p l e R s m args below meth c nL A ad D cI cJ sh nc kc ks Q M (pc + 1) ls (.long (x * y) :: st)) : AW p l e R s m args below meth c nL A ad D cI cJ sh nc kc ks Q M pc ls (.long y :: .long x :: st) := fun H locs lsA hD hS hl => lv_lmul X.1 X.2.1 hd (k H locs lsA hD hS hl)
theorem r_land (X : Cx p s m meth c cc nL own A ad D cI cJ) {x y : Int64} (hd : decode cc pc = .ok (.land, 1)) (k : AW p l e R s m args below meth c nL A ad D cI cJ sh nc kc ks Q M (pc + 1) ls (.long (x &&& y) :: st)) : AW p l e R s m args below meth c nL A ad D cI cJ sh nc kc ks Q M pc ls (.long y :: .long x :: st) := fun H locs lsA hD hS hl => lv_land X.1 X.2.1 hd (k H locs lsA hD hS hl)
theorem r_lor (X : Cx p s m meth c cc nL own A ad D cI cJ) {x y : Int64} (hd : decode cc pc = .ok (.lor, 1)) (k : AW p l e R s m args below meth c nL A ad D cI cJ sh nc kc ks Q M (pc + 1) ls (.long (x ||| y) :: st)) : AW p l e R s m args below meth c nL A ad D cI cJ sh nc kc ks Q M pc ls (.long y :: .long x :: st) := fun H locs lsA hD hS hl => lv_lor X.1 X.2.1 hd (k H locs lsA hD hS hl)
theorem r_lcmp (X : Cx p s m meth c cc nL own A ad D cI cJ) {x y : Int64} (hd : decode cc pc = .ok (.lcmp, 1)) (k : AW p l e R s m args below meth c nL A ad D cI cJ sh nc kc ks Q M (pc + 1) ls (.int (lg_cmp x y) :: st)) : AW p l e R s m args below meth c nL A ad D cI cJ sh nc kc ks Q M pc ls (.long y :: .long x :: st) := fun H locs lsA hD hS hl => W.lcmp X.1 X.2.1 hd (k H locs lsA hD hS hl)
theorem r_i2l (X : Cx p s m meth c cc nL own A ad D cI cJ) {x : Int32} (hd : decode cc pc = .ok (.i2l, 1)) (k : AW p l e R s m args below meth c nL A ad D cI cJ sh nc kc ks Q M (pc + 1) ls (.long x.toInt64 :: st)) : AW p l e R s m args below meth c nL A ad D cI cJ sh nc kc ks Q M pc ls (.int x :: st) := fun H locs lsA hD hS hl => lv_i2l X.1 X.2.1 hd rfl (k H locs lsA hD hS hl)
theorem r_l2i (X : Cx p s m meth c cc nL own A ad D cI cJ) {x : Int64} (hd : decode cc pc = .ok (.l2i, 1)) (k : AW p l e R s m args below meth c nL A ad D cI cJ sh nc kc ks Q M (pc + 1) ls (.int x.toInt32 :: st)) : AW p l e R s m args below meth c nL A ad D cI cJ sh nc kc ks Q M pc ls (.long x :: st) := fun H locs lsA hD hS hl => lv_l2i X.1 X.2.1 hd rfl (k H locs lsA hD hS hl)
theorem r_i2s (X : Cx p s m meth c cc nL own A ad D cI cJ) {x : Int32} (hd : decode cc pc = .ok (.i2s, 1)) (k : AW p l e R s m args below meth c nL A ad D cI cJ sh nc kc ks Q M (pc + 1) ls (.int x.toInt16.toInt32 :: st)) : AW p l e R s m args below meth c nL A ad D cI cJ sh nc kc ks Q M pc ls (.int x :: st) := fun H locs lsA hD hS hl => lv_i2s X.1 X.2.1 hd rfl (k H locs lsA hD hS hl)
def shl64 (x : Int64) (y : Int32) : Int64 := x <<< (y.toInt64 &&& 63)
def shr64 (x : Int64) (y : Int32) : Int64 := x >>> (y.toInt64 &&& 63)
def ushr64 (x : Int64) (y : Int32) : Int64 := (x.toUInt64 >>> (y.toInt64.toUInt64 &&& Int64.toUInt64 63)).toInt64
theorem r_lshl (X : Cx p s m meth c cc nL own A ad D cI cJ) {x : Int64} {y : Int32} (hd : decode cc pc = .ok (.lshl, 1)) (k : AW p l e R s m args below meth c nL A ad D cI cJ sh nc kc ks Q M (pc + 1) ls (.long (shl64 x y) :: st)) : AW p l e R s m args below meth c nL A ad D cI cJ sh nc kc ks Q M pc ls (.int y :: .long x :: st) := fun H locs lsA hD hS hl => lv_lshl X.1 X.2.1 hd rfl (k H locs lsA hD hS hl)
theorem r_lshr (X : Cx p s m meth c cc nL own A ad D cI cJ) {x : Int64} {y : Int32} (hd : decode cc pc = .ok (.lshr, 1)) (k : AW p l e R s m args below meth c nL A ad D cI cJ sh nc kc ks Q M (pc + 1) ls (.long (shr64 x y) :: st)) : AW p l e R s m args below meth c nL A ad D cI cJ sh nc kc ks Q M pc ls (.int y :: .long x :: st) := fun H locs lsA hD hS hl => lv_lshr X.1 X.2.1 hd rfl (k H locs lsA hD hS hl)
theorem r_lushr (X : Cx p s m meth c cc nL own A ad D cI cJ) {x : Int64} {y : Int32} (hd : decode cc pc = .ok (.lushr, 1)) (k : AW p l e R s m args below meth c nL A ad D cI cJ sh nc kc ks Q M (pc + 1) ls (.long (ushr64 x y) :: st)) : AW p l e R s m args below meth c nL A ad D cI cJ sh nc kc ks Q M pc ls (.int y :: .long x :: st) := fun H locs lsA hD hS hl => lv_lushr X.1 X.2.1 hd rfl (k H locs lsA hD hS hl)
theorem r_dup (X : Cx p s m meth c cc nL own A ad D cI cJ) {va : Value} (hd : decode cc pc = .ok (.dup, 1)) (hva : va.category = 1) (k : AW p l e R s m args below meth c nL A ad D cI cJ sh nc kc ks Q M (pc + 1) ls (va :: va :: st)) : AW p l e R s m args below meth c nL A ad D cI cJ sh nc kc ks Q M pc ls (va :: st) := fun H locs lsA hD hS hl => lv_dup X.1 X.2.1 hd ((cv_cat ad va).trans hva) (k H locs lsA hD hS hl)
theorem r_dup2 (X : Cx p s m meth c cc nL own A ad D cI cJ) {va vb : Value} (hd : decode cc pc = .ok (.dup2, 1)) (hva : va.category = 1) (hvb : vb.category = 1) (k : AW p l e R s m args below meth c nL A ad D cI cJ sh nc kc ks Q M (pc + 1) ls (va :: vb :: va :: vb :: st)) : AW p l e R s m args below meth c nL A ad D cI cJ sh nc kc ks Q M pc ls (va :: vb :: st) := fun H locs lsA hD hS hl => lv_dup2_11 X.1 X.2.1 hd ((cv_cat ad va).trans hva) ((cv_cat ad vb).trans hvb) (k H locs lsA hD hS hl)
theorem r_goto (X : Cx p s m meth c cc nL own A ad D cI cJ) {off : Int} (tgt : Nat) (hd : decode cc pc = .ok (.goto off, 3)) (ht : (pc : Int) + off = (tgt : Int)) (k : AW p l e R s m args below meth c nL A ad D cI cJ sh nc kc ks Q M tgt ls st) : AW p l e R s m args below meth c nL A ad D cI cJ sh nc kc ks Q M pc ls st := fun H locs lsA hD hS hl => lv_goto X.1 X.2.1 hd ht (k H locs lsA hD hS hl)
theorem r_ifeq (X : Cx p s m meth c cc nL own A ad D cI cJ) {x : Int32} {off : Int} (tgt : Nat) (hd : decode cc pc = .ok (.ifCond .eq off, 3)) (ht : (pc : Int) + off = (tgt : Int)) (kt : x = 0 → AW p l e R s m args below meth c nL A ad D cI cJ sh nc kc ks Q M tgt ls st) (kf : ¬ x = 0 → AW p l e R s m args below meth c nL A ad D cI cJ sh nc kc ks Q M (pc + 3) ls st) : AW p l e R s m args below meth c nL A ad D cI cJ sh nc kc ks Q M pc ls (.int x :: st) := fun H locs lsA hD hS hl => lv_if_eq X.1 X.2.1 hd ht (fun z => kt z H locs lsA hD hS hl) (fun z => kf z H locs lsA hD hS hl)
theorem r_ifne (X : Cx p s m meth c cc nL own A ad D cI cJ) {x : Int32} {off : Int} (tgt : Nat) (hd : decode cc pc = .ok (.ifCond .ne off, 3)) (ht : (pc : Int) + off = (tgt : Int)) (kt : ¬ x = 0 → AW p l e R s m args below meth c nL A ad D cI cJ sh nc kc ks Q M tgt ls st) (kf : x = 0 → AW p l e R s m args below meth c nL A ad D cI cJ sh nc kc ks Q M (pc + 3) ls st) : AW p l e R s m args below meth c nL A ad D cI cJ sh nc kc ks Q M pc ls (.int x :: st) := fun H locs lsA hD hS hl => lv_if_ne X.1 X.2.1 hd ht (fun z => kt z H locs lsA hD hS hl) (fun z => kf z H locs lsA hD hS hl)
theorem r_iflt (X : Cx p s m meth c cc nL own A ad D cI cJ) {x : Int32} {off : Int} (tgt : Nat) (hd : decode cc pc = .ok (.ifCond .lt off, 3)) (ht : (pc : Int) + off = (tgt : Int)) (kt : x < 0 → AW p l e R s m args below meth c nL A ad D cI cJ sh nc kc ks Q M tgt ls st) (kf : ¬ x < 0 → AW p l e R s m args below meth c nL A ad D cI cJ sh nc kc ks Q M (pc + 3) ls st) : AW p l e R s m args below meth c nL A ad D cI cJ sh nc kc ks Q M pc ls (.int x :: st) := fun H locs lsA hD hS hl => lv_if_lt X.1 X.2.1 hd ht (fun z => kt z H locs lsA hD hS hl) (fun z => kf z H locs lsA hD hS hl)
theorem r_ifge (X : Cx p s m meth c cc nL own A ad D cI cJ) {x : Int32} {off : Int} (tgt : Nat) (hd : decode cc pc = .ok (.ifCond .ge off, 3)) (ht : (pc : Int) + off = (tgt : Int)) (kt : 0 ≤ x → AW p l e R s m args below meth c nL A ad D cI cJ sh nc kc ks Q M tgt ls st) (kf : ¬ 0 ≤ x → AW p l e R s m args below meth c nL A ad D cI cJ sh nc kc ks Q M (pc + 3) ls st) : AW p l e R s m args below meth c nL A ad D cI cJ sh nc kc ks Q M pc ls (.int x :: st) := fun H locs lsA hD hS hl => lv_if_ge X.1 X.2.1 hd ht (fun z => kt z H locs lsA hD hS hl) (fun z => kf z H locs lsA hD hS hl)
theorem r_ifgt (X : Cx p s m meth c cc nL own A ad D cI cJ) {x : Int32} {off : Int} (tgt : Nat) (hd : decode cc pc = .ok (.ifCond .gt off, 3)) (ht : (pc : Int) + off = (tgt : Int)) (kt : 0 < x → AW p l e R s m args below meth c nL A ad D cI cJ sh nc kc ks Q M tgt ls st) (kf : ¬ 0 < x → AW p l e R s m args below meth c nL A ad D cI cJ sh nc kc ks Q M (pc + 3) ls st) : AW p l e R s m args below meth c nL A ad D cI cJ sh nc kc ks Q M pc ls (.int x :: st) := fun H locs lsA hD hS hl => lv_if_gt X.1 X.2.1 hd ht (fun z => kt z H locs lsA hD hS hl) (fun z => kf z H locs lsA hD hS hl)
theorem r_ifle (X : Cx p s m meth c cc nL own A ad D cI cJ) {x : Int32} {off : Int} (tgt : Nat) (hd : decode cc pc = .ok (.ifCond .le off, 3)) (ht : (pc : Int) + off = (tgt : Int)) (kt : x ≤ 0 → AW p l e R s m args below meth c nL A ad D cI cJ sh nc kc ks Q M tgt ls st) (kf : ¬ x ≤ 0 → AW p l e R s m args below meth c nL A ad D cI cJ sh nc kc ks Q M (pc + 3) ls st) : AW p l e R s m args below meth c nL A ad D cI cJ sh nc kc ks Q M pc ls (.int x :: st) := fun H locs lsA hD hS hl => lv_if_le X.1 X.2.1 hd ht (fun z => kt z H locs lsA hD hS hl) (fun z => kf z H locs lsA hD hS hl)
theorem r_iceq (X : Cx p s m meth c cc nL own A ad D cI cJ) {x y : Int32} {off : Int} (tgt : Nat) (hd : decode cc pc = .ok (.if_icmp .eq off, 3)) (ht : (pc : Int) + off = (tgt : Int)) (kt : x = y → AW p l e R s m args below meth c nL A ad D cI cJ sh nc kc ks Q M tgt ls st) (kf : ¬ x = y → AW p l e R s m args below meth c nL A ad D cI cJ sh nc kc ks Q M (pc + 3) ls st) : AW p l e R s m args below meth c nL A ad D cI cJ sh nc kc ks Q M pc ls (.int y :: .int x :: st) := fun H locs lsA hD hS hl => lv_icmp_eq X.1 X.2.1 hd ht (fun z => kt z H locs lsA hD hS hl) (fun z => kf z H locs lsA hD hS hl)
theorem r_icne (X : Cx p s m meth c cc nL own A ad D cI cJ) {x y : Int32} {off : Int} (tgt : Nat) (hd : decode cc pc = .ok (.if_icmp .ne off, 3)) (ht : (pc : Int) + off = (tgt : Int)) (kt : ¬ x = y → AW p l e R s m args below meth c nL A ad D cI cJ sh nc kc ks Q M tgt ls st) (kf : x = y → AW p l e R s m args below meth c nL A ad D cI cJ sh nc kc ks Q M (pc + 3) ls st) : AW p l e R s m args below meth c nL A ad D cI cJ sh nc kc ks Q M pc ls (.int y :: .int x :: st) := fun H locs lsA hD hS hl => lv_icmp_ne X.1 X.2.1 hd ht (fun z => kt z H locs lsA hD hS hl) (fun z => kf z H locs lsA hD hS hl)
theorem r_iclt (X : Cx p s m meth c cc nL own A ad D cI cJ) {x y : Int32} {off : Int} (tgt : Nat) (hd : decode cc pc = .ok (.if_icmp .lt off, 3)) (ht : (pc : Int) + off = (tgt : Int)) (kt : x < y → AW p l e R s m args below meth c nL A ad D cI cJ sh nc kc ks Q M tgt ls st) (kf : ¬ x < y → AW p l e R s m args below meth c nL A ad D cI cJ sh nc kc ks Q M (pc + 3) ls st) : AW p l e R s m args below meth c nL A ad D cI cJ sh nc kc ks Q M pc ls (.int y :: .int x :: st) := fun H locs lsA hD hS hl => lv_icmp_lt X.1 X.2.1 hd ht (fun z => kt z H locs lsA hD hS hl) (fun z => kf z H locs lsA hD hS hl)
theorem r_icge (X : Cx p s m meth c cc nL own A ad D cI cJ) {x y : Int32} {off : Int} (tgt : Nat) (hd : decode cc pc = .ok (.if_icmp .ge off, 3)) (ht : (pc : Int) + off = (tgt : Int)) (kt : y ≤ x → AW p l e R s m args below meth c nL A ad D cI cJ sh nc kc ks Q M tgt ls st) (kf : ¬ y ≤ x → AW p l e R s m args below meth c nL A ad D cI cJ sh nc kc ks Q M (pc + 3) ls st) : AW p l e R s m args below meth c nL A ad D cI cJ sh nc kc ks Q M pc ls (.int y :: .int x :: st) := fun H locs lsA hD hS hl => lv_icmp_ge X.1 X.2.1 hd ht (fun z => kt z H locs lsA hD hS hl) (fun z => kf z H locs lsA hD hS hl)
theorem r_icgt (X : Cx p s m meth c cc nL own A ad D cI cJ) {x y : Int32} {off : Int} (tgt : Nat) (hd : decode cc pc = .ok (.if_icmp .gt off, 3)) (ht : (pc : Int) + off = (tgt : Int)) (kt : y < x → AW p l e R s m args below meth c nL A ad D cI cJ sh nc kc ks Q M tgt ls st) (kf : ¬ y < x → AW p l e R s m args below meth c nL A ad D cI cJ sh nc kc ks Q M (pc + 3) ls st) : AW p l e R s m args below meth c nL A ad D cI cJ sh nc kc ks Q M pc ls (.int y :: .int x :: st) := fun H locs lsA hD hS hl => lv_icmp_gt X.1 X.2.1 hd ht (fun z => kt z H locs lsA hD hS hl) (fun z => kf z H locs lsA hD hS hl)
theorem r_icle (X : Cx p s m meth c cc nL own A ad D cI cJ) {x y : Int32} {off : Int} (tgt : Nat) (hd : decode cc pc = .ok (.if_icmp .le off, 3)) (ht : (pc : Int) + off = (tgt : Int)) (kt : x ≤ y → AW p l e R s m args below meth c nL A ad D cI cJ sh nc kc ks Q M tgt ls st) (kf : ¬ x ≤ y → AW p l e R s m args below meth c nL A ad D cI cJ sh nc kc ks Q M (pc + 3) ls st) : AW p l e R s m args below meth c nL A ad D cI cJ sh nc kc ks Q M pc ls (.int y :: .int x :: st) := fun H locs lsA hD hS hl => lv_icmp_le X.1 X.2.1 hd ht (fun z => kt z H locs lsA hD hS hl) (fun z => kf z H locs lsA hD hS hl)
theorem r_swOut (X : Cx p s m meth c cc nL own A ad D cI cJ) {x : Int32} {dflt lo hi : Int} {offs : Array Int} {len : Nat} (tgt : Nat) (hd : decode cc pc = .ok (.tableswitch dflt lo hi offs, len)) (h : x.toInt < lo ∨ hi < x.toInt) (ht : (pc : Int) + dflt = (tgt : Int)) (k : AW p l e R s m args below meth c nL A ad D cI cJ sh nc kc ks Q M tgt ls st) : AW p l e R s m args below meth c nL A ad D cI cJ sh nc kc ks Q M pc ls (.int x :: st) := fun H locs lsA hD hS hl => lv_tableOut X.1 X.2.1 hd h ht (k H locs lsA hD hS hl)
theorem r_swIn (X : Cx p s m meth c cc nL own A ad D cI cJ) {x : Int32} (v : Int32) (hx : x = v) {dflt lo hi : Int} {offs : Array Int} {len : Nat} {off : Int} (tgt : Nat) (hd : decode cc pc = .ok (.tableswitch dflt lo hi offs, len)) (h1 : ¬ v.toInt < lo) (h2 : ¬ hi < v.toInt) (ho : offs[(v.toInt - lo).toNat]? = some off) (ht : (pc : Int) + off = (tgt : Int)) (k : AW p l e R s m args below meth c nL A ad D cI cJ sh nc kc ks Q M tgt ls st) : AW p l e R s m args below meth c nL A ad D cI cJ sh nc kc ks Q M pc ls (.int x :: st) := by
  subst hx
  exact fun H locs lsA hD hS hl => lv_tableIn X.1 X.2.1 hd h1 h2 ho ht (k H locs lsA hD hS hl)
theorem r_getg (X : Cx p s m meth c cc nL own A ad D cI cJ) {C : String} {T : u_T} {N ci : Nat} {fs : List Fk} {ix k j : Nat} {f : Fk} (hin : ∀ w ∈ u_ws C T N, w ∈ lw_tbl ∧ okw w = true) (hc : vwCl[ci]? = some (C, T, N)) (hsh : sh k = .inl (ci, fs)) (hk : k < nc) (hj : j < N) (hf : fs[j]? = some f) (hw : Cond.fieldLink own ix (T j).1 (T j).2.1 (T j).2.2.1 ∈ lw_tbl) (hd : decode cc pc = .ok (.getfield ix, 3)) (kk : AW p l e R s m args below meth c nL A ad D cI cJ sh nc kc ks Q M (pc + 3) ls (fvA M k j f :: st)) : AW p l e R s m args below meth c nL A ad D cI cJ sh nc kc ks Q M pc ls (.ref k :: st) := by
  intro H locs lsA hD hS hl
  have hP := hD.1
  have he := (cells_at (ad := ad) (cI := cI) (cJ := cJ) (sh := sh) (M := M) hk).trans (by rw [cellE_o hsh])
  exact va_get (Ts := u_ws C T N) X.1 X.2.1 (fun w hw => X.2.2.2.2.1.1 w (hin w hw).1 (hin w hw).2 args) (fun w hw => hw) X.2.2.2.1 X.2.2.2.2.1.2.1 hP k he hc j hj (X.2.2.2.2.1.1 _ hw rfl args) (fun _ h => h) (by rw [List.getElem?_mapIdx, hf]; rfl) hd (kk H locs lsA hD hS hl)
theorem r_geti (X : Cx p s m meth c cc nL own A ad D cI cJ) {C : String} {T : u_T} {N ci : Nat} {fs : List Fk} {ix k : Nat} (j : Nat) (hin : ∀ w ∈ u_ws C T N, w ∈ lw_tbl ∧ okw w = true) (hc : vwCl[ci]? = some (C, T, N)) (hsh : sh k = .inl (ci, fs)) (hk : k < nc) (hj : j < N) (hf : fs[j]? = some (.inr false)) (hw : Cond.fieldLink own ix (T j).1 (T j).2.1 (T j).2.2.1 ∈ lw_tbl) (hd : decode cc pc = .ok (.getfield ix, 3)) (kk : AW p l e R s m args below meth c nL A ad D cI cJ sh nc kc ks Q M (pc + 3) ls (.int (M.1 k j) :: st)) : AW p l e R s m args below meth c nL A ad D cI cJ sh nc kc ks Q M pc ls (.ref k :: st) := r_getg X hin hc hsh hk hj hf hw hd kk
theorem r_getl (X : Cx p s m meth c cc nL own A ad D cI cJ) {C : String} {T : u_T} {N ci : Nat} {fs : List Fk} {ix k : Nat} (j : Nat) (hin : ∀ w ∈ u_ws C T N, w ∈ lw_tbl ∧ okw w = true) (hc : vwCl[ci]? = some (C, T, N)) (hsh : sh k = .inl (ci, fs)) (hk : k < nc) (hj : j < N) (hf : fs[j]? = some (.inr true)) (hw : Cond.fieldLink own ix (T j).1 (T j).2.1 (T j).2.2.1 ∈ lw_tbl) (hd : decode cc pc = .ok (.getfield ix, 3)) (kk : AW p l e R s m args below meth c nL A ad D cI cJ sh nc kc ks Q M (pc + 3) ls (.long (M.2 k j) :: st)) : AW p l e R s m args below meth c nL A ad D cI cJ sh nc kc ks Q M pc ls (.ref k :: st) := r_getg X hin hc hsh hk hj hf hw hd kk
theorem r_getr (X : Cx p s m meth c cc nL own A ad D cI cJ) {C : String} {T : u_T} {N ci : Nat} {fs : List Fk} {ix k : Nat} (j q : Nat) (hin : ∀ w ∈ u_ws C T N, w ∈ lw_tbl ∧ okw w = true) (hc : vwCl[ci]? = some (C, T, N)) (hsh : sh k = .inl (ci, fs)) (hk : k < nc) (hj : j < N) (hf : fs[j]? = some (.inl q)) (hw : Cond.fieldLink own ix (T j).1 (T j).2.1 (T j).2.2.1 ∈ lw_tbl) (hd : decode cc pc = .ok (.getfield ix, 3)) (hq : ¬ q = 999) (kk : AW p l e R s m args below meth c nL A ad D cI cJ sh nc kc ks Q M (pc + 3) ls (.ref q :: st)) : AW p l e R s m args below meth c nL A ad D cI cJ sh nc kc ks Q M pc ls (.ref k :: st) := r_getg X hin hc hsh hk hj hf hw hd (by rw [show fvA M k j (.inl q) = .ref q from if_neg hq]; exact kk)
theorem seI_st {M : Mem} {k i : Nat} {v : Int32} (hk : k < 45) (h : ∀ k j, k < 6 → j < sln k → M.1 (45 + k) j = sdt k j) : ∀ k' j, k' < 6 → j < sln k' → (seI M k i v).1 (45 + k') j = sdt k' j := by
  intro k' j h1 h2
  have : ¬ (45 + k' = k ∧ j = i) := by omega
  simp only [seI, if_neg this]
  exact h k' j h1 h2
theorem r_puti (X : Cx p s m meth c cc nL own A ad D cI cJ) {C : String} {T : u_T} {N ci : Nat} {fs : List Fk} {ix k : Nat} {x : Int32} {ty : FieldType} {ty0 : Nat → FieldType} (j : Nat) (hin : ∀ w ∈ u_ws C T N, w ∈ lw_tbl ∧ okw w = true) (hc : vwCl[ci]? = some (C, T, N)) (hty : ∀ k, k < N → parseFieldDescriptor (T k).2.2.1 = some (ty0 k)) (hnm : ∀ a, a < N → ∀ b, b < N → a ≠ b → (T a).2.1 ≠ (T b).2.1) (hsh : sh k = .inl (ci, fs)) (hk : k < nc) (hj : j < N) (hf : fs[j]? = some (.inr false)) (hw : Cond.fieldLink own ix (T j).1 (T j).2.1 (T j).2.2.1 ∈ lw_tbl) (hfin : (T j).2.2.2 = false) (ht : ty0 j = ty) (hn : narrow ty (.int x) = .int x) (hfit : fits ty (.int x) = true) (hd : decode cc pc = .ok (.putfield ix, 3)) (kk : AW p l e R s m args below meth c nL A ad D cI cJ sh nc kc ks Q (seI M k j x) (pc + 3) ls st) : AW p l e R s m args below meth c nL A ad D cI cJ sh nc kc ks Q M pc ls (.int x :: .ref k :: st) := by
  intro H locs lsA hD hS hl
  have he := (cells_at (ad := ad) (cI := cI) (cJ := cJ) (sh := sh) (M := M) hk).trans (by rw [cellE_o hsh])
  refine va_put (Ts := u_ws C T N) X.1 X.2.1 (fun w hw => X.2.2.2.2.1.1 w (hin w hw).1 (hin w hw).2 args) (fun w hw => hw) ty0 hty hnm X.2.2.2.1 X.2.2.2.2.1.2.1 hD.1 hD.2.1 hS k he hc j hj (X.2.2.2.2.1.1 _ hw rfl args) (fun _ h => h) hfin (ht ▸ hty j hj) hn hfit (by simpa using (List.getElem?_eq_some_iff.mp hf).1) hd (fun H1 locs1 hP1 hD1 hS1 => ?_)
  have hP1 : va_P D vwCl (cells ad cI cJ sh nc (seI M k j x)) H1 := by rw [← cells_seI_o hk hsh hf]; exact hP1
  have hD1 : va_D A (cells ad cI cJ sh nc (seI M k j x)) := by rw [← cells_seI_o hk hsh hf]; exact hD1
  exact kk H1 locs1 lsA ⟨hP1, hD1, hD.2.2.1, seI_st (Nat.lt_of_lt_of_le hk hD.2.2.1) hD.2.2.2⟩ hS1 hl
theorem r_putl (X : Cx p s m meth c cc nL own A ad D cI cJ) {C : String} {T : u_T} {N ci : Nat} {fs : List Fk} {ix k : Nat} {x : Int64} {ty0 : Nat → FieldType} (j : Nat) (hin : ∀ w ∈ u_ws C T N, w ∈ lw_tbl ∧ okw w = true) (hc : vwCl[ci]? = some (C, T, N)) (hty : ∀ k, k < N → parseFieldDescriptor (T k).2.2.1 = some (ty0 k)) (hnm : ∀ a, a < N → ∀ b, b < N → a ≠ b → (T a).2.1 ≠ (T b).2.1) (hsh : sh k = .inl (ci, fs)) (hk : k < nc) (hj : j < N) (hf : fs[j]? = some (.inr true)) (hw : Cond.fieldLink own ix (T j).1 (T j).2.1 (T j).2.2.1 ∈ lw_tbl) (hfin : (T j).2.2.2 = false) (ht : ty0 j = .long) (hd : decode cc pc = .ok (.putfield ix, 3)) (kk : AW p l e R s m args below meth c nL A ad D cI cJ sh nc kc ks Q (seL M k j x) (pc + 3) ls st) : AW p l e R s m args below meth c nL A ad D cI cJ sh nc kc ks Q M pc ls (.long x :: .ref k :: st) := by
  intro H locs lsA hD hS hl
  have he := (cells_at (ad := ad) (cI := cI) (cJ := cJ) (sh := sh) (M := M) hk).trans (by rw [cellE_o hsh])
  refine va_put (Ts := u_ws C T N) X.1 X.2.1 (fun w hw => X.2.2.2.2.1.1 w (hin w hw).1 (hin w hw).2 args) (fun w hw => hw) ty0 hty hnm X.2.2.2.1 X.2.2.2.2.1.2.1 hD.1 hD.2.1 hS k he hc j hj (X.2.2.2.2.1.1 _ hw rfl args) (fun _ h => h) hfin (ht ▸ hty j hj) rfl rfl (by simpa using (List.getElem?_eq_some_iff.mp hf).1) hd (fun H1 locs1 hP1 hD1 hS1 => ?_)
  have hP1 : va_P D vwCl (cells ad cI cJ sh nc (seL M k j x)) H1 := by rw [← cells_seL_o hk hsh hf]; exact hP1
  have hD1 : va_D A (cells ad cI cJ sh nc (seL M k j x)) := by rw [← cells_seL_o hk hsh hf]; exact hD1
  exact kk H1 locs1 lsA ⟨hP1, hD1, hD.2.2⟩ hS1 hl
theorem r_gets (X : Cx p s m meth c cc nL own A ad D cI cJ) {ix : Nat} (k : Nat) (hk : k < 6) (hw : Cond.fieldLink own ix "TrackBox" (snm k) "[I" ∈ lw_tbl) (hd : decode cc pc = .ok (.getstatic ix, 3)) (kk : AW p l e R s m args below meth c nL A ad D cI cJ sh nc kc ks Q M (pc + 3) ls (.ref (45 + k) :: st)) : AW p l e R s m args below meth c nL A ad D cI cJ sh nc kc ks Q M pc ls st := fun H locs lsA hD hS hl => va_gets X.1 X.2.1 (X.2.2.2.2.1.2.2 k hk).1 hS X.2.2.2.1 (X.2.2.2.2.1.1 _ hw rfl args) (fun _ h => h) hd (kk H locs lsA hD hS hl)
theorem r_getsN (X : Cx p s m meth c cc nL own A ad D cI cJ) {ix : Nat} {host : String} (k : Nat) (hk : k < 6) (hw : Cond.fieldLinkNest own ix "TrackBox" (snm k) "[I" host ∈ lw_tbl) (hd : decode cc pc = .ok (.getstatic ix, 3)) (kk : AW p l e R s m args below meth c nL A ad D cI cJ sh nc kc ks Q M (pc + 3) ls (.ref (45 + k) :: st)) : AW p l e R s m args below meth c nL A ad D cI cJ sh nc kc ks Q M pc ls st := fun H locs lsA hD hS hl => va_getsN X.1 X.2.1 (X.2.2.2.2.1.2.2 k hk).1 hS X.2.2.2.1 (X.2.2.2.2.1.1 _ hw rfl args) (fun _ h => h) hd (kk H locs lsA hD hS hl)
/-- an index inside an array -/
abbrev inb (i : Int32) (n : Nat) : Prop := 0 ≤ i.toInt ∧ i.toInt < n
theorem inb_vp {i : Int32} {n : Nat} (h : inb i n) : vp_in i n := vp_in_iff.mpr h
def ix (i : Int32) : Nat := i.toNatClampNeg
theorem iaL_cell {sh : Nat → Shp} {k n : Nat} (h : iaL sh k = some n) (hk : k < 45) : sh k = .inr (false, n) := by
  unfold iaL at h
  rw [if_pos hk] at h
  split at h
  · cases h; assumption
  · cases h
theorem iaL_st {sh : Nat → Shp} {k n : Nat} (h : iaL sh k = some n) (hk : ¬ k < 45) : k - 45 < 6 ∧ n = sln (k - 45) ∧ k = 45 + (k - 45) := by
  unfold iaL at h
  rw [if_neg hk] at h
  split at h
  · cases h; omega
  · cases h
theorem r_iald (X : Cx p s m meth c cc nL own A ad D cI cJ) {k n : Nat} {i : Int32} (hia : iaL sh k = some n) (hkn : k < nc ∨ 45 ≤ k) (hi : inb i n) (hd : decode cc pc = .ok (.iaload, 1)) (kk : AW p l e R s m args below meth c nL A ad D cI cJ sh nc kc ks Q M (pc + 1) ls (.int (M.1 k (ix i)) :: st)) : AW p l e R s m args below meth c nL A ad D cI cJ sh nc kc ks Q M pc ls (.int i :: .ref k :: st) := by
  intro H locs lsA hD hS hl
  rcases hkn with hk | hk
  · have he := (cells_at (ad := ad) (cI := cI) (cJ := cJ) (sh := sh) (M := M) hk).trans (by rw [cellE_i (iaL_cell hia (Nat.lt_of_lt_of_le hk hD.2.2.1))])
    exact va_iald X.1 X.2.1 X.2.2.2.2.1.2.1 hD.1 k 0 he rfl (inb_vp hi) hd (kk H locs lsA hD hS hl)
  · obtain ⟨h1, h2, h3⟩ := iaL_st hia (Nat.not_lt.mpr hk)
    have hT := (X.2.2.2.2.1.2.2 (k - 45) h1).2
    rw [← h3, ← h2] at hT
    have hlt : ix i < n := by
      have := inb_vp hi
      exact Nat.not_le.mp fun q => this (Or.inr q)
    refine va_ti X.1 X.2.1 hT hS (inb_vp hi) (v := .int (M.1 k (ix i))) ?_ hd (kk H locs lsA hD hS hl)
    have := hD.2.2.2 (k - 45) (ix i) h1 (by rw [← h2]; exact hlt)
    rw [← h3] at this
    rw [this]
    rfl
theorem r_alen (X : Cx p s m meth c cc nL own A ad D cI cJ) {k n : Nat} {v : Int32} (hia : iaL sh k = some n) (hkn : k < nc ∨ 45 ≤ k) (hv : Int32.ofNat n = v) (hd : decode cc pc = .ok (.arraylength, 1)) (kk : AW p l e R s m args below meth c nL A ad D cI cJ sh nc kc ks Q M (pc + 1) ls (.int v :: st)) : AW p l e R s m args below meth c nL A ad D cI cJ sh nc kc ks Q M pc ls (.ref k :: st) := by
  intro H locs lsA hD hS hl
  rcases hkn with hk | hk
  · have he := (cells_at (ad := ad) (cI := cI) (cJ := cJ) (sh := sh) (M := M) hk).trans (by rw [cellE_i (iaL_cell hia (Nat.lt_of_lt_of_le hk hD.2.2.1))])
    exact va_alen X.1 X.2.1 X.2.2.2.2.1.2.1 hD.1 k 0 he (ty := .int) rfl hv hd (kk H locs lsA hD hS hl)
  · obtain ⟨h1, h2, h3⟩ := iaL_st hia (Nat.not_lt.mpr hk)
    have hT := (X.2.2.2.2.1.2.2 (k - 45) h1).2
    rw [← h3, ← h2] at hT
    exact va_tlen X.1 X.2.1 hT hS hv hd (kk H locs lsA hD hS hl)
def laL (sh : Nat → Shp) (k : Nat) : Option Nat := if k < 45 then (match sh k with | .inr (true, n) => some n | _ => none) else none
theorem laL_cell {sh : Nat → Shp} {k n : Nat} (h : laL sh k = some n) : k < 45 ∧ sh k = .inr (true, n) := by
  unfold laL at h
  split at h
  · refine ⟨by assumption, ?_⟩
    split at h
    · cases h; assumption
    · cases h
  · cases h
theorem r_lalen (X : Cx p s m meth c cc nL own A ad D cI cJ) {k n : Nat} {v : Int32} (hia : laL sh k = some n) (hkn : k < nc ∨ 45 ≤ k) (hv : Int32.ofNat n = v) (hd : decode cc pc = .ok (.arraylength, 1)) (kk : AW p l e R s m args below meth c nL A ad D cI cJ sh nc kc ks Q M (pc + 1) ls (.int v :: st)) : AW p l e R s m args below meth c nL A ad D cI cJ sh nc kc ks Q M pc ls (.ref k :: st) := by
  intro H locs lsA hD hS hl
  obtain ⟨hk45, hs⟩ := laL_cell hia
  have hk : k < nc := hkn.resolve_right (Nat.not_le.mpr hk45)
  have he := (cells_at (ad := ad) (cI := cI) (cJ := cJ) (sh := sh) (M := M) hk).trans (by rw [cellE_l hs])
  exact va_alen X.1 X.2.1 X.2.2.2.2.1.2.1 hD.1 k 1 he (ty := .long) rfl hv hd (kk H locs lsA hD hS hl)
theorem r_lald (X : Cx p s m meth c cc nL own A ad D cI cJ) {k n : Nat} {i : Int32} (hia : laL sh k = some n) (hkn : k < nc ∨ 45 ≤ k) (hi : inb i n) (hd : decode cc pc = .ok (.laload, 1)) (kk : AW p l e R s m args below meth c nL A ad D cI cJ sh nc kc ks Q M (pc + 1) ls (.long (M.2 k (ix i)) :: st)) : AW p l e R s m args below meth c nL A ad D cI cJ sh nc kc ks Q M pc ls (.int i :: .ref k :: st) := by
  intro H locs lsA hD hS hl
  obtain ⟨hk45, hs⟩ := laL_cell hia
  have hk : k < nc := hkn.resolve_right (Nat.not_le.mpr hk45)
  have he := (cells_at (ad := ad) (cI := cI) (cJ := cJ) (sh := sh) (M := M) hk).trans (by rw [cellE_l hs])
  exact va_lald X.1 X.2.1 X.2.2.2.2.1.2.1 hD.1 k 1 he rfl (inb_vp hi) hd (kk H locs lsA hD hS hl)
theorem r_last (X : Cx p s m meth c cc nL own A ad D cI cJ) {k n : Nat} {i : Int32} {x : Int64} (hia : laL sh k = some n) (hkn : k < nc ∨ 45 ≤ k) (hi : inb i n) (hd : decode cc pc = .ok (.lastore, 1)) (kk : AW p l e R s m args below meth c nL A ad D cI cJ sh nc kc ks Q (seL M k (ix i) x) (pc + 1) ls st) : AW p l e R s m args below meth c nL A ad D cI cJ sh nc kc ks Q M pc ls (.long x :: .int i :: .ref k :: st) := by
  intro H locs lsA hD hS hl
  obtain ⟨hk45, hs⟩ := laL_cell hia
  have hk : k < nc := hkn.resolve_right (Nat.not_le.mpr hk45)
  have he := (cells_at (ad := ad) (cI := cI) (cJ := cJ) (sh := sh) (M := M) hk).trans (by rw [cellE_l hs])
  refine va_last X.1 X.2.1 X.2.2.2.2.1.2.1 hD.1 hD.2.1 hS k 1 he rfl (inb_vp hi) hd (fun H1 locs1 hP1 hD1 hS1 => ?_)
  rw [show i.toNatClampNeg = ix i from rfl, cells_seL_a hk hs] at hP1 hD1
  exact kk H1 locs1 lsA ⟨hP1, hD1, hD.2.2⟩ hS1 hl
theorem r_iast (X : Cx p s m meth c cc nL own A ad D cI cJ) {k n : Nat} {i x : Int32} (hia : iaL sh k = some n) (hk : k < nc) (hi : inb i n) (hd : decode cc pc = .ok (.iastore, 1)) (kk : AW p l e R s m args below meth c nL A ad D cI cJ sh nc kc ks Q (seI M k (ix i) x) (pc + 1) ls st) : AW p l e R s m args below meth c nL A ad D cI cJ sh nc kc ks Q M pc ls (.int x :: .int i :: .ref k :: st) := by
  intro H locs lsA hD hS hl
  have hs := iaL_cell hia (Nat.lt_of_lt_of_le hk hD.2.2.1)
  have he := (cells_at (ad := ad) (cI := cI) (cJ := cJ) (sh := sh) (M := M) hk).trans (by rw [cellE_i hs])
  refine va_iast X.1 X.2.1 X.2.2.2.2.1.2.1 hD.1 hD.2.1 hS k 0 he rfl (inb_vp hi) hd (fun H1 locs1 hP1 hD1 hS1 => ?_)
  rw [show i.toNatClampNeg = ix i from rfl, cells_seI_a hk hs] at hP1 hD1
  exact kk H1 locs1 lsA ⟨hP1, hD1, hD.2.2.1, seI_st (Nat.lt_of_lt_of_le hk hD.2.2.1) hD.2.2.2⟩ hS1 hl

theorem r_iret (X : Cx p s m meth c cc nL own A ad D cI cJ) {x : Int32} (hr : meth.sig.returnType = some .int) (hd : decode cc pc = .ok (.ireturn, 1)) : AW p l e R s m args below meth c nL A ad D cI cJ sh nc kc ks (MQ below (Qq A ad D cI cJ sh nc (some (.int x)) M) args s kc ks A) M pc ls [.int x] := fun H locs lsA hD hS hl => W.iret X.1 X.2.1 hr (fun t ht hW => ⟨rfl, by rw [ht]; exact hD, hS.F ht⟩) hS.2.2 hd X.2.2.2.2.2
theorem r_lret (X : Cx p s m meth c cc nL own A ad D cI cJ) {x : Int64} (hr : meth.sig.returnType = some .long) (hd : decode cc pc = .ok (.lreturn, 1)) : AW p l e R s m args below meth c nL A ad D cI cJ sh nc kc ks (MQ below (Qq A ad D cI cJ sh nc (some (.long x)) M) args s kc ks A) M pc ls [.long x] := fun H locs lsA hD hS hl => W.lret X.1 X.2.1 hr (fun t ht hW => ⟨rfl, by rw [ht]; exact hD, hS.F ht⟩) hS.2.2 hd X.2.2.2.2.2
theorem r_zret (X : Cx p s m meth c cc nL own A ad D cI cJ) {x : Int32} (hr : meth.sig.returnType = some .boolean) (hn : narrow .boolean (.int x) = .int x) (hd : decode cc pc = .ok (.ireturn, 1)) : AW p l e R s m args below meth c nL A ad D cI cJ sh nc kc ks (MQ below (Qq A ad D cI cJ sh nc (some (.int x)) M) args s kc ks A) M pc ls [.int x] := fun H locs lsA hD hS hl => W.zret X.1 X.2.1 hr hn (fun t ht hW => ⟨rfl, by rw [ht]; exact hD, hS.F ht⟩) hS.2.2 hd X.2.2.2.2.2
theorem r_vret (X : Cx p s m meth c cc nL own A ad D cI cJ) (hr : meth.sig.returnType = none) (hd : decode cc pc = .ok (.return_, 1)) : AW p l e R s m args below meth c nL A ad D cI cJ sh nc kc ks (MQ below (Qq A ad D cI cJ sh nc none M) args s kc ks A) M pc ls [] := fun H locs lsA hD hS hl => W.vret X.1 X.2.1 hr (fun t ht hW => ⟨rfl, by rw [ht]; exact hD, hS.F ht⟩) hS.2.2 hd X.2.2.2.2.2
theorem ai_run {av : List Value} {M' : Mem} {r : Option Value} {H : Heap} {locs : List Loc} {lsA : Array Slot} {stk : List Value} (hS : va_S A s.heap H locs) (hl : lv_has lsA nL (ls.map (fun q => (q.1, cv ad q.2)))) (hr : va_Run p l e R s m args below meth c H locs kc ks 0 0 (F0 m pc lsA stk) (st.map (cv ad)) (Qq A ad D cI cJ sh nc r M' (av.map (cv ad)).toArray) A) (kk : AW p l e R s m args below meth c nL A ad D cI cJ sh nc kc ks Q M' (pc + 3) ls (r.toList ++ st)) : W p l e R s m args below meth c H locs kc ks Q (F0 m pc lsA stk) := by
  intro T hT X
  obtain ⟨v, st₀, t, T', L, h0, X', hL, e1, e2, ⟨hv, hdy, hz, hkp⟩, stp⟩ := hr T hT X
  rw [h0] at hz hkp
  obtain rfl : v = r.map (cv ad) := by cases hv; rfl
  obtain ⟨t2, a1, b1⟩ := kk T'.heap (locs ++ L) lsA (by rw [e1]; exact hdy) ⟨Nat.le_trans hS.1 (by rw [e1]; exact hz), fun q h1 h2 => by rw [e1, hkp q (Nat.lt_of_lt_of_le h1 hS.1) h2]; exact hS.2.1 q h1 h2, fun q hq => by
      rcases List.mem_append.mp hq with h | h
      · exact hS.2.2 q h
      · exact hL q h⟩ hl T' rfl X'
  refine ⟨t2, stp t2 ?_, b1⟩
  have hq : (r.toList ++ st).map (cv ad) = (r.map (cv ad)).toList ++ st.map (cv ad) := by cases r <;> simp
  rw [hq] at a1
  exact a1
theorem ai_pre {H : Heap} {locs : List Loc} {av : List Value} (X : Cx p s m meth c cc nL own A ad D cI cJ) (hD : Dy A ad D cI cJ sh nc M H) (hS : va_S A s.heap H locs) : PreS s H (Pq A ad D cI cJ sh nc av M) (av.map (cv ad)) :=
  ⟨Pq_blind, fun U hU hW => ⟨rfl, by
    have h1 := (X.2.2.2.2.1.kept (H1 := H) (fun a h1 h2 => hS.2.1 a h1 h2)).moved hW
    rw [hU]; exact h1, by rw [hU]; exact hD⟩⟩
def fitR (R : Room) (d nL : Nat) : Prop := d + 1 ≤ R.frames ∧ 8 + (nL + 11) + 40 * d ≤ R.locals
theorem ai_catR {st : List Value} {pc : Nat} {lsA : Array Slot} {stk : List Value} (h : (st.map Value.category).sum ≤ 8) : 2 * (F0 m pc lsA stk).monitorRoom + ((st.map (cv ad)).map fun v => v.category).sum ≤ 8 := by
  have : ((st.map (cv ad)).map fun v => v.category) = st.map Value.category := by
    rw [List.map_map]
    apply List.map_congr_left
    intro v _
    exact cv_cat ad v
  rw [this]
  exact lv_room (rest := stk) (by
    have e : (List.map (fun v => v.category) st).sum ≤ 8 := h
    exact e)
theorem ai_word {y : MethodName} {cy : ByteArray} {n : Nat} {rt : Option FieldType} (X : Cx p s m meth c cc nL own A ad D cI cJ) (hw : Cond.code y cy n rt ∈ lw_tbl) : ∀ w ∈ [Cond.code y cy n rt], ∀ (a' : Array Value) (U : State), s.WarmedH U.vm → w.before a' U = true := by
  intro w h a' U hW
  rw [List.mem_singleton.mp h]
  exact X.2.2.2.2.1.1.warm hW _ hw rfl a'
theorem ai_B {y : MethodName} {cy : ByteArray} {n ix d k : Nat} {rt : Option FieldType} (X : Cx p s m meth c cc nL own A ad D cI cJ) (hR : fitR R d n) (hc : Cond.code y cy n rt ∈ lw_tbl) (hi : Cond.initialized y.cls ∈ lw_tbl) (hl : Cond.methodLink own ix y ∈ lw_tbl) (hy : y.cls ≠ "java/lang/invoke/MethodHandle" ∧ y.cls ≠ "java/lang/invoke/VarHandle" ∧ (parseMethodDescriptor y.desc).map (fun d => d.parameters.length) = some k) : CallB R s args own ix y cy n rt [Cond.code y cy n rt] (rmd d) 0 0 k :=
  ⟨rfl, rfl, hR.1, hR.2, ai_word X hc, List.mem_singleton.mpr rfl, X.2.2.2.2.1.1 _ hc rfl args, X.2.2.2.2.1.1 _ hi rfl args, ⟨hy.1, hy.2.1⟩, fun sig h => by
    have h2 := hy.2.2
    rw [h] at h2
    exact (Option.some.inj h2).symm, X.2.2.2.2.1.1 _ hl rfl args⟩
theorem ai_N {y : MethodName} {cy : ByteArray} {n ix d k : Nat} {host : String} {rt : Option FieldType} (X : Cx p s m meth c cc nL own A ad D cI cJ) (hR : fitR R d n) (hc : Cond.code y cy n rt ∈ lw_tbl) (hi : Cond.initialized y.cls ∈ lw_tbl) (hl : Cond.methodLinkNest own ix y host ∈ lw_tbl) (hy : y.cls ≠ "java/lang/invoke/MethodHandle" ∧ y.cls ≠ "java/lang/invoke/VarHandle" ∧ (parseMethodDescriptor y.desc).map (fun d => d.parameters.length) = some k) : va_CN R s args own ix y host cy n rt [Cond.code y cy n rt] (rmd d) 0 0 k :=
  ⟨⟨rfl, rfl, hR.1, hR.2, ai_word X hc, List.mem_singleton.mpr rfl⟩, X.2.2.2.2.1.1 _ hc rfl args, X.2.2.2.2.1.1 _ hi rfl args, ⟨hy.1, hy.2.1⟩, fun sig h => by
    have h2 := hy.2.2
    rw [h] at h2
    exact (Option.some.inj h2).symm, X.2.2.2.2.1.1 _ hl rfl args⟩
theorem ai_room {kc ks : Nat} (h : kc ≤ R.cells ∧ ks ≤ R.slots) : kc + 0 ≤ R.cells ∧ ks + 0 ≤ R.slots := h
theorem r_callS (X : Cx p s m meth c cc nL own A ad D cI cJ) {y : MethodName} {cy : ByteArray} {n ix d : Nat} {rt : Option FieldType} {av : List Value} {r : Option Value} {M' : Mem} {stk : List Value} (hC : Ct l d y cy n rt sh nc av M r M') (hR : fitR R d n) (hk : kc ≤ R.cells ∧ ks ≤ R.slots) (hc : Cond.code y cy n rt ∈ lw_tbl) (hi : Cond.initialized y.cls ∈ lw_tbl) (hs : Cond.static y ∈ lw_tbl) (hw : Cond.methodLink own ix y ∈ lw_tbl) (hy : y.cls ≠ "java/lang/invoke/MethodHandle" ∧ y.cls ≠ "java/lang/invoke/VarHandle" ∧ (parseMethodDescriptor y.desc).map (fun d => d.parameters.length) = some av.length) (hst : stk = av.reverse ++ st) (hW : (st.map Value.category).sum ≤ 8) (hd : decode cc pc = .ok (.invokestatic ix, 3)) (kk : AW p l e R s m args below meth c nL A ad D cI cJ sh nc kc ks Q M' (pc + 3) ls (r.toList ++ st)) : AW p l e R s m args below meth c nL A ad D cI cJ sh nc kc ks Q M pc ls stk := by
  intro H locs lsA hD hS hl
  subst hst
  exact ai_run hS hl (va_runS (Ts := []) (As := av.map (cv ad)) (rest := st.map (cv ad)) (n := av.length) ⟨X.1, X.2.1, X.2.2.1, X.2.2.2.1, fun w h => absurd h List.not_mem_nil⟩ (hC A ad D cI cJ) ⟨ai_B X hR hc hi hw hy, X.2.2.2.2.1.1 _ hs rfl args⟩ (ai_pre X hD hS) rfl (List.length_map ..) hl.1 (by simp) (ai_catR hW) hd (ai_room hk)) kk
theorem r_callSN (X : Cx p s m meth c cc nL own A ad D cI cJ) {y : MethodName} {cy : ByteArray} {n ix d : Nat} {host : String} {rt : Option FieldType} {av : List Value} {r : Option Value} {M' : Mem} {stk : List Value} (hC : Ct l d y cy n rt sh nc av M r M') (hR : fitR R d n) (hk : kc ≤ R.cells ∧ ks ≤ R.slots) (hc : Cond.code y cy n rt ∈ lw_tbl) (hi : Cond.initialized y.cls ∈ lw_tbl) (hs : Cond.static y ∈ lw_tbl) (hw : Cond.methodLinkNest own ix y host ∈ lw_tbl) (hy : y.cls ≠ "java/lang/invoke/MethodHandle" ∧ y.cls ≠ "java/lang/invoke/VarHandle" ∧ (parseMethodDescriptor y.desc).map (fun d => d.parameters.length) = some av.length) (hst : stk = av.reverse ++ st) (hW : (st.map Value.category).sum ≤ 8) (hd : decode cc pc = .ok (.invokestatic ix, 3)) (kk : AW p l e R s m args below meth c nL A ad D cI cJ sh nc kc ks Q M' (pc + 3) ls (r.toList ++ st)) : AW p l e R s m args below meth c nL A ad D cI cJ sh nc kc ks Q M pc ls stk := by
  intro H locs lsA hD hS hl
  subst hst
  exact ai_run hS hl (va_runSN (Ts := []) (As := av.map (cv ad)) (rest := st.map (cv ad)) (n := av.length) ⟨X.1, X.2.1, X.2.2.1, X.2.2.2.1, fun w h => absurd h List.not_mem_nil⟩ (hC A ad D cI cJ) ⟨ai_N X hR hc hi hw hy, X.2.2.2.2.1.1 _ hs rfl args, trivial⟩ (ai_pre X hD hS) rfl (List.length_map ..) hl.1 (by simp) (ai_catR hW) hd (ai_room hk)) kk
theorem r_callV (X : Cx p s m meth c cc nL own A ad D cI cJ) {y : MethodName} {cy : ByteArray} {n ix d k ci : Nat} {T : u_T} {N : Nat} {fs : List Fk} {rt : Option FieldType} {av : List Value} {r : Option Value} {M' : Mem} {stk : List Value} (hC : Ct l d y cy n rt sh nc (.ref k :: av) M r M') (hR : fitR R d n) (hkk : kc ≤ R.cells ∧ ks ≤ R.slots) (hsh : sh k = .inl (ci, fs)) (hk : k < nc) (hcl : vwCl[ci]? = some (y.cls, T, N)) (hc : Cond.code y cy n rt ∈ lw_tbl) (hi : Cond.initialized y.cls ∈ lw_tbl) (hin : Cond.instanceMethod y ∈ lw_tbl) (hse : Cond.selects y.cls y y ∈ lw_tbl) (hw : Cond.methodLink own ix y ∈ lw_tbl) (hy : y.cls ≠ "java/lang/invoke/MethodHandle" ∧ y.cls ≠ "java/lang/invoke/VarHandle" ∧ (parseMethodDescriptor y.desc).map (fun d => d.parameters.length) = some av.length) (hst : stk = av.reverse ++ .ref k :: st) (hW : (st.map Value.category).sum ≤ 8) (hd : decode cc pc = .ok (.invokevirtual ix, 3)) (kk : AW p l e R s m args below meth c nL A ad D cI cJ sh nc kc ks Q M' (pc + 3) ls (r.toList ++ st)) : AW p l e R s m args below meth c nL A ad D cI cJ sh nc kc ks Q M pc ls stk := by
  intro H locs lsA hD hS hl
  subst hst
  have he := (cells_at (ad := ad) (cI := cI) (cJ := cJ) (sh := sh) (M := M) hk).trans (by rw [cellE_o hsh])
  exact ai_run (av := .ref k :: av) hS hl (va_runV (Ts := []) (As := av.map (cv ad)) (rest := st.map (cv ad)) (n := av.length) (b := ad k) ⟨X.1, X.2.1, X.2.2.1, X.2.2.2.1, fun w h => absurd h List.not_mem_nil⟩ (hC A ad D cI cJ) ⟨ai_B X hR hc hi hw hy, X.2.2.2.2.1.1 _ hin rfl args, X.2.2.2.2.1.1 _ hse rfl args⟩ ⟨(ai_pre (av := .ref k :: av) X hD hS).1, va_recv X.2.2.2.2.1.2.1 hD.1 hcl he, (ai_pre (av := .ref k :: av) X hD hS).2⟩ rfl (List.length_map ..) hl.1 (by simp [cv]) (ai_catR hW) hd (ai_room hkk)) kk
end ROWS
theorem Ct.of {l : Launch} {d : Nat} {y : MethodName} {cc : ByteArray} {nL : Nat} {ret : Option FieldType} {sh : Nat → Shp} {nc : Nat} {av : List Value} {M : Mem} {r : Option Value} {M' : Mem} (hy : plainName y.cls = true) (hn : (lg_sl av).length ≤ nL)
    (body : ∀ (p : Program) (e : Env) (s : State) (m : MethodId) (args : Array Value) (below : List Frame) (meth : Method) (c : Code) (A : Nat → Prop) (ad : Nat → Nat) (D : va_G) (cI cJ : ClassId), Cx p s m meth c cc nL y.cls A ad D cI cJ → meth.sig.returnType = ret →
      AW p l e (rmd d) s m args below meth c nL A ad D cI cJ sh nc 0 0 (MQ below (Qq A ad D cI cJ sh nc r M') args s 0 0 A) M 0 (lv_args 0 av) []) : Ct l d y cc nL ret sh nc av M r M' := by
  intro A ad D cI cJ
  refine Met.ofW (cc := cc) (maxL := nL) (ret := ret) hy rfl ?_
  intro p e s m args below meth c s₁ B hml hP
  obtain ⟨rfl, hE, hD⟩ := hP
  have hl := lv_entry (av.map (cv ad)) (n := nL) (by rw [lg_sl_map]; exact hn)
  rw [lv_args_map] at hl
  rw [lg_entry_eq]
  exact body p e s m _ below meth c A ad D cI cJ ⟨B.exec, B.bytes, hml, findClass_of_methodNamed B.named, hE, B.notSynchronized⟩ B.returns s.heap [] _ hD va_S.rf hl
end
