/-! Part 15: the law's loop, and the claim out of a pure statement -/
/-! THE CLAIM OUT OF ONE WALK OF THE LAW'S BODY. Your part is whole_start (and what it stands on); all else here is the same for every law, but numbers. -/
def R_law : String := "TrackBoxLaw"
def lw_P (b : Addr) (xs : List Int32) (args : Array Value) (s : State) : Prop := args = #[.ref b] ∧ s.IntsAt b xs ∧ xs.length ≤ 256 ∧ (Jvm.Cond.and given_1 narrow_1).before args s = true
def lw_Q (_ : Array Value) (s : State) (o : Outcome) (t : State) : Prop := o = .returned (some (.int 1)) ∧ Framed s o t [] 600000 7302249
def lw_Z (below : List Frame) (a : Array Value) (s : State) : State → Prop := fun t => ∃ o, t.status = .running ∧ Ended t below o ∧ lw_Q a s o t
/-- the law's own end, with 1 on the stack, nothing written that was there before, its room as the claim has it -/
theorem lw_ret {p : Program} {l : Launch} {e : Env} {s : State} {m : MethodId} {below : List Frame} {meth : Method} {c : Code} {b : Nat} (hx : p.tables.exec = Jvm.exec) (hb : c.code = code) (hr : meth.sig.returnType = ret) (hlocks : meth.locks = false) {pc : Nat} {H : Heap} {ls : Array Slot} (hdg : decode code pc = .ok (.ireturn, 1)) : W p l e room_1 s m #[Value.ref b] below meth c H [] 600000 7302249 (lw_Z below #[Value.ref b] s) (F0 m pc ls [.int 1]) := by
  intro T hT X
  obtain ⟨fs, hret, hrun, hended, hW, hframe⟩ := X.leave (v := some (.int 1)) (hlocks := hlocks) (fun h => by rw [hr] at h; cases h)
  have hmeth' : T.vm.method? m = some meth := X.method'
  refine ⟨T.setFrames fs, ?_, .returned (some (.int 1)), hrun, hended, rfl, ⟨_, rfl⟩, hW, hframe⟩
  jvm_step X.here [X.here.top, hx, hb, hdg, hmeth', hr, ret, narrow_b1]
  (try refine ⟨rfl, ?_⟩); (try refine ⟨rfl, ?_⟩)
  first | (intro acts; rw [hret _ acts rfl rfl rfl]) | rw [hret _ _ rfl rfl rfl]
  exact Steps.refl _
/-- what holds at the law's entry: the machine, the code, the tables' words (any of lw_tbl by 'hts w (by decide +kernel)'), the script of L ints xs at the cell b, what the Statement gives of the start (any of its parts by flat_of_before) -/
def lw_At (p : Program) (s : State) (m : MethodId) (meth : Method) (c : Code) (b L : Nat) (xs : Nat → Int32) : Prop :=
  p.tables.exec = Jvm.exec ∧ c.code = code ∧ meth.sig.returnType = ret ∧ c.maxLocals = 4 ∧ s.vm.findClass R_law = some m.cls ∧ (∀ w ∈ lw_tbl, w.before #[Value.ref b] s = true) ∧ va_X b L xs s s.heap ∧ b < s.heap.size ∧ meth.locks = false ∧ (Jvm.Cond.and given_1 narrow_1).before #[Value.ref b] s = true
theorem w_50 : Cond.classLink RL 7 RX6 ∈ lw_tbl := List.mem_of_getElem? (i := 50) (by decide +kernel)
theorem w_51 : Cond.instantiable RX6 12 ∈ lw_tbl := List.mem_of_getElem? (i := 51) (by decide +kernel)
theorem w_52 : Cond.methodLink RL 9 yX6_init ∈ lw_tbl := List.mem_of_getElem? (i := 52) (by decide +kernel)
theorem w_53 : Cond.instanceMethod yX6_init ∈ lw_tbl := List.mem_of_getElem? (i := 53) (by decide +kernel)
theorem w_54 : Cond.code yX6_init cX6_init 1 none ∈ lw_tbl := List.mem_of_getElem? (i := 54) (by decide +kernel)
theorem w_277 : Cond.methodLink RL 15 yX6_feed ∈ lw_tbl := List.mem_of_getElem? (i := 277) (by decide +kernel)
theorem w_278 : Cond.instanceMethod yX6_feed ∈ lw_tbl := List.mem_of_getElem? (i := 278) (by decide +kernel)
theorem w_279 : Cond.selects RX6 yX6_feed yX6_feed ∈ lw_tbl := List.mem_of_getElem? (i := 279) (by decide +kernel)
theorem w_280 : Cond.code yX6_feed cX6_feed 5 (some .int) ∈ lw_tbl := List.mem_of_getElem? (i := 280) (by decide +kernel)
theorem w_288 : Cond.methodLink RL 20 yX6_row ∈ lw_tbl := List.mem_of_getElem? (i := 288) (by decide +kernel)
theorem w_289 : Cond.instanceMethod yX6_row ∈ lw_tbl := List.mem_of_getElem? (i := 289) (by decide +kernel)
theorem w_290 : Cond.selects RX6 yX6_row yX6_row ∈ lw_tbl := List.mem_of_getElem? (i := 290) (by decide +kernel)
theorem w_291 : Cond.code yX6_row cX6_row 4 (some .int) ∈ lw_tbl := List.mem_of_getElem? (i := 291) (by decide +kernel)
theorem w_303 : Cond.methodLink RL 25 yX6_box ∈ lw_tbl := List.mem_of_getElem? (i := 303) (by decide +kernel)
theorem w_304 : Cond.instanceMethod yX6_box ∈ lw_tbl := List.mem_of_getElem? (i := 304) (by decide +kernel)
theorem w_305 : Cond.selects RX6 yX6_box yX6_box ∈ lw_tbl := List.mem_of_getElem? (i := 305) (by decide +kernel)
theorem w_306 : Cond.code yX6_box cX6_box 4 (some .int) ∈ lw_tbl := List.mem_of_getElem? (i := 306) (by decide +kernel)
theorem w_307 : Cond.methodLink RL 30 yX6_size ∈ lw_tbl := List.mem_of_getElem? (i := 307) (by decide +kernel)
theorem w_308 : Cond.instanceMethod yX6_size ∈ lw_tbl := List.mem_of_getElem? (i := 308) (by decide +kernel)
theorem w_309 : Cond.selects RX6 yX6_size yX6_size ∈ lw_tbl := List.mem_of_getElem? (i := 309) (by decide +kernel)
theorem w_310 : Cond.code yX6_size cX6_size 4 (some .int) ∈ lw_tbl := List.mem_of_getElem? (i := 310) (by decide +kernel)
theorem w_319 : Cond.methodLink RL 34 yX6_piece ∈ lw_tbl := List.mem_of_getElem? (i := 319) (by decide +kernel)
theorem w_320 : Cond.instanceMethod yX6_piece ∈ lw_tbl := List.mem_of_getElem? (i := 320) (by decide +kernel)
theorem w_321 : Cond.selects RX6 yX6_piece yX6_piece ∈ lw_tbl := List.mem_of_getElem? (i := 321) (by decide +kernel)
theorem w_322 : Cond.code yX6_piece cX6_piece 2 (some .int) ∈ lw_tbl := List.mem_of_getElem? (i := 322) (by decide +kernel)
theorem w_323 : Cond.methodLink RL 39 yX6_joint ∈ lw_tbl := List.mem_of_getElem? (i := 323) (by decide +kernel)
theorem w_324 : Cond.instanceMethod yX6_joint ∈ lw_tbl := List.mem_of_getElem? (i := 324) (by decide +kernel)
theorem w_325 : Cond.selects RX6 yX6_joint yX6_joint ∈ lw_tbl := List.mem_of_getElem? (i := 325) (by decide +kernel)
theorem w_326 : Cond.code yX6_joint cX6_joint 3 (some .int) ∈ lw_tbl := List.mem_of_getElem? (i := 326) (by decide +kernel)
theorem w_353 : Cond.methodLink RL 43 yX6_closes ∈ lw_tbl := List.mem_of_getElem? (i := 353) (by decide +kernel)
theorem w_354 : Cond.instanceMethod yX6_closes ∈ lw_tbl := List.mem_of_getElem? (i := 354) (by decide +kernel)
theorem w_355 : Cond.selects RX6 yX6_closes yX6_closes ∈ lw_tbl := List.mem_of_getElem? (i := 355) (by decide +kernel)
theorem w_356 : Cond.code yX6_closes cX6_closes 1 (some .int) ∈ lw_tbl := List.mem_of_getElem? (i := 356) (by decide +kernel)
theorem w_369 : Cond.methodLink RL 47 yX6_uses ∈ lw_tbl := List.mem_of_getElem? (i := 369) (by decide +kernel)
theorem w_370 : Cond.instanceMethod yX6_uses ∈ lw_tbl := List.mem_of_getElem? (i := 370) (by decide +kernel)
theorem w_371 : Cond.selects RX6 yX6_uses yX6_uses ∈ lw_tbl := List.mem_of_getElem? (i := 371) (by decide +kernel)
theorem w_372 : Cond.code yX6_uses cX6_uses 1 (some .int) ∈ lw_tbl := List.mem_of_getElem? (i := 372) (by decide +kernel)
theorem w_384 : Cond.methodLink RL 51 yX6_sign ∈ lw_tbl := List.mem_of_getElem? (i := 384) (by decide +kernel)
theorem w_385 : Cond.instanceMethod yX6_sign ∈ lw_tbl := List.mem_of_getElem? (i := 385) (by decide +kernel)
theorem w_386 : Cond.selects RX6 yX6_sign yX6_sign ∈ lw_tbl := List.mem_of_getElem? (i := 386) (by decide +kernel)
theorem w_387 : Cond.code yX6_sign cX6_sign 3 (some .int) ∈ lw_tbl := List.mem_of_getElem? (i := 387) (by decide +kernel)
theorem w_394 : Cond.methodLink RL 55 yX6_gap ∈ lw_tbl := List.mem_of_getElem? (i := 394) (by decide +kernel)
theorem w_395 : Cond.instanceMethod yX6_gap ∈ lw_tbl := List.mem_of_getElem? (i := 395) (by decide +kernel)
theorem w_396 : Cond.selects RX6 yX6_gap yX6_gap ∈ lw_tbl := List.mem_of_getElem? (i := 396) (by decide +kernel)
theorem w_397 : Cond.code yX6_gap cX6_gap 4 (some .int) ∈ lw_tbl := List.mem_of_getElem? (i := 397) (by decide +kernel)
theorem w_406 : Cond.methodLink RL 59 yX6_nearer ∈ lw_tbl := List.mem_of_getElem? (i := 406) (by decide +kernel)
theorem w_407 : Cond.instanceMethod yX6_nearer ∈ lw_tbl := List.mem_of_getElem? (i := 407) (by decide +kernel)
theorem w_408 : Cond.selects RX6 yX6_nearer yX6_nearer ∈ lw_tbl := List.mem_of_getElem? (i := 408) (by decide +kernel)
theorem w_409 : Cond.code yX6_nearer cX6_nearer 9 (some .int) ∈ lw_tbl := List.mem_of_getElem? (i := 409) (by decide +kernel)
theorem w_410 : Cond.methodLink RL 63 yX6_table ∈ lw_tbl := List.mem_of_getElem? (i := 410) (by decide +kernel)
theorem w_411 : Cond.instanceMethod yX6_table ∈ lw_tbl := List.mem_of_getElem? (i := 411) (by decide +kernel)
theorem w_412 : Cond.selects RX6 yX6_table yX6_table ∈ lw_tbl := List.mem_of_getElem? (i := 412) (by decide +kernel)
theorem w_413 : Cond.code yX6_table cX6_table 4 (some .int) ∈ lw_tbl := List.mem_of_getElem? (i := 413) (by decide +kernel)
theorem w_414 : Cond.methodLink RL 67 yX6_leg ∈ lw_tbl := List.mem_of_getElem? (i := 414) (by decide +kernel)
theorem w_415 : Cond.instanceMethod yX6_leg ∈ lw_tbl := List.mem_of_getElem? (i := 415) (by decide +kernel)
theorem w_416 : Cond.selects RX6 yX6_leg yX6_leg ∈ lw_tbl := List.mem_of_getElem? (i := 416) (by decide +kernel)
theorem w_417 : Cond.code yX6_leg cX6_leg 3 (some .int) ∈ lw_tbl := List.mem_of_getElem? (i := 417) (by decide +kernel)
theorem w_418 : Cond.methodLink RL 71 yX6_off ∈ lw_tbl := List.mem_of_getElem? (i := 418) (by decide +kernel)
theorem w_419 : Cond.instanceMethod yX6_off ∈ lw_tbl := List.mem_of_getElem? (i := 419) (by decide +kernel)
theorem w_420 : Cond.selects RX6 yX6_off yX6_off ∈ lw_tbl := List.mem_of_getElem? (i := 420) (by decide +kernel)
theorem w_421 : Cond.code yX6_off cX6_off 1 (some .int) ∈ lw_tbl := List.mem_of_getElem? (i := 421) (by decide +kernel)
theorem w_438 : Cond.methodLink RL 75 yX6_touches ∈ lw_tbl := List.mem_of_getElem? (i := 438) (by decide +kernel)
theorem w_439 : Cond.instanceMethod yX6_touches ∈ lw_tbl := List.mem_of_getElem? (i := 439) (by decide +kernel)
theorem w_440 : Cond.selects RX6 yX6_touches yX6_touches ∈ lw_tbl := List.mem_of_getElem? (i := 440) (by decide +kernel)
theorem w_441 : Cond.code yX6_touches cX6_touches 1 (some .int) ∈ lw_tbl := List.mem_of_getElem? (i := 441) (by decide +kernel)
theorem w_451 : Cond.methodLink RL 79 yX6_lies ∈ lw_tbl := List.mem_of_getElem? (i := 451) (by decide +kernel)
theorem w_452 : Cond.instanceMethod yX6_lies ∈ lw_tbl := List.mem_of_getElem? (i := 452) (by decide +kernel)
theorem w_453 : Cond.selects RX6 yX6_lies yX6_lies ∈ lw_tbl := List.mem_of_getElem? (i := 453) (by decide +kernel)
theorem w_454 : Cond.code yX6_lies cX6_lies 1 (some .int) ∈ lw_tbl := List.mem_of_getElem? (i := 454) (by decide +kernel)
theorem w_455 : Cond.methodLink RL 83 yX6_rings ∈ lw_tbl := List.mem_of_getElem? (i := 455) (by decide +kernel)
theorem w_456 : Cond.instanceMethod yX6_rings ∈ lw_tbl := List.mem_of_getElem? (i := 456) (by decide +kernel)
theorem w_457 : Cond.selects RX6 yX6_rings yX6_rings ∈ lw_tbl := List.mem_of_getElem? (i := 457) (by decide +kernel)
theorem w_458 : Cond.code yX6_rings cX6_rings 3 (some .int) ∈ lw_tbl := List.mem_of_getElem? (i := 458) (by decide +kernel)
theorem w_523 : Cond.methodLink RL 88 yX6_ring ∈ lw_tbl := List.mem_of_getElem? (i := 523) (by decide +kernel)
theorem w_524 : Cond.instanceMethod yX6_ring ∈ lw_tbl := List.mem_of_getElem? (i := 524) (by decide +kernel)
theorem w_525 : Cond.selects RX6 yX6_ring yX6_ring ∈ lw_tbl := List.mem_of_getElem? (i := 525) (by decide +kernel)
theorem w_526 : Cond.code yX6_ring cX6_ring 4 (some .int) ∈ lw_tbl := List.mem_of_getElem? (i := 526) (by decide +kernel)
theorem w_527 : Cond.methodLink RL 93 yX6_most ∈ lw_tbl := List.mem_of_getElem? (i := 527) (by decide +kernel)
theorem w_528 : Cond.instanceMethod yX6_most ∈ lw_tbl := List.mem_of_getElem? (i := 528) (by decide +kernel)
theorem w_529 : Cond.selects RX6 yX6_most yX6_most ∈ lw_tbl := List.mem_of_getElem? (i := 529) (by decide +kernel)
theorem w_530 : Cond.code yX6_most cX6_most 3 (some .int) ∈ lw_tbl := List.mem_of_getElem? (i := 530) (by decide +kernel)
theorem w_531 : Cond.methodLink RL 98 yX6_opens ∈ lw_tbl := List.mem_of_getElem? (i := 531) (by decide +kernel)
theorem w_532 : Cond.instanceMethod yX6_opens ∈ lw_tbl := List.mem_of_getElem? (i := 532) (by decide +kernel)
theorem w_533 : Cond.selects RX6 yX6_opens yX6_opens ∈ lw_tbl := List.mem_of_getElem? (i := 533) (by decide +kernel)
theorem w_534 : Cond.code yX6_opens cX6_opens 7 (some .int) ∈ lw_tbl := List.mem_of_getElem? (i := 534) (by decide +kernel)
theorem w_535 : Cond.methodLink RL 102 yX6_nearest ∈ lw_tbl := List.mem_of_getElem? (i := 535) (by decide +kernel)
theorem w_536 : Cond.instanceMethod yX6_nearest ∈ lw_tbl := List.mem_of_getElem? (i := 536) (by decide +kernel)
theorem w_537 : Cond.selects RX6 yX6_nearest yX6_nearest ∈ lw_tbl := List.mem_of_getElem? (i := 537) (by decide +kernel)
theorem w_538 : Cond.code yX6_nearest cX6_nearest 2 (some .int) ∈ lw_tbl := List.mem_of_getElem? (i := 538) (by decide +kernel)
theorem w_563 : Cond.methodLink RL 106 yX6_turn ∈ lw_tbl := List.mem_of_getElem? (i := 563) (by decide +kernel)
theorem w_564 : Cond.instanceMethod yX6_turn ∈ lw_tbl := List.mem_of_getElem? (i := 564) (by decide +kernel)
theorem w_565 : Cond.selects RX6 yX6_turn yX6_turn ∈ lw_tbl := List.mem_of_getElem? (i := 565) (by decide +kernel)
theorem w_566 : Cond.code yX6_turn cX6_turn 2 (some .int) ∈ lw_tbl := List.mem_of_getElem? (i := 566) (by decide +kernel)
theorem w_567 : Cond.methodLink RL 110 yX6_photo ∈ lw_tbl := List.mem_of_getElem? (i := 567) (by decide +kernel)
theorem w_568 : Cond.instanceMethod yX6_photo ∈ lw_tbl := List.mem_of_getElem? (i := 568) (by decide +kernel)
theorem w_569 : Cond.selects RX6 yX6_photo yX6_photo ∈ lw_tbl := List.mem_of_getElem? (i := 569) (by decide +kernel)
theorem w_570 : Cond.code yX6_photo cX6_photo 2 (some .int) ∈ lw_tbl := List.mem_of_getElem? (i := 570) (by decide +kernel)
theorem w_578 : Cond.methodLink RL 114 yX6_image ∈ lw_tbl := List.mem_of_getElem? (i := 578) (by decide +kernel)
theorem w_579 : Cond.instanceMethod yX6_image ∈ lw_tbl := List.mem_of_getElem? (i := 579) (by decide +kernel)
theorem w_580 : Cond.selects RX6 yX6_image yX6_image ∈ lw_tbl := List.mem_of_getElem? (i := 580) (by decide +kernel)
theorem w_581 : Cond.code yX6_image cX6_image 1 (some .int) ∈ lw_tbl := List.mem_of_getElem? (i := 581) (by decide +kernel)
theorem w_587 : Cond.methodLink RL 118 yX6_on ∈ lw_tbl := List.mem_of_getElem? (i := 587) (by decide +kernel)
theorem w_588 : Cond.instanceMethod yX6_on ∈ lw_tbl := List.mem_of_getElem? (i := 588) (by decide +kernel)
theorem w_589 : Cond.selects RX6 yX6_on yX6_on ∈ lw_tbl := List.mem_of_getElem? (i := 589) (by decide +kernel)
theorem w_590 : Cond.code yX6_on cX6_on 1 (some .int) ∈ lw_tbl := List.mem_of_getElem? (i := 590) (by decide +kernel)
theorem w_591 : Cond.methodLink RL 122 yX6_count ∈ lw_tbl := List.mem_of_getElem? (i := 591) (by decide +kernel)
theorem w_592 : Cond.instanceMethod yX6_count ∈ lw_tbl := List.mem_of_getElem? (i := 592) (by decide +kernel)
theorem w_593 : Cond.selects RX6 yX6_count yX6_count ∈ lw_tbl := List.mem_of_getElem? (i := 593) (by decide +kernel)
theorem w_594 : Cond.code yX6_count cX6_count 2 (some .int) ∈ lw_tbl := List.mem_of_getElem? (i := 594) (by decide +kernel)
theorem w_599 : Cond.classLink RL 10 RX7 ∈ lw_tbl := List.mem_of_getElem? (i := 599) (by decide +kernel)
theorem w_600 : Cond.instantiable RX7 24 ∈ lw_tbl := List.mem_of_getElem? (i := 600) (by decide +kernel)
theorem w_601 : Cond.methodLink RL 12 yX7_init ∈ lw_tbl := List.mem_of_getElem? (i := 601) (by decide +kernel)
theorem w_602 : Cond.instanceMethod yX7_init ∈ lw_tbl := List.mem_of_getElem? (i := 602) (by decide +kernel)
theorem w_603 : Cond.code yX7_init cX7_init 1 none ∈ lw_tbl := List.mem_of_getElem? (i := 603) (by decide +kernel)
theorem w_682 : Cond.methodLink RL 19 yX7_feed ∈ lw_tbl := List.mem_of_getElem? (i := 682) (by decide +kernel)
theorem w_683 : Cond.instanceMethod yX7_feed ∈ lw_tbl := List.mem_of_getElem? (i := 683) (by decide +kernel)
theorem w_684 : Cond.selects RX7 yX7_feed yX7_feed ∈ lw_tbl := List.mem_of_getElem? (i := 684) (by decide +kernel)
theorem w_685 : Cond.code yX7_feed cX7_feed 5 (some .int) ∈ lw_tbl := List.mem_of_getElem? (i := 685) (by decide +kernel)
theorem w_691 : Cond.methodLink RL 24 yX7_row ∈ lw_tbl := List.mem_of_getElem? (i := 691) (by decide +kernel)
theorem w_692 : Cond.instanceMethod yX7_row ∈ lw_tbl := List.mem_of_getElem? (i := 692) (by decide +kernel)
theorem w_693 : Cond.selects RX7 yX7_row yX7_row ∈ lw_tbl := List.mem_of_getElem? (i := 693) (by decide +kernel)
theorem w_694 : Cond.code yX7_row cX7_row 3 (some .int) ∈ lw_tbl := List.mem_of_getElem? (i := 694) (by decide +kernel)
theorem w_698 : Cond.methodLink RL 29 yX7_box ∈ lw_tbl := List.mem_of_getElem? (i := 698) (by decide +kernel)
theorem w_699 : Cond.instanceMethod yX7_box ∈ lw_tbl := List.mem_of_getElem? (i := 699) (by decide +kernel)
theorem w_700 : Cond.selects RX7 yX7_box yX7_box ∈ lw_tbl := List.mem_of_getElem? (i := 700) (by decide +kernel)
theorem w_701 : Cond.code yX7_box cX7_box 5 (some .int) ∈ lw_tbl := List.mem_of_getElem? (i := 701) (by decide +kernel)
theorem w_708 : Cond.methodLink RL 33 yX7_size ∈ lw_tbl := List.mem_of_getElem? (i := 708) (by decide +kernel)
theorem w_709 : Cond.instanceMethod yX7_size ∈ lw_tbl := List.mem_of_getElem? (i := 709) (by decide +kernel)
theorem w_710 : Cond.selects RX7 yX7_size yX7_size ∈ lw_tbl := List.mem_of_getElem? (i := 710) (by decide +kernel)
theorem w_711 : Cond.code yX7_size cX7_size 5 (some .int) ∈ lw_tbl := List.mem_of_getElem? (i := 711) (by decide +kernel)
theorem w_712 : Cond.methodLink RL 38 yX7_piece ∈ lw_tbl := List.mem_of_getElem? (i := 712) (by decide +kernel)
theorem w_713 : Cond.instanceMethod yX7_piece ∈ lw_tbl := List.mem_of_getElem? (i := 713) (by decide +kernel)
theorem w_714 : Cond.selects RX7 yX7_piece yX7_piece ∈ lw_tbl := List.mem_of_getElem? (i := 714) (by decide +kernel)
theorem w_715 : Cond.code yX7_piece cX7_piece 2 (some .int) ∈ lw_tbl := List.mem_of_getElem? (i := 715) (by decide +kernel)
theorem w_716 : Cond.methodLink RL 42 yX7_joint ∈ lw_tbl := List.mem_of_getElem? (i := 716) (by decide +kernel)
theorem w_717 : Cond.instanceMethod yX7_joint ∈ lw_tbl := List.mem_of_getElem? (i := 717) (by decide +kernel)
theorem w_718 : Cond.selects RX7 yX7_joint yX7_joint ∈ lw_tbl := List.mem_of_getElem? (i := 718) (by decide +kernel)
theorem w_719 : Cond.code yX7_joint cX7_joint 3 (some .int) ∈ lw_tbl := List.mem_of_getElem? (i := 719) (by decide +kernel)
theorem w_743 : Cond.methodLink RL 46 yX7_closes ∈ lw_tbl := List.mem_of_getElem? (i := 743) (by decide +kernel)
theorem w_744 : Cond.instanceMethod yX7_closes ∈ lw_tbl := List.mem_of_getElem? (i := 744) (by decide +kernel)
theorem w_745 : Cond.selects RX7 yX7_closes yX7_closes ∈ lw_tbl := List.mem_of_getElem? (i := 745) (by decide +kernel)
theorem w_746 : Cond.code yX7_closes cX7_closes 1 (some .int) ∈ lw_tbl := List.mem_of_getElem? (i := 746) (by decide +kernel)
theorem w_755 : Cond.methodLink RL 50 yX7_uses ∈ lw_tbl := List.mem_of_getElem? (i := 755) (by decide +kernel)
theorem w_756 : Cond.instanceMethod yX7_uses ∈ lw_tbl := List.mem_of_getElem? (i := 756) (by decide +kernel)
theorem w_757 : Cond.selects RX7 yX7_uses yX7_uses ∈ lw_tbl := List.mem_of_getElem? (i := 757) (by decide +kernel)
theorem w_758 : Cond.code yX7_uses cX7_uses 4 (some .int) ∈ lw_tbl := List.mem_of_getElem? (i := 758) (by decide +kernel)
theorem w_759 : Cond.methodLink RL 54 yX7_sign ∈ lw_tbl := List.mem_of_getElem? (i := 759) (by decide +kernel)
theorem w_760 : Cond.instanceMethod yX7_sign ∈ lw_tbl := List.mem_of_getElem? (i := 760) (by decide +kernel)
theorem w_761 : Cond.selects RX7 yX7_sign yX7_sign ∈ lw_tbl := List.mem_of_getElem? (i := 761) (by decide +kernel)
theorem w_762 : Cond.code yX7_sign cX7_sign 3 (some .int) ∈ lw_tbl := List.mem_of_getElem? (i := 762) (by decide +kernel)
theorem w_772 : Cond.methodLink RL 58 yX7_gap ∈ lw_tbl := List.mem_of_getElem? (i := 772) (by decide +kernel)
theorem w_773 : Cond.instanceMethod yX7_gap ∈ lw_tbl := List.mem_of_getElem? (i := 773) (by decide +kernel)
theorem w_774 : Cond.selects RX7 yX7_gap yX7_gap ∈ lw_tbl := List.mem_of_getElem? (i := 774) (by decide +kernel)
theorem w_775 : Cond.code yX7_gap cX7_gap 2 (some .int) ∈ lw_tbl := List.mem_of_getElem? (i := 775) (by decide +kernel)
theorem w_780 : Cond.methodLink RL 62 yX7_nearer ∈ lw_tbl := List.mem_of_getElem? (i := 780) (by decide +kernel)
theorem w_781 : Cond.instanceMethod yX7_nearer ∈ lw_tbl := List.mem_of_getElem? (i := 781) (by decide +kernel)
theorem w_782 : Cond.selects RX7 yX7_nearer yX7_nearer ∈ lw_tbl := List.mem_of_getElem? (i := 782) (by decide +kernel)
theorem w_783 : Cond.code yX7_nearer cX7_nearer 3 (some .int) ∈ lw_tbl := List.mem_of_getElem? (i := 783) (by decide +kernel)
theorem w_784 : Cond.methodLink RL 66 yX7_table ∈ lw_tbl := List.mem_of_getElem? (i := 784) (by decide +kernel)
theorem w_785 : Cond.instanceMethod yX7_table ∈ lw_tbl := List.mem_of_getElem? (i := 785) (by decide +kernel)
theorem w_786 : Cond.selects RX7 yX7_table yX7_table ∈ lw_tbl := List.mem_of_getElem? (i := 786) (by decide +kernel)
theorem w_787 : Cond.code yX7_table cX7_table 5 (some .int) ∈ lw_tbl := List.mem_of_getElem? (i := 787) (by decide +kernel)
theorem w_788 : Cond.methodLink RL 70 yX7_leg ∈ lw_tbl := List.mem_of_getElem? (i := 788) (by decide +kernel)
theorem w_789 : Cond.instanceMethod yX7_leg ∈ lw_tbl := List.mem_of_getElem? (i := 789) (by decide +kernel)
theorem w_790 : Cond.selects RX7 yX7_leg yX7_leg ∈ lw_tbl := List.mem_of_getElem? (i := 790) (by decide +kernel)
theorem w_791 : Cond.code yX7_leg cX7_leg 3 (some .int) ∈ lw_tbl := List.mem_of_getElem? (i := 791) (by decide +kernel)
theorem w_792 : Cond.methodLink RL 74 yX7_off ∈ lw_tbl := List.mem_of_getElem? (i := 792) (by decide +kernel)
theorem w_793 : Cond.instanceMethod yX7_off ∈ lw_tbl := List.mem_of_getElem? (i := 793) (by decide +kernel)
theorem w_794 : Cond.selects RX7 yX7_off yX7_off ∈ lw_tbl := List.mem_of_getElem? (i := 794) (by decide +kernel)
theorem w_795 : Cond.code yX7_off cX7_off 1 (some .int) ∈ lw_tbl := List.mem_of_getElem? (i := 795) (by decide +kernel)
theorem w_804 : Cond.methodLink RL 78 yX7_touches ∈ lw_tbl := List.mem_of_getElem? (i := 804) (by decide +kernel)
theorem w_805 : Cond.instanceMethod yX7_touches ∈ lw_tbl := List.mem_of_getElem? (i := 805) (by decide +kernel)
theorem w_806 : Cond.selects RX7 yX7_touches yX7_touches ∈ lw_tbl := List.mem_of_getElem? (i := 806) (by decide +kernel)
theorem w_807 : Cond.code yX7_touches cX7_touches 1 (some .int) ∈ lw_tbl := List.mem_of_getElem? (i := 807) (by decide +kernel)
theorem w_816 : Cond.methodLink RL 82 yX7_lies ∈ lw_tbl := List.mem_of_getElem? (i := 816) (by decide +kernel)
theorem w_817 : Cond.instanceMethod yX7_lies ∈ lw_tbl := List.mem_of_getElem? (i := 817) (by decide +kernel)
theorem w_818 : Cond.selects RX7 yX7_lies yX7_lies ∈ lw_tbl := List.mem_of_getElem? (i := 818) (by decide +kernel)
theorem w_819 : Cond.code yX7_lies cX7_lies 1 (some .int) ∈ lw_tbl := List.mem_of_getElem? (i := 819) (by decide +kernel)
theorem w_824 : Cond.methodLink RL 87 yX7_rings_ ∈ lw_tbl := List.mem_of_getElem? (i := 824) (by decide +kernel)
theorem w_825 : Cond.instanceMethod yX7_rings_ ∈ lw_tbl := List.mem_of_getElem? (i := 825) (by decide +kernel)
theorem w_826 : Cond.selects RX7 yX7_rings_ yX7_rings_ ∈ lw_tbl := List.mem_of_getElem? (i := 826) (by decide +kernel)
theorem w_827 : Cond.code yX7_rings_ cX7_rings_ 4 (some .int) ∈ lw_tbl := List.mem_of_getElem? (i := 827) (by decide +kernel)
theorem w_855 : Cond.methodLink RL 92 yX7_ring ∈ lw_tbl := List.mem_of_getElem? (i := 855) (by decide +kernel)
theorem w_856 : Cond.instanceMethod yX7_ring ∈ lw_tbl := List.mem_of_getElem? (i := 856) (by decide +kernel)
theorem w_857 : Cond.selects RX7 yX7_ring yX7_ring ∈ lw_tbl := List.mem_of_getElem? (i := 857) (by decide +kernel)
theorem w_858 : Cond.code yX7_ring cX7_ring 5 (some .int) ∈ lw_tbl := List.mem_of_getElem? (i := 858) (by decide +kernel)
theorem w_863 : Cond.methodLink RL 97 yX7_most ∈ lw_tbl := List.mem_of_getElem? (i := 863) (by decide +kernel)
theorem w_864 : Cond.instanceMethod yX7_most ∈ lw_tbl := List.mem_of_getElem? (i := 864) (by decide +kernel)
theorem w_865 : Cond.selects RX7 yX7_most yX7_most ∈ lw_tbl := List.mem_of_getElem? (i := 865) (by decide +kernel)
theorem w_866 : Cond.code yX7_most cX7_most 3 (some .int) ∈ lw_tbl := List.mem_of_getElem? (i := 866) (by decide +kernel)
theorem w_867 : Cond.methodLink RL 101 yX7_opens ∈ lw_tbl := List.mem_of_getElem? (i := 867) (by decide +kernel)
theorem w_868 : Cond.instanceMethod yX7_opens ∈ lw_tbl := List.mem_of_getElem? (i := 868) (by decide +kernel)
theorem w_869 : Cond.selects RX7 yX7_opens yX7_opens ∈ lw_tbl := List.mem_of_getElem? (i := 869) (by decide +kernel)
theorem w_870 : Cond.code yX7_opens cX7_opens 8 (some .int) ∈ lw_tbl := List.mem_of_getElem? (i := 870) (by decide +kernel)
theorem w_871 : Cond.methodLink RL 105 yX7_nearest ∈ lw_tbl := List.mem_of_getElem? (i := 871) (by decide +kernel)
theorem w_872 : Cond.instanceMethod yX7_nearest ∈ lw_tbl := List.mem_of_getElem? (i := 872) (by decide +kernel)
theorem w_873 : Cond.selects RX7 yX7_nearest yX7_nearest ∈ lw_tbl := List.mem_of_getElem? (i := 873) (by decide +kernel)
theorem w_874 : Cond.code yX7_nearest cX7_nearest 3 (some .int) ∈ lw_tbl := List.mem_of_getElem? (i := 874) (by decide +kernel)
theorem w_875 : Cond.methodLink RL 109 yX7_turn ∈ lw_tbl := List.mem_of_getElem? (i := 875) (by decide +kernel)
theorem w_876 : Cond.instanceMethod yX7_turn ∈ lw_tbl := List.mem_of_getElem? (i := 876) (by decide +kernel)
theorem w_877 : Cond.selects RX7 yX7_turn yX7_turn ∈ lw_tbl := List.mem_of_getElem? (i := 877) (by decide +kernel)
theorem w_878 : Cond.code yX7_turn cX7_turn 3 (some .int) ∈ lw_tbl := List.mem_of_getElem? (i := 878) (by decide +kernel)
theorem w_879 : Cond.methodLink RL 113 yX7_photo ∈ lw_tbl := List.mem_of_getElem? (i := 879) (by decide +kernel)
theorem w_880 : Cond.instanceMethod yX7_photo ∈ lw_tbl := List.mem_of_getElem? (i := 880) (by decide +kernel)
theorem w_881 : Cond.selects RX7 yX7_photo yX7_photo ∈ lw_tbl := List.mem_of_getElem? (i := 881) (by decide +kernel)
theorem w_882 : Cond.code yX7_photo cX7_photo 2 (some .int) ∈ lw_tbl := List.mem_of_getElem? (i := 882) (by decide +kernel)
theorem w_883 : Cond.methodLink RL 117 yX7_image ∈ lw_tbl := List.mem_of_getElem? (i := 883) (by decide +kernel)
theorem w_884 : Cond.instanceMethod yX7_image ∈ lw_tbl := List.mem_of_getElem? (i := 884) (by decide +kernel)
theorem w_885 : Cond.selects RX7 yX7_image yX7_image ∈ lw_tbl := List.mem_of_getElem? (i := 885) (by decide +kernel)
theorem w_886 : Cond.code yX7_image cX7_image 2 (some .int) ∈ lw_tbl := List.mem_of_getElem? (i := 886) (by decide +kernel)
theorem w_887 : Cond.methodLink RL 121 yX7_on ∈ lw_tbl := List.mem_of_getElem? (i := 887) (by decide +kernel)
theorem w_888 : Cond.instanceMethod yX7_on ∈ lw_tbl := List.mem_of_getElem? (i := 888) (by decide +kernel)
theorem w_889 : Cond.selects RX7 yX7_on yX7_on ∈ lw_tbl := List.mem_of_getElem? (i := 889) (by decide +kernel)
theorem w_890 : Cond.code yX7_on cX7_on 2 (some .int) ∈ lw_tbl := List.mem_of_getElem? (i := 890) (by decide +kernel)
theorem w_891 : Cond.methodLink RL 125 yX7_count ∈ lw_tbl := List.mem_of_getElem? (i := 891) (by decide +kernel)
theorem w_892 : Cond.instanceMethod yX7_count ∈ lw_tbl := List.mem_of_getElem? (i := 892) (by decide +kernel)
theorem w_893 : Cond.selects RX7 yX7_count yX7_count ∈ lw_tbl := List.mem_of_getElem? (i := 893) (by decide +kernel)
theorem w_894 : Cond.code yX7_count cX7_count 4 (some .int) ∈ lw_tbl := List.mem_of_getElem? (i := 894) (by decide +kernel)
theorem w_895 : Cond.constantLong RL 13 (4294967295) ∈ lw_tbl := List.mem_of_getElem? (i := 895) (by decide +kernel)
theorem hy_X6_box : yX6_box.cls ≠ "java/lang/invoke/MethodHandle" ∧ yX6_box.cls ≠ "java/lang/invoke/VarHandle" ∧ (parseMethodDescriptor yX6_box.desc).map (fun d => d.parameters.length) = some 2 := by decide +kernel
theorem hy_X6_closes : yX6_closes.cls ≠ "java/lang/invoke/MethodHandle" ∧ yX6_closes.cls ≠ "java/lang/invoke/VarHandle" ∧ (parseMethodDescriptor yX6_closes.desc).map (fun d => d.parameters.length) = some 0 := by decide +kernel
theorem hy_X6_count : yX6_count.cls ≠ "java/lang/invoke/MethodHandle" ∧ yX6_count.cls ≠ "java/lang/invoke/VarHandle" ∧ (parseMethodDescriptor yX6_count.desc).map (fun d => d.parameters.length) = some 1 := by decide +kernel
theorem hy_X6_feed : yX6_feed.cls ≠ "java/lang/invoke/MethodHandle" ∧ yX6_feed.cls ≠ "java/lang/invoke/VarHandle" ∧ (parseMethodDescriptor yX6_feed.desc).map (fun d => d.parameters.length) = some 2 := by decide +kernel
theorem hy_X6_gap : yX6_gap.cls ≠ "java/lang/invoke/MethodHandle" ∧ yX6_gap.cls ≠ "java/lang/invoke/VarHandle" ∧ (parseMethodDescriptor yX6_gap.desc).map (fun d => d.parameters.length) = some 1 := by decide +kernel
theorem hy_X6_image : yX6_image.cls ≠ "java/lang/invoke/MethodHandle" ∧ yX6_image.cls ≠ "java/lang/invoke/VarHandle" ∧ (parseMethodDescriptor yX6_image.desc).map (fun d => d.parameters.length) = some 0 := by decide +kernel
theorem hy_X6_init : yX6_init.cls ≠ "java/lang/invoke/MethodHandle" ∧ yX6_init.cls ≠ "java/lang/invoke/VarHandle" ∧ (parseMethodDescriptor yX6_init.desc).map (fun d => d.parameters.length) = some 0 := by decide +kernel
theorem hy_X6_joint : yX6_joint.cls ≠ "java/lang/invoke/MethodHandle" ∧ yX6_joint.cls ≠ "java/lang/invoke/VarHandle" ∧ (parseMethodDescriptor yX6_joint.desc).map (fun d => d.parameters.length) = some 2 := by decide +kernel
theorem hy_X6_leg : yX6_leg.cls ≠ "java/lang/invoke/MethodHandle" ∧ yX6_leg.cls ≠ "java/lang/invoke/VarHandle" ∧ (parseMethodDescriptor yX6_leg.desc).map (fun d => d.parameters.length) = some 2 := by decide +kernel
theorem hy_X6_lies : yX6_lies.cls ≠ "java/lang/invoke/MethodHandle" ∧ yX6_lies.cls ≠ "java/lang/invoke/VarHandle" ∧ (parseMethodDescriptor yX6_lies.desc).map (fun d => d.parameters.length) = some 0 := by decide +kernel
theorem hy_X6_most : yX6_most.cls ≠ "java/lang/invoke/MethodHandle" ∧ yX6_most.cls ≠ "java/lang/invoke/VarHandle" ∧ (parseMethodDescriptor yX6_most.desc).map (fun d => d.parameters.length) = some 1 := by decide +kernel
theorem hy_X6_nearer : yX6_nearer.cls ≠ "java/lang/invoke/MethodHandle" ∧ yX6_nearer.cls ≠ "java/lang/invoke/VarHandle" ∧ (parseMethodDescriptor yX6_nearer.desc).map (fun d => d.parameters.length) = some 2 := by decide +kernel
theorem hy_X6_nearest : yX6_nearest.cls ≠ "java/lang/invoke/MethodHandle" ∧ yX6_nearest.cls ≠ "java/lang/invoke/VarHandle" ∧ (parseMethodDescriptor yX6_nearest.desc).map (fun d => d.parameters.length) = some 1 := by decide +kernel
theorem hy_X6_off : yX6_off.cls ≠ "java/lang/invoke/MethodHandle" ∧ yX6_off.cls ≠ "java/lang/invoke/VarHandle" ∧ (parseMethodDescriptor yX6_off.desc).map (fun d => d.parameters.length) = some 0 := by decide +kernel
theorem hy_X6_on : yX6_on.cls ≠ "java/lang/invoke/MethodHandle" ∧ yX6_on.cls ≠ "java/lang/invoke/VarHandle" ∧ (parseMethodDescriptor yX6_on.desc).map (fun d => d.parameters.length) = some 0 := by decide +kernel
theorem hy_X6_opens : yX6_opens.cls ≠ "java/lang/invoke/MethodHandle" ∧ yX6_opens.cls ≠ "java/lang/invoke/VarHandle" ∧ (parseMethodDescriptor yX6_opens.desc).map (fun d => d.parameters.length) = some 2 := by decide +kernel
theorem hy_X6_photo : yX6_photo.cls ≠ "java/lang/invoke/MethodHandle" ∧ yX6_photo.cls ≠ "java/lang/invoke/VarHandle" ∧ (parseMethodDescriptor yX6_photo.desc).map (fun d => d.parameters.length) = some 0 := by decide +kernel
theorem hy_X6_piece : yX6_piece.cls ≠ "java/lang/invoke/MethodHandle" ∧ yX6_piece.cls ≠ "java/lang/invoke/VarHandle" ∧ (parseMethodDescriptor yX6_piece.desc).map (fun d => d.parameters.length) = some 1 := by decide +kernel
theorem hy_X6_ring : yX6_ring.cls ≠ "java/lang/invoke/MethodHandle" ∧ yX6_ring.cls ≠ "java/lang/invoke/VarHandle" ∧ (parseMethodDescriptor yX6_ring.desc).map (fun d => d.parameters.length) = some 3 := by decide +kernel
theorem hy_X6_rings : yX6_rings.cls ≠ "java/lang/invoke/MethodHandle" ∧ yX6_rings.cls ≠ "java/lang/invoke/VarHandle" ∧ (parseMethodDescriptor yX6_rings.desc).map (fun d => d.parameters.length) = some 2 := by decide +kernel
theorem hy_X6_row : yX6_row.cls ≠ "java/lang/invoke/MethodHandle" ∧ yX6_row.cls ≠ "java/lang/invoke/VarHandle" ∧ (parseMethodDescriptor yX6_row.desc).map (fun d => d.parameters.length) = some 0 := by decide +kernel
theorem hy_X6_sign : yX6_sign.cls ≠ "java/lang/invoke/MethodHandle" ∧ yX6_sign.cls ≠ "java/lang/invoke/VarHandle" ∧ (parseMethodDescriptor yX6_sign.desc).map (fun d => d.parameters.length) = some 2 := by decide +kernel
theorem hy_X6_size : yX6_size.cls ≠ "java/lang/invoke/MethodHandle" ∧ yX6_size.cls ≠ "java/lang/invoke/VarHandle" ∧ (parseMethodDescriptor yX6_size.desc).map (fun d => d.parameters.length) = some 2 := by decide +kernel
theorem hy_X6_table : yX6_table.cls ≠ "java/lang/invoke/MethodHandle" ∧ yX6_table.cls ≠ "java/lang/invoke/VarHandle" ∧ (parseMethodDescriptor yX6_table.desc).map (fun d => d.parameters.length) = some 2 := by decide +kernel
theorem hy_X6_touches : yX6_touches.cls ≠ "java/lang/invoke/MethodHandle" ∧ yX6_touches.cls ≠ "java/lang/invoke/VarHandle" ∧ (parseMethodDescriptor yX6_touches.desc).map (fun d => d.parameters.length) = some 0 := by decide +kernel
theorem hy_X6_turn : yX6_turn.cls ≠ "java/lang/invoke/MethodHandle" ∧ yX6_turn.cls ≠ "java/lang/invoke/VarHandle" ∧ (parseMethodDescriptor yX6_turn.desc).map (fun d => d.parameters.length) = some 1 := by decide +kernel
theorem hy_X6_uses : yX6_uses.cls ≠ "java/lang/invoke/MethodHandle" ∧ yX6_uses.cls ≠ "java/lang/invoke/VarHandle" ∧ (parseMethodDescriptor yX6_uses.desc).map (fun d => d.parameters.length) = some 0 := by decide +kernel
theorem hy_X7_box : yX7_box.cls ≠ "java/lang/invoke/MethodHandle" ∧ yX7_box.cls ≠ "java/lang/invoke/VarHandle" ∧ (parseMethodDescriptor yX7_box.desc).map (fun d => d.parameters.length) = some 2 := by decide +kernel
theorem hy_X7_closes : yX7_closes.cls ≠ "java/lang/invoke/MethodHandle" ∧ yX7_closes.cls ≠ "java/lang/invoke/VarHandle" ∧ (parseMethodDescriptor yX7_closes.desc).map (fun d => d.parameters.length) = some 0 := by decide +kernel
theorem hy_X7_count : yX7_count.cls ≠ "java/lang/invoke/MethodHandle" ∧ yX7_count.cls ≠ "java/lang/invoke/VarHandle" ∧ (parseMethodDescriptor yX7_count.desc).map (fun d => d.parameters.length) = some 1 := by decide +kernel
theorem hy_X7_feed : yX7_feed.cls ≠ "java/lang/invoke/MethodHandle" ∧ yX7_feed.cls ≠ "java/lang/invoke/VarHandle" ∧ (parseMethodDescriptor yX7_feed.desc).map (fun d => d.parameters.length) = some 2 := by decide +kernel
theorem hy_X7_gap : yX7_gap.cls ≠ "java/lang/invoke/MethodHandle" ∧ yX7_gap.cls ≠ "java/lang/invoke/VarHandle" ∧ (parseMethodDescriptor yX7_gap.desc).map (fun d => d.parameters.length) = some 1 := by decide +kernel
theorem hy_X7_image : yX7_image.cls ≠ "java/lang/invoke/MethodHandle" ∧ yX7_image.cls ≠ "java/lang/invoke/VarHandle" ∧ (parseMethodDescriptor yX7_image.desc).map (fun d => d.parameters.length) = some 0 := by decide +kernel
theorem hy_X7_init : yX7_init.cls ≠ "java/lang/invoke/MethodHandle" ∧ yX7_init.cls ≠ "java/lang/invoke/VarHandle" ∧ (parseMethodDescriptor yX7_init.desc).map (fun d => d.parameters.length) = some 0 := by decide +kernel
theorem hy_X7_joint : yX7_joint.cls ≠ "java/lang/invoke/MethodHandle" ∧ yX7_joint.cls ≠ "java/lang/invoke/VarHandle" ∧ (parseMethodDescriptor yX7_joint.desc).map (fun d => d.parameters.length) = some 2 := by decide +kernel
theorem hy_X7_leg : yX7_leg.cls ≠ "java/lang/invoke/MethodHandle" ∧ yX7_leg.cls ≠ "java/lang/invoke/VarHandle" ∧ (parseMethodDescriptor yX7_leg.desc).map (fun d => d.parameters.length) = some 2 := by decide +kernel
theorem hy_X7_lies : yX7_lies.cls ≠ "java/lang/invoke/MethodHandle" ∧ yX7_lies.cls ≠ "java/lang/invoke/VarHandle" ∧ (parseMethodDescriptor yX7_lies.desc).map (fun d => d.parameters.length) = some 0 := by decide +kernel
theorem hy_X7_most : yX7_most.cls ≠ "java/lang/invoke/MethodHandle" ∧ yX7_most.cls ≠ "java/lang/invoke/VarHandle" ∧ (parseMethodDescriptor yX7_most.desc).map (fun d => d.parameters.length) = some 1 := by decide +kernel
theorem hy_X7_nearer : yX7_nearer.cls ≠ "java/lang/invoke/MethodHandle" ∧ yX7_nearer.cls ≠ "java/lang/invoke/VarHandle" ∧ (parseMethodDescriptor yX7_nearer.desc).map (fun d => d.parameters.length) = some 2 := by decide +kernel
theorem hy_X7_nearest : yX7_nearest.cls ≠ "java/lang/invoke/MethodHandle" ∧ yX7_nearest.cls ≠ "java/lang/invoke/VarHandle" ∧ (parseMethodDescriptor yX7_nearest.desc).map (fun d => d.parameters.length) = some 1 := by decide +kernel
theorem hy_X7_off : yX7_off.cls ≠ "java/lang/invoke/MethodHandle" ∧ yX7_off.cls ≠ "java/lang/invoke/VarHandle" ∧ (parseMethodDescriptor yX7_off.desc).map (fun d => d.parameters.length) = some 0 := by decide +kernel
theorem hy_X7_on : yX7_on.cls ≠ "java/lang/invoke/MethodHandle" ∧ yX7_on.cls ≠ "java/lang/invoke/VarHandle" ∧ (parseMethodDescriptor yX7_on.desc).map (fun d => d.parameters.length) = some 0 := by decide +kernel
theorem hy_X7_opens : yX7_opens.cls ≠ "java/lang/invoke/MethodHandle" ∧ yX7_opens.cls ≠ "java/lang/invoke/VarHandle" ∧ (parseMethodDescriptor yX7_opens.desc).map (fun d => d.parameters.length) = some 2 := by decide +kernel
theorem hy_X7_photo : yX7_photo.cls ≠ "java/lang/invoke/MethodHandle" ∧ yX7_photo.cls ≠ "java/lang/invoke/VarHandle" ∧ (parseMethodDescriptor yX7_photo.desc).map (fun d => d.parameters.length) = some 0 := by decide +kernel
theorem hy_X7_piece : yX7_piece.cls ≠ "java/lang/invoke/MethodHandle" ∧ yX7_piece.cls ≠ "java/lang/invoke/VarHandle" ∧ (parseMethodDescriptor yX7_piece.desc).map (fun d => d.parameters.length) = some 1 := by decide +kernel
theorem hy_X7_ring : yX7_ring.cls ≠ "java/lang/invoke/MethodHandle" ∧ yX7_ring.cls ≠ "java/lang/invoke/VarHandle" ∧ (parseMethodDescriptor yX7_ring.desc).map (fun d => d.parameters.length) = some 3 := by decide +kernel
theorem hy_X7_rings_ : yX7_rings_.cls ≠ "java/lang/invoke/MethodHandle" ∧ yX7_rings_.cls ≠ "java/lang/invoke/VarHandle" ∧ (parseMethodDescriptor yX7_rings_.desc).map (fun d => d.parameters.length) = some 2 := by decide +kernel
theorem hy_X7_row : yX7_row.cls ≠ "java/lang/invoke/MethodHandle" ∧ yX7_row.cls ≠ "java/lang/invoke/VarHandle" ∧ (parseMethodDescriptor yX7_row.desc).map (fun d => d.parameters.length) = some 0 := by decide +kernel
theorem hy_X7_sign : yX7_sign.cls ≠ "java/lang/invoke/MethodHandle" ∧ yX7_sign.cls ≠ "java/lang/invoke/VarHandle" ∧ (parseMethodDescriptor yX7_sign.desc).map (fun d => d.parameters.length) = some 2 := by decide +kernel
theorem hy_X7_size : yX7_size.cls ≠ "java/lang/invoke/MethodHandle" ∧ yX7_size.cls ≠ "java/lang/invoke/VarHandle" ∧ (parseMethodDescriptor yX7_size.desc).map (fun d => d.parameters.length) = some 2 := by decide +kernel
theorem hy_X7_table : yX7_table.cls ≠ "java/lang/invoke/MethodHandle" ∧ yX7_table.cls ≠ "java/lang/invoke/VarHandle" ∧ (parseMethodDescriptor yX7_table.desc).map (fun d => d.parameters.length) = some 2 := by decide +kernel
theorem hy_X7_touches : yX7_touches.cls ≠ "java/lang/invoke/MethodHandle" ∧ yX7_touches.cls ≠ "java/lang/invoke/VarHandle" ∧ (parseMethodDescriptor yX7_touches.desc).map (fun d => d.parameters.length) = some 0 := by decide +kernel
theorem hy_X7_turn : yX7_turn.cls ≠ "java/lang/invoke/MethodHandle" ∧ yX7_turn.cls ≠ "java/lang/invoke/VarHandle" ∧ (parseMethodDescriptor yX7_turn.desc).map (fun d => d.parameters.length) = some 1 := by decide +kernel
theorem hy_X7_uses : yX7_uses.cls ≠ "java/lang/invoke/MethodHandle" ∧ yX7_uses.cls ≠ "java/lang/invoke/VarHandle" ∧ (parseMethodDescriptor yX7_uses.desc).map (fun d => d.parameters.length) = some 0 := by decide +kernel
def tb_94 : List Shp := []
theorem fitR_l {n : Nat} (h : n ≤ 21) : fitR room_1 60 n := ⟨Nat.le_of_ble_eq_true rfl, by show 8 + (n + 11) + 40 * 60 ≤ 84000; omega⟩
section LAWR
variable {p : Program} {l : Launch} {e : Env} {s : State} {m : MethodId} {below : List Frame} {meth : Method} {c : Code} {ad : Nat → Nat} {D : va_G} {cI cJ : ClassId} {b L : Nat} {xs : Nat → Int32}
variable {M M' : Mem} {pc : Nat} {ls : List (Nat × Value)} {st : List Value}
/-- the script: a cell that nobody writes -/
def Scr (s : State) (ad : Nat → Nat) (b L : Nat) (xs : Nat → Int32) : Prop := va_X b L xs s s.heap ∧ ad 51 = b ∧ b < s.heap.size
theorem r_slen (X : Cx p s m meth c code 4 RL (fun q => s.heap.size ≤ q) ad D cI cJ) (S : Scr s ad b L xs) (hd : decode code pc = .ok (.arraylength, 1)) (k : AW p l e room_1 s m #[Value.ref b] below meth c 4 (fun q => s.heap.size ≤ q) ad D cI cJ shp 45 45 3748 (lw_Z below #[Value.ref b] s) M (pc + 1) ls (.int (Int32.ofNat L) :: st)) : AW p l e room_1 s m #[Value.ref b] below meth c 4 (fun q => s.heap.size ≤ q) ad D cI cJ shp 45 45 3748 (lw_Z below #[Value.ref b] s) M pc ls (.ref 51 :: st) := by
  intro H locs lsA hD hS hl
  show W p l e room_1 s m #[Value.ref b] below meth c H locs 45 3748 (lw_Z below #[Value.ref b] s) (F0 m pc lsA (.ref (ad 51) :: st.map (cv ad)))
  rw [S.2.1]
  exact va_slen X.1 X.2.1 S.1 S.2.2 (Nat.not_le.mpr S.2.2) hS hd (k H locs lsA hD hS hl)
theorem r_sld (X : Cx p s m meth c code 4 RL (fun q => s.heap.size ≤ q) ad D cI cJ) (S : Scr s ad b L xs) {i : Int32} (hi : inb i L) (hd : decode code pc = .ok (.iaload, 1)) (k : AW p l e room_1 s m #[Value.ref b] below meth c 4 (fun q => s.heap.size ≤ q) ad D cI cJ shp 45 45 3748 (lw_Z below #[Value.ref b] s) M (pc + 1) ls (.int (xs (ix i)) :: st)) : AW p l e room_1 s m #[Value.ref b] below meth c 4 (fun q => s.heap.size ≤ q) ad D cI cJ shp 45 45 3748 (lw_Z below #[Value.ref b] s) M pc ls (.int i :: .ref 51 :: st) := by
  intro H locs lsA hD hS hl
  show W p l e room_1 s m #[Value.ref b] below meth c H locs 45 3748 (lw_Z below #[Value.ref b] s) (F0 m pc lsA (.int i :: .ref (ad 51) :: st.map (cv ad)))
  rw [S.2.1]
  exact va_sld X.1 X.2.1 S.1 S.2.2 (Nat.not_le.mpr S.2.2) hS (inb_vp hi) hd (k H locs lsA hD hS hl)
theorem r_lawret (X : Cx p s m meth c code 4 RL (fun q => s.heap.size ≤ q) ad D cI cJ) {x : Int32} (hrr : meth.sig.returnType = ret) (hd : decode code pc = .ok (.ireturn, 1)) (h : some (x, M) = some ((1 : Int32), M')) : AW p l e room_1 s m #[Value.ref b] below meth c 4 (fun q => s.heap.size ≤ q) ad D cI cJ shp 45 45 3748 (lw_Z below #[Value.ref b] s) M pc ls [.int x] := by
  cases h
  intro H locs lsA hD hS hl
  refine va_forget (fun q hq => hS.2.2 q hq) ?_
  refine W.widen (k := 600000) (n := 7302249) (Nat.le_of_ble_eq_true rfl) (Nat.le_of_ble_eq_true rfl) ?_
  exact lw_ret X.1 X.2.1 hrr X.2.2.2.2.2 hd
end LAWR
def l_L_law_18 (N : Nat) (L : Nat) (xs : Nat → Int32)    : Nat → Mem → Int32 → Option (Int32 × Mem)
  | 0, _, _ => none
  | n + 1, M, v3 =>
    if ((Int32.ofNat L) - (4 : Int32)) < v3 then
      (some ((1 : Int32), M))
    else
      (ck (inb v3 L) <|
      nm ((xs (ix v3)) &&& (31 : Int32)) fun x3 =>
      if x3 = 0 then (
        ck (inb (v3 + (1 : Int32)) L) <|
        ck (inb (v3 + (2 : Int32)) L) <|
        ck (inb (v3 + (3 : Int32)) L) <|
        bd2 (f_X6_feed N M (xs (ix (v3 + (1 : Int32)))) ((shl64 (Int32.toInt64 (xs (ix (v3 + (2 : Int32))))) (32 : Int32)) ||| ((Int32.toInt64 (xs (ix (v3 + (3 : Int32))))) &&& (4294967295 : Int64)))) fun r9 M8 =>
        ck (inb (v3 + (1 : Int32)) L) <|
        ck (inb (v3 + (2 : Int32)) L) <|
        ck (inb (v3 + (3 : Int32)) L) <|
        bd2 (f_X7_feed N M8 (xs (ix (v3 + (1 : Int32)))) ((shl64 (Int32.toInt64 (xs (ix (v3 + (2 : Int32))))) (32 : Int32)) ||| ((Int32.toInt64 (xs (ix (v3 + (3 : Int32))))) &&& (4294967295 : Int64)))) fun r15 M14 =>
        if r9 = r15 then
          (l_L_law_18 N L xs n M14 (v3 + 4))
        else
          (some ((0 : Int32), M14)))
      else if x3 = 1 then (
        bd2 (f_X6_row N M ) fun r20 M19 =>
        bd2 (f_X7_row N M19 ) fun r23 M22 =>
        if r20 = r23 then
          (l_L_law_18 N L xs n M22 (v3 + 4))
        else
          (some ((0 : Int32), M22)))
      else if x3 = 2 then (
        ck (inb (v3 + (1 : Int32)) L) <|
        ck (inb (v3 + (2 : Int32)) L) <|
        bd2 (f_X6_box N M (xs (ix (v3 + (1 : Int32)))) (xs (ix (v3 + (2 : Int32))))) fun r30 M29 =>
        ck (inb (v3 + (1 : Int32)) L) <|
        ck (inb (v3 + (2 : Int32)) L) <|
        bd2 (f_X7_box N M29 (xs (ix (v3 + (1 : Int32)))) (xs (ix (v3 + (2 : Int32))))) fun r35 M34 =>
        if r30 = r35 then
          (l_L_law_18 N L xs n M34 (v3 + 4))
        else
          (some ((0 : Int32), M34)))
      else if x3 = 3 then (
        ck (inb (v3 + (1 : Int32)) L) <|
        ck (inb (v3 + (2 : Int32)) L) <|
        bd2 (f_X6_size N M (xs (ix (v3 + (1 : Int32)))) (xs (ix (v3 + (2 : Int32))))) fun r42 M41 =>
        ck (inb (v3 + (1 : Int32)) L) <|
        ck (inb (v3 + (2 : Int32)) L) <|
        bd2 (f_X7_size N M41 (xs (ix (v3 + (1 : Int32)))) (xs (ix (v3 + (2 : Int32))))) fun r47 M46 =>
        if r42 = r47 then
          (l_L_law_18 N L xs n M46 (v3 + 4))
        else
          (some ((0 : Int32), M46)))
      else if x3 = 4 then (
        ck (inb (v3 + (1 : Int32)) L) <|
        bd2 (f_X6_piece N M (xs (ix (v3 + (1 : Int32))))) fun r53 M52 =>
        ck (inb (v3 + (1 : Int32)) L) <|
        bd2 (f_X7_piece N M52 (xs (ix (v3 + (1 : Int32))))) fun r57 M56 =>
        if r53 = r57 then
          (l_L_law_18 N L xs n M56 (v3 + 4))
        else
          (some ((0 : Int32), M56)))
      else if x3 = 5 then (
        ck (inb (v3 + (1 : Int32)) L) <|
        ck (inb (v3 + (2 : Int32)) L) <|
        bd2 (f_X6_joint N M (xs (ix (v3 + (1 : Int32)))) (xs (ix (v3 + (2 : Int32))))) fun r64 M63 =>
        ck (inb (v3 + (1 : Int32)) L) <|
        ck (inb (v3 + (2 : Int32)) L) <|
        bd2 (f_X7_joint N M63 (xs (ix (v3 + (1 : Int32)))) (xs (ix (v3 + (2 : Int32))))) fun r69 M68 =>
        if r64 = r69 then
          (l_L_law_18 N L xs n M68 (v3 + 4))
        else
          (some ((0 : Int32), M68)))
      else if x3 = 6 then (
        bd2 (f_X6_closes N M ) fun r74 M73 =>
        bd2 (f_X7_closes N M73 ) fun r77 M76 =>
        if r74 = r77 then
          (l_L_law_18 N L xs n M76 (v3 + 4))
        else
          (some ((0 : Int32), M76)))
      else if x3 = 7 then (
        bd2 (f_X6_uses N M ) fun r82 M81 =>
        bd2 (f_X7_uses N M81 ) fun r85 M84 =>
        if r82 = r85 then
          (l_L_law_18 N L xs n M84 (v3 + 4))
        else
          (some ((0 : Int32), M84)))
      else if x3 = 8 then (
        ck (inb (v3 + (1 : Int32)) L) <|
        ck (inb (v3 + (2 : Int32)) L) <|
        bd2 (f_X6_sign N M (xs (ix (v3 + (1 : Int32)))) (xs (ix (v3 + (2 : Int32))))) fun r92 M91 =>
        ck (inb (v3 + (1 : Int32)) L) <|
        ck (inb (v3 + (2 : Int32)) L) <|
        bd2 (f_X7_sign N M91 (xs (ix (v3 + (1 : Int32)))) (xs (ix (v3 + (2 : Int32))))) fun r97 M96 =>
        if r92 = r97 then
          (l_L_law_18 N L xs n M96 (v3 + 4))
        else
          (some ((0 : Int32), M96)))
      else if x3 = 9 then (
        ck (inb (v3 + (1 : Int32)) L) <|
        bd2 (f_X6_gap N M (xs (ix (v3 + (1 : Int32))))) fun r103 M102 =>
        ck (inb (v3 + (1 : Int32)) L) <|
        bd2 (f_X7_gap N M102 (xs (ix (v3 + (1 : Int32))))) fun r107 M106 =>
        if r103 = r107 then
          (l_L_law_18 N L xs n M106 (v3 + 4))
        else
          (some ((0 : Int32), M106)))
      else if x3 = 10 then (
        ck (inb (v3 + (1 : Int32)) L) <|
        ck (inb (v3 + (2 : Int32)) L) <|
        bd2 (f_X6_nearer N M (xs (ix (v3 + (1 : Int32)))) (xs (ix (v3 + (2 : Int32))))) fun r114 M113 =>
        ck (inb (v3 + (1 : Int32)) L) <|
        ck (inb (v3 + (2 : Int32)) L) <|
        bd2 (f_X7_nearer N M113 (xs (ix (v3 + (1 : Int32)))) (xs (ix (v3 + (2 : Int32))))) fun r119 M118 =>
        if r114 = r119 then
          (l_L_law_18 N L xs n M118 (v3 + 4))
        else
          (some ((0 : Int32), M118)))
      else if x3 = 11 then (
        ck (inb (v3 + (1 : Int32)) L) <|
        ck (inb (v3 + (2 : Int32)) L) <|
        bd2 (f_X6_table N M (xs (ix (v3 + (1 : Int32)))) (xs (ix (v3 + (2 : Int32))))) fun r126 M125 =>
        ck (inb (v3 + (1 : Int32)) L) <|
        ck (inb (v3 + (2 : Int32)) L) <|
        bd2 (f_X7_table N M125 (xs (ix (v3 + (1 : Int32)))) (xs (ix (v3 + (2 : Int32))))) fun r131 M130 =>
        if r126 = r131 then
          (l_L_law_18 N L xs n M130 (v3 + 4))
        else
          (some ((0 : Int32), M130)))
      else if x3 = 12 then (
        ck (inb (v3 + (1 : Int32)) L) <|
        ck (inb (v3 + (2 : Int32)) L) <|
        bd2 (f_X6_leg N M (xs (ix (v3 + (1 : Int32)))) (xs (ix (v3 + (2 : Int32))))) fun r138 M137 =>
        ck (inb (v3 + (1 : Int32)) L) <|
        ck (inb (v3 + (2 : Int32)) L) <|
        bd2 (f_X7_leg N M137 (xs (ix (v3 + (1 : Int32)))) (xs (ix (v3 + (2 : Int32))))) fun r143 M142 =>
        if r138 = r143 then
          (l_L_law_18 N L xs n M142 (v3 + 4))
        else
          (some ((0 : Int32), M142)))
      else if x3 = 13 then (
        bd2 (f_X6_off N M ) fun r148 M147 =>
        bd2 (f_X7_off N M147 ) fun r151 M150 =>
        if r148 = r151 then
          (l_L_law_18 N L xs n M150 (v3 + 4))
        else
          (some ((0 : Int32), M150)))
      else if x3 = 14 then (
        bd2 (f_X6_touches N M ) fun r156 M155 =>
        bd2 (f_X7_touches N M155 ) fun r159 M158 =>
        if r156 = r159 then
          (l_L_law_18 N L xs n M158 (v3 + 4))
        else
          (some ((0 : Int32), M158)))
      else if x3 = 15 then (
        bd2 (f_X6_lies N M ) fun r164 M163 =>
        bd2 (f_X7_lies N M163 ) fun r167 M166 =>
        if r164 = r167 then
          (l_L_law_18 N L xs n M166 (v3 + 4))
        else
          (some ((0 : Int32), M166)))
      else if x3 = 16 then (
        ck (inb (v3 + (1 : Int32)) L) <|
        ck (inb (v3 + (2 : Int32)) L) <|
        if (xs (ix (v3 + (2 : Int32)))) = 0 then
          (bd2 (f_X6_rings N M (xs (ix (v3 + (1 : Int32)))) (0 : Int32)) fun r175 M174 =>
          ck (inb (v3 + (1 : Int32)) L) <|
          ck (inb (v3 + (2 : Int32)) L) <|
          if (xs (ix (v3 + (2 : Int32)))) = 0 then
            (bd2 (f_X7_rings_ N M174 (xs (ix (v3 + (1 : Int32)))) (0 : Int32)) fun r181 M180 =>
            if r175 = r181 then
              (l_L_law_18 N L xs n M180 (v3 + 4))
            else
              (some ((0 : Int32), M180)))
          else
            (bd2 (f_X7_rings_ N M174 (xs (ix (v3 + (1 : Int32)))) (1 : Int32)) fun r185 M184 =>
            if r175 = r185 then
              (l_L_law_18 N L xs n M184 (v3 + 4))
            else
              (some ((0 : Int32), M184))))
        else
          (bd2 (f_X6_rings N M (xs (ix (v3 + (1 : Int32)))) (1 : Int32)) fun r189 M188 =>
          ck (inb (v3 + (1 : Int32)) L) <|
          ck (inb (v3 + (2 : Int32)) L) <|
          if (xs (ix (v3 + (2 : Int32)))) = 0 then
            (bd2 (f_X7_rings_ N M188 (xs (ix (v3 + (1 : Int32)))) (0 : Int32)) fun r195 M194 =>
            if r189 = r195 then
              (l_L_law_18 N L xs n M194 (v3 + 4))
            else
              (some ((0 : Int32), M194)))
          else
            (bd2 (f_X7_rings_ N M188 (xs (ix (v3 + (1 : Int32)))) (1 : Int32)) fun r199 M198 =>
            if r189 = r199 then
              (l_L_law_18 N L xs n M198 (v3 + 4))
            else
              (some ((0 : Int32), M198)))))
      else if x3 = 17 then (
        ck (inb (v3 + (1 : Int32)) L) <|
        ck (inb (v3 + (2 : Int32)) L) <|
        if (xs (ix (v3 + (2 : Int32)))) = 0 then
          (ck (inb (v3 + (3 : Int32)) L) <|
          bd2 (f_X6_ring N M (xs (ix (v3 + (1 : Int32)))) (0 : Int32) (xs (ix (v3 + (3 : Int32))))) fun r208 M207 =>
          ck (inb (v3 + (1 : Int32)) L) <|
          ck (inb (v3 + (2 : Int32)) L) <|
          if (xs (ix (v3 + (2 : Int32)))) = 0 then
            (ck (inb (v3 + (3 : Int32)) L) <|
            bd2 (f_X7_ring N M207 (xs (ix (v3 + (1 : Int32)))) (0 : Int32) (xs (ix (v3 + (3 : Int32))))) fun r215 M214 =>
            if r208 = r215 then
              (l_L_law_18 N L xs n M214 (v3 + 4))
            else
              (some ((0 : Int32), M214)))
          else
            (ck (inb (v3 + (3 : Int32)) L) <|
            bd2 (f_X7_ring N M207 (xs (ix (v3 + (1 : Int32)))) (1 : Int32) (xs (ix (v3 + (3 : Int32))))) fun r220 M219 =>
            if r208 = r220 then
              (l_L_law_18 N L xs n M219 (v3 + 4))
            else
              (some ((0 : Int32), M219))))
        else
          (ck (inb (v3 + (3 : Int32)) L) <|
          bd2 (f_X6_ring N M (xs (ix (v3 + (1 : Int32)))) (1 : Int32) (xs (ix (v3 + (3 : Int32))))) fun r225 M224 =>
          ck (inb (v3 + (1 : Int32)) L) <|
          ck (inb (v3 + (2 : Int32)) L) <|
          if (xs (ix (v3 + (2 : Int32)))) = 0 then
            (ck (inb (v3 + (3 : Int32)) L) <|
            bd2 (f_X7_ring N M224 (xs (ix (v3 + (1 : Int32)))) (0 : Int32) (xs (ix (v3 + (3 : Int32))))) fun r232 M231 =>
            if r225 = r232 then
              (l_L_law_18 N L xs n M231 (v3 + 4))
            else
              (some ((0 : Int32), M231)))
          else
            (ck (inb (v3 + (3 : Int32)) L) <|
            bd2 (f_X7_ring N M224 (xs (ix (v3 + (1 : Int32)))) (1 : Int32) (xs (ix (v3 + (3 : Int32))))) fun r237 M236 =>
            if r225 = r237 then
              (l_L_law_18 N L xs n M236 (v3 + 4))
            else
              (some ((0 : Int32), M236)))))
      else if x3 = 18 then (
        ck (inb (v3 + (1 : Int32)) L) <|
        if (xs (ix (v3 + (1 : Int32)))) = 0 then
          (bd2 (f_X6_most N M (0 : Int32)) fun r244 M243 =>
          ck (inb (v3 + (1 : Int32)) L) <|
          if (xs (ix (v3 + (1 : Int32)))) = 0 then
            (bd2 (f_X7_most N M243 (0 : Int32)) fun r249 M248 =>
            if r244 = r249 then
              (l_L_law_18 N L xs n M248 (v3 + 4))
            else
              (some ((0 : Int32), M248)))
          else
            (bd2 (f_X7_most N M243 (1 : Int32)) fun r253 M252 =>
            if r244 = r253 then
              (l_L_law_18 N L xs n M252 (v3 + 4))
            else
              (some ((0 : Int32), M252))))
        else
          (bd2 (f_X6_most N M (1 : Int32)) fun r257 M256 =>
          ck (inb (v3 + (1 : Int32)) L) <|
          if (xs (ix (v3 + (1 : Int32)))) = 0 then
            (bd2 (f_X7_most N M256 (0 : Int32)) fun r262 M261 =>
            if r257 = r262 then
              (l_L_law_18 N L xs n M261 (v3 + 4))
            else
              (some ((0 : Int32), M261)))
          else
            (bd2 (f_X7_most N M256 (1 : Int32)) fun r266 M265 =>
            if r257 = r266 then
              (l_L_law_18 N L xs n M265 (v3 + 4))
            else
              (some ((0 : Int32), M265)))))
      else if x3 = 19 then (
        ck (inb (v3 + (1 : Int32)) L) <|
        ck (inb (v3 + (2 : Int32)) L) <|
        if (xs (ix (v3 + (2 : Int32)))) = 0 then
          (bd2 (f_X6_opens N M (xs (ix (v3 + (1 : Int32)))) (0 : Int32)) fun r274 M273 =>
          ck (inb (v3 + (1 : Int32)) L) <|
          ck (inb (v3 + (2 : Int32)) L) <|
          if (xs (ix (v3 + (2 : Int32)))) = 0 then
            (bd2 (f_X7_opens N M273 (xs (ix (v3 + (1 : Int32)))) (0 : Int32)) fun r280 M279 =>
            if r274 = r280 then
              (l_L_law_18 N L xs n M279 (v3 + 4))
            else
              (some ((0 : Int32), M279)))
          else
            (bd2 (f_X7_opens N M273 (xs (ix (v3 + (1 : Int32)))) (1 : Int32)) fun r284 M283 =>
            if r274 = r284 then
              (l_L_law_18 N L xs n M283 (v3 + 4))
            else
              (some ((0 : Int32), M283))))
        else
          (bd2 (f_X6_opens N M (xs (ix (v3 + (1 : Int32)))) (1 : Int32)) fun r288 M287 =>
          ck (inb (v3 + (1 : Int32)) L) <|
          ck (inb (v3 + (2 : Int32)) L) <|
          if (xs (ix (v3 + (2 : Int32)))) = 0 then
            (bd2 (f_X7_opens N M287 (xs (ix (v3 + (1 : Int32)))) (0 : Int32)) fun r294 M293 =>
            if r288 = r294 then
              (l_L_law_18 N L xs n M293 (v3 + 4))
            else
              (some ((0 : Int32), M293)))
          else
            (bd2 (f_X7_opens N M287 (xs (ix (v3 + (1 : Int32)))) (1 : Int32)) fun r298 M297 =>
            if r288 = r298 then
              (l_L_law_18 N L xs n M297 (v3 + 4))
            else
              (some ((0 : Int32), M297)))))
      else if x3 = 20 then (
        ck (inb (v3 + (1 : Int32)) L) <|
        bd2 (f_X6_nearest N M (xs (ix (v3 + (1 : Int32))))) fun r304 M303 =>
        ck (inb (v3 + (1 : Int32)) L) <|
        bd2 (f_X7_nearest N M303 (xs (ix (v3 + (1 : Int32))))) fun r308 M307 =>
        if r304 = r308 then
          (l_L_law_18 N L xs n M307 (v3 + 4))
        else
          (some ((0 : Int32), M307)))
      else if x3 = 21 then (
        ck (inb (v3 + (1 : Int32)) L) <|
        bd2 (f_X6_turn N M (xs (ix (v3 + (1 : Int32))))) fun r314 M313 =>
        ck (inb (v3 + (1 : Int32)) L) <|
        bd2 (f_X7_turn N M313 (xs (ix (v3 + (1 : Int32))))) fun r318 M317 =>
        if r314 = r318 then
          (l_L_law_18 N L xs n M317 (v3 + 4))
        else
          (some ((0 : Int32), M317)))
      else if x3 = 22 then (
        bd2 (f_X6_photo N M ) fun r323 M322 =>
        bd2 (f_X7_photo N M322 ) fun r326 M325 =>
        if r323 = r326 then
          (l_L_law_18 N L xs n M325 (v3 + 4))
        else
          (some ((0 : Int32), M325)))
      else if x3 = 23 then (
        bd2 (f_X6_image N M ) fun r331 M330 =>
        bd2 (f_X7_image N M330 ) fun r334 M333 =>
        if r331 = r334 then
          (l_L_law_18 N L xs n M333 (v3 + 4))
        else
          (some ((0 : Int32), M333)))
      else if x3 = 24 then (
        bd2 (f_X6_on N M ) fun r339 M338 =>
        bd2 (f_X7_on N M338 ) fun r342 M341 =>
        if r339 = r342 then
          (l_L_law_18 N L xs n M341 (v3 + 4))
        else
          (some ((0 : Int32), M341)))
      else if x3 = 25 then (
        ck (inb (v3 + (1 : Int32)) L) <|
        bd2 (f_X6_count N M (xs (ix (v3 + (1 : Int32))))) fun r348 M347 =>
        ck (inb (v3 + (1 : Int32)) L) <|
        bd2 (f_X7_count N M347 (xs (ix (v3 + (1 : Int32))))) fun r352 M351 =>
        if r348 = r352 then
          (l_L_law_18 N L xs n M351 (v3 + 4))
        else
          (some ((0 : Int32), M351)))
      else (
        l_L_law_18 N L xs n M (v3 + 4)))
set_option maxRecDepth 100000 in
set_option maxHeartbeats 8000000 in
theorem law_walk {p : Program} {l : Launch} {e : Env} {s : State} {m : MethodId} {below : List Frame} {meth : Method} {c : Code} {ad : Nat → Nat} {D : va_G} {cI cJ : ClassId} {b L : Nat} {xs : Nat → Int32} (N : Nat) (X : Cx p s m meth c code 4 RL (fun q => s.heap.size ≤ q) ad D cI cJ) (S : Scr s ad b L xs) (hrr : meth.sig.returnType = ret) (M M' : Mem) (h : l_L_law_18 N L xs N M 0 = some ((1 : Int32), M')) : AW p l e room_1 s m #[Value.ref b] below meth c 4 (fun q => s.heap.size ≤ q) ad D cI cJ shp 45 45 3748 (lw_Z below #[Value.ref b] s) M 16 [(2, .ref 34), (1, .ref 0), (0, .ref 51)] [] := by
  have hnc : 45 ≤ 45 := Nat.le_refl 45
  have hkk : 45 ≤ room_1.cells ∧ 3748 ≤ room_1.slots := ⟨Nat.le_of_ble_eq_true rfl, Nat.le_of_ble_eq_true rfl⟩
  have hl18 : ∀ (n : Nat) (M : Mem) (v3 : Int32), l_L_law_18 N L xs n M v3 = some ((1 : Int32), M') → AW p l e room_1 s m #[Value.ref b] below meth c 4 (fun q => s.heap.size ≤ q) ad D cI cJ shp 45 45 3748 (lw_Z below #[Value.ref b] s) M 18 [(0, .ref 51), (1, .ref 0), (2, .ref 34), (3, .int v3)] [] := by
    intro n
    induction n with
    | zero => intro M v3 h; cases h
    | succ n ih =>
      intro M v3 h
      rw [l_L_law_18] at h
      refine r_iload_n X 3 dL_law_18 rfl rfl ?_
      refine r_aload_n X 0 dL_law_19 rfl rfl ?_
      refine r_slen X S dL_law_20 ?_
      refine r_iconst X 4 dL_law_21 rfl ?_
      refine r_isub X dL_law_22 ?_
      refine r_icgt X 880 dL_law_23 (by decide) (fun c1 => ?_) (fun c1 => ?_)
      · replace h := it_t c1 h
        refine r_iconst X 1 dL_law_880 rfl ?_
        exact r_lawret X hrr dL_law_881 h
      · replace h := it_f c1 h
        refine r_aload_n X 0 dL_law_26 rfl rfl ?_
        refine r_iload_n X 3 dL_law_27 rfl rfl ?_
        obtain ⟨c2, h⟩ := ck_ex h
        refine r_sld X S c2 dL_law_28 ?_
        refine r_bipush X 31 dL_law_29 rfl ?_
        refine r_iand X dL_law_31 ?_
        obtain ⟨x3, ex3, h⟩ := nm_ex h
        refine r_top ex3 ?_
        by_cases c4 : x3 = 0
        · replace h := it_t c4 h
          refine r_swIn X 0 c4 152 dL_law_32 (by decide) (by decide) rfl (by decide) ?_
          refine r_aload_n X 1 dL_law_152 rfl rfl ?_
          refine r_aload_n X 0 dL_law_153 rfl rfl ?_
          refine r_iload_n X 3 dL_law_154 rfl rfl ?_
          refine r_iconst X 1 dL_law_155 rfl ?_
          refine r_iadd X dL_law_156 ?_
          obtain ⟨c5, h⟩ := ck_ex h
          refine r_sld X S c5 dL_law_157 ?_
          refine r_aload_n X 0 dL_law_158 rfl rfl ?_
          refine r_iload_n X 3 dL_law_159 rfl rfl ?_
          refine r_iconst X 2 dL_law_160 rfl ?_
          refine r_iadd X dL_law_161 ?_
          obtain ⟨c6, h⟩ := ck_ex h
          refine r_sld X S c6 dL_law_162 ?_
          refine r_i2l X dL_law_163 ?_
          refine r_bipush X 32 dL_law_164 rfl ?_
          refine r_lshl X dL_law_166 ?_
          refine r_aload_n X 0 dL_law_167 rfl rfl ?_
          refine r_iload_n X 3 dL_law_168 rfl rfl ?_
          refine r_iconst X 3 dL_law_169 rfl ?_
          refine r_iadd X dL_law_170 ?_
          obtain ⟨c7, h⟩ := ck_ex h
          refine r_sld X S c7 dL_law_171 ?_
          refine r_i2l X dL_law_172 ?_
          refine r_ldc2 X w_895 dL_law_173 ?_
          refine r_land X dL_law_176 ?_
          refine r_lor X dL_law_177 ?_
          obtain ⟨r9, M8, h10, h⟩ := bd2_ex h
          refine r_callV X (st := []) (av := [.int (xs (ix (v3 + (1 : Int32)))), .long ((shl64 (Int32.toInt64 (xs (ix (v3 + (2 : Int32))))) (32 : Int32)) ||| ((Int32.toInt64 (xs (ix (v3 + (3 : Int32))))) &&& (4294967295 : Int64)))]) (k := 0) (ci := 5) (k_X6_feed l N _ (Nat.le_trans (Nat.le_of_ble_eq_true rfl) hnc) _ _ _ _ _ h10 60 (Nat.le_of_ble_eq_true rfl)) (fitR_l (Nat.le_of_ble_eq_true rfl)) hkk rfl (ltn hnc rfl) rfl w_280 w_39 w_278 w_279 w_277 hy_X6_feed rfl (Nat.le_of_ble_eq_true rfl) dL_law_178 ?_
          refine r_aload_n X 2 dL_law_181 rfl rfl ?_
          refine r_aload_n X 0 dL_law_182 rfl rfl ?_
          refine r_iload_n X 3 dL_law_183 rfl rfl ?_
          refine r_iconst X 1 dL_law_184 rfl ?_
          refine r_iadd X dL_law_185 ?_
          obtain ⟨c11, h⟩ := ck_ex h
          refine r_sld X S c11 dL_law_186 ?_
          refine r_aload_n X 0 dL_law_187 rfl rfl ?_
          refine r_iload_n X 3 dL_law_188 rfl rfl ?_
          refine r_iconst X 2 dL_law_189 rfl ?_
          refine r_iadd X dL_law_190 ?_
          obtain ⟨c12, h⟩ := ck_ex h
          refine r_sld X S c12 dL_law_191 ?_
          refine r_i2l X dL_law_192 ?_
          refine r_bipush X 32 dL_law_193 rfl ?_
          refine r_lshl X dL_law_195 ?_
          refine r_aload_n X 0 dL_law_196 rfl rfl ?_
          refine r_iload_n X 3 dL_law_197 rfl rfl ?_
          refine r_iconst X 3 dL_law_198 rfl ?_
          refine r_iadd X dL_law_199 ?_
          obtain ⟨c13, h⟩ := ck_ex h
          refine r_sld X S c13 dL_law_200 ?_
          refine r_i2l X dL_law_201 ?_
          refine r_ldc2 X w_895 dL_law_202 ?_
          refine r_land X dL_law_205 ?_
          refine r_lor X dL_law_206 ?_
          obtain ⟨r15, M14, h16, h⟩ := bd2_ex h
          refine r_callV X (st := [.int r9]) (av := [.int (xs (ix (v3 + (1 : Int32)))), .long ((shl64 (Int32.toInt64 (xs (ix (v3 + (2 : Int32))))) (32 : Int32)) ||| ((Int32.toInt64 (xs (ix (v3 + (3 : Int32))))) &&& (4294967295 : Int64)))]) (k := 34) (ci := 6) (k_X7_feed l N _ hnc _ _ _ _ _ h16 60 (Nat.le_of_ble_eq_true rfl)) (fitR_l (Nat.le_of_ble_eq_true rfl)) hkk rfl (ltn hnc rfl) rfl w_685 w_47 w_683 w_684 w_682 hy_X7_feed rfl (Nat.le_of_ble_eq_true rfl) dL_law_207 ?_
          refine r_iceq X 874 dL_law_210 (by decide) (fun c17 => ?_) (fun c17 => ?_)
          · replace h := it_t c17 h
            refine r_iinc X [(3, .int (v3 + 4)), (0, .ref 51), (1, .ref 0), (2, .ref 34)] 3 (v3 + 4) dL_law_874 rfl rfl (Nat.le_of_ble_eq_true rfl) rfl ?_
            refine r_goto X 18 dL_law_877 (by decide) ?_
            refine r_sub (ls' := [(0, .ref 51), (1, .ref 0), (2, .ref 34), (3, .int (v3 + 4))]) [1, 2, 3, 0] rfl ?_
            exact ih M14 (v3 + 4) h
          · replace h := it_f c17 h
            refine r_iconst X 0 dL_law_213 rfl ?_
            exact r_lawret X hrr dL_law_214 h
        replace h := it_f c4 h
        by_cases c18 : x3 = 1
        · replace h := it_t c18 h
          refine r_swIn X 1 c18 215 dL_law_32 (by decide) (by decide) rfl (by decide) ?_
          refine r_aload_n X 1 dL_law_215 rfl rfl ?_
          obtain ⟨r20, M19, h21, h⟩ := bd2_ex h
          refine r_callV X (st := []) (av := []) (k := 0) (ci := 5) (k_X6_row l N _ (Nat.le_trans (Nat.le_of_ble_eq_true rfl) hnc) _  _ _ h21 60 (Nat.le_of_ble_eq_true rfl)) (fitR_l (Nat.le_of_ble_eq_true rfl)) hkk rfl (ltn hnc rfl) rfl w_291 w_39 w_289 w_290 w_288 hy_X6_row rfl (Nat.le_of_ble_eq_true rfl) dL_law_216 ?_
          refine r_aload_n X 2 dL_law_219 rfl rfl ?_
          obtain ⟨r23, M22, h24, h⟩ := bd2_ex h
          refine r_callV X (st := [.int r20]) (av := []) (k := 34) (ci := 6) (k_X7_row l N _ hnc _  _ _ h24 60 (Nat.le_of_ble_eq_true rfl)) (fitR_l (Nat.le_of_ble_eq_true rfl)) hkk rfl (ltn hnc rfl) rfl w_694 w_47 w_692 w_693 w_691 hy_X7_row rfl (Nat.le_of_ble_eq_true rfl) dL_law_220 ?_
          refine r_iceq X 874 dL_law_223 (by decide) (fun c25 => ?_) (fun c25 => ?_)
          · replace h := it_t c25 h
            refine r_iinc X [(3, .int (v3 + 4)), (0, .ref 51), (1, .ref 0), (2, .ref 34)] 3 (v3 + 4) dL_law_874 rfl rfl (Nat.le_of_ble_eq_true rfl) rfl ?_
            refine r_goto X 18 dL_law_877 (by decide) ?_
            refine r_sub (ls' := [(0, .ref 51), (1, .ref 0), (2, .ref 34), (3, .int (v3 + 4))]) [1, 2, 3, 0] rfl ?_
            exact ih M22 (v3 + 4) h
          · replace h := it_f c25 h
            refine r_iconst X 0 dL_law_226 rfl ?_
            exact r_lawret X hrr dL_law_227 h
        replace h := it_f c18 h
        by_cases c26 : x3 = 2
        · replace h := it_t c26 h
          refine r_swIn X 2 c26 228 dL_law_32 (by decide) (by decide) rfl (by decide) ?_
          refine r_aload_n X 1 dL_law_228 rfl rfl ?_
          refine r_aload_n X 0 dL_law_229 rfl rfl ?_
          refine r_iload_n X 3 dL_law_230 rfl rfl ?_
          refine r_iconst X 1 dL_law_231 rfl ?_
          refine r_iadd X dL_law_232 ?_
          obtain ⟨c27, h⟩ := ck_ex h
          refine r_sld X S c27 dL_law_233 ?_
          refine r_aload_n X 0 dL_law_234 rfl rfl ?_
          refine r_iload_n X 3 dL_law_235 rfl rfl ?_
          refine r_iconst X 2 dL_law_236 rfl ?_
          refine r_iadd X dL_law_237 ?_
          obtain ⟨c28, h⟩ := ck_ex h
          refine r_sld X S c28 dL_law_238 ?_
          obtain ⟨r30, M29, h31, h⟩ := bd2_ex h
          refine r_callV X (st := []) (av := [.int (xs (ix (v3 + (1 : Int32)))), .int (xs (ix (v3 + (2 : Int32))))]) (k := 0) (ci := 5) (k_X6_box l N _ (Nat.le_trans (Nat.le_of_ble_eq_true rfl) hnc) _ _ _ _ _ h31 60 (Nat.le_of_ble_eq_true rfl)) (fitR_l (Nat.le_of_ble_eq_true rfl)) hkk rfl (ltn hnc rfl) rfl w_306 w_39 w_304 w_305 w_303 hy_X6_box rfl (Nat.le_of_ble_eq_true rfl) dL_law_239 ?_
          refine r_aload_n X 2 dL_law_242 rfl rfl ?_
          refine r_aload_n X 0 dL_law_243 rfl rfl ?_
          refine r_iload_n X 3 dL_law_244 rfl rfl ?_
          refine r_iconst X 1 dL_law_245 rfl ?_
          refine r_iadd X dL_law_246 ?_
          obtain ⟨c32, h⟩ := ck_ex h
          refine r_sld X S c32 dL_law_247 ?_
          refine r_aload_n X 0 dL_law_248 rfl rfl ?_
          refine r_iload_n X 3 dL_law_249 rfl rfl ?_
          refine r_iconst X 2 dL_law_250 rfl ?_
          refine r_iadd X dL_law_251 ?_
          obtain ⟨c33, h⟩ := ck_ex h
          refine r_sld X S c33 dL_law_252 ?_
          obtain ⟨r35, M34, h36, h⟩ := bd2_ex h
          refine r_callV X (st := [.int r30]) (av := [.int (xs (ix (v3 + (1 : Int32)))), .int (xs (ix (v3 + (2 : Int32))))]) (k := 34) (ci := 6) (k_X7_box l N _ hnc _ _ _ _ _ h36 60 (Nat.le_of_ble_eq_true rfl)) (fitR_l (Nat.le_of_ble_eq_true rfl)) hkk rfl (ltn hnc rfl) rfl w_701 w_47 w_699 w_700 w_698 hy_X7_box rfl (Nat.le_of_ble_eq_true rfl) dL_law_253 ?_
          refine r_iceq X 874 dL_law_256 (by decide) (fun c37 => ?_) (fun c37 => ?_)
          · replace h := it_t c37 h
            refine r_iinc X [(3, .int (v3 + 4)), (0, .ref 51), (1, .ref 0), (2, .ref 34)] 3 (v3 + 4) dL_law_874 rfl rfl (Nat.le_of_ble_eq_true rfl) rfl ?_
            refine r_goto X 18 dL_law_877 (by decide) ?_
            refine r_sub (ls' := [(0, .ref 51), (1, .ref 0), (2, .ref 34), (3, .int (v3 + 4))]) [1, 2, 3, 0] rfl ?_
            exact ih M34 (v3 + 4) h
          · replace h := it_f c37 h
            refine r_iconst X 0 dL_law_259 rfl ?_
            exact r_lawret X hrr dL_law_260 h
        replace h := it_f c26 h
        by_cases c38 : x3 = 3
        · replace h := it_t c38 h
          refine r_swIn X 3 c38 261 dL_law_32 (by decide) (by decide) rfl (by decide) ?_
          refine r_aload_n X 1 dL_law_261 rfl rfl ?_
          refine r_aload_n X 0 dL_law_262 rfl rfl ?_
          refine r_iload_n X 3 dL_law_263 rfl rfl ?_
          refine r_iconst X 1 dL_law_264 rfl ?_
          refine r_iadd X dL_law_265 ?_
          obtain ⟨c39, h⟩ := ck_ex h
          refine r_sld X S c39 dL_law_266 ?_
          refine r_aload_n X 0 dL_law_267 rfl rfl ?_
          refine r_iload_n X 3 dL_law_268 rfl rfl ?_
          refine r_iconst X 2 dL_law_269 rfl ?_
          refine r_iadd X dL_law_270 ?_
          obtain ⟨c40, h⟩ := ck_ex h
          refine r_sld X S c40 dL_law_271 ?_
          obtain ⟨r42, M41, h43, h⟩ := bd2_ex h
          refine r_callV X (st := []) (av := [.int (xs (ix (v3 + (1 : Int32)))), .int (xs (ix (v3 + (2 : Int32))))]) (k := 0) (ci := 5) (k_X6_size l N _ (Nat.le_trans (Nat.le_of_ble_eq_true rfl) hnc) _ _ _ _ _ h43 60 (Nat.le_of_ble_eq_true rfl)) (fitR_l (Nat.le_of_ble_eq_true rfl)) hkk rfl (ltn hnc rfl) rfl w_310 w_39 w_308 w_309 w_307 hy_X6_size rfl (Nat.le_of_ble_eq_true rfl) dL_law_272 ?_
          refine r_aload_n X 2 dL_law_275 rfl rfl ?_
          refine r_aload_n X 0 dL_law_276 rfl rfl ?_
          refine r_iload_n X 3 dL_law_277 rfl rfl ?_
          refine r_iconst X 1 dL_law_278 rfl ?_
          refine r_iadd X dL_law_279 ?_
          obtain ⟨c44, h⟩ := ck_ex h
          refine r_sld X S c44 dL_law_280 ?_
          refine r_aload_n X 0 dL_law_281 rfl rfl ?_
          refine r_iload_n X 3 dL_law_282 rfl rfl ?_
          refine r_iconst X 2 dL_law_283 rfl ?_
          refine r_iadd X dL_law_284 ?_
          obtain ⟨c45, h⟩ := ck_ex h
          refine r_sld X S c45 dL_law_285 ?_
          obtain ⟨r47, M46, h48, h⟩ := bd2_ex h
          refine r_callV X (st := [.int r42]) (av := [.int (xs (ix (v3 + (1 : Int32)))), .int (xs (ix (v3 + (2 : Int32))))]) (k := 34) (ci := 6) (k_X7_size l N _ hnc _ _ _ _ _ h48 60 (Nat.le_of_ble_eq_true rfl)) (fitR_l (Nat.le_of_ble_eq_true rfl)) hkk rfl (ltn hnc rfl) rfl w_711 w_47 w_709 w_710 w_708 hy_X7_size rfl (Nat.le_of_ble_eq_true rfl) dL_law_286 ?_
          refine r_iceq X 874 dL_law_289 (by decide) (fun c49 => ?_) (fun c49 => ?_)
          · replace h := it_t c49 h
            refine r_iinc X [(3, .int (v3 + 4)), (0, .ref 51), (1, .ref 0), (2, .ref 34)] 3 (v3 + 4) dL_law_874 rfl rfl (Nat.le_of_ble_eq_true rfl) rfl ?_
            refine r_goto X 18 dL_law_877 (by decide) ?_
            refine r_sub (ls' := [(0, .ref 51), (1, .ref 0), (2, .ref 34), (3, .int (v3 + 4))]) [1, 2, 3, 0] rfl ?_
            exact ih M46 (v3 + 4) h
          · replace h := it_f c49 h
            refine r_iconst X 0 dL_law_292 rfl ?_
            exact r_lawret X hrr dL_law_293 h
        replace h := it_f c38 h
        by_cases c50 : x3 = 4
        · replace h := it_t c50 h
          refine r_swIn X 4 c50 294 dL_law_32 (by decide) (by decide) rfl (by decide) ?_
          refine r_aload_n X 1 dL_law_294 rfl rfl ?_
          refine r_aload_n X 0 dL_law_295 rfl rfl ?_
          refine r_iload_n X 3 dL_law_296 rfl rfl ?_
          refine r_iconst X 1 dL_law_297 rfl ?_
          refine r_iadd X dL_law_298 ?_
          obtain ⟨c51, h⟩ := ck_ex h
          refine r_sld X S c51 dL_law_299 ?_
          obtain ⟨r53, M52, h54, h⟩ := bd2_ex h
          refine r_callV X (st := []) (av := [.int (xs (ix (v3 + (1 : Int32))))]) (k := 0) (ci := 5) (k_X6_piece l N _ (Nat.le_trans (Nat.le_of_ble_eq_true rfl) hnc) _ _ _ _ h54 60 (Nat.le_of_ble_eq_true rfl)) (fitR_l (Nat.le_of_ble_eq_true rfl)) hkk rfl (ltn hnc rfl) rfl w_322 w_39 w_320 w_321 w_319 hy_X6_piece rfl (Nat.le_of_ble_eq_true rfl) dL_law_300 ?_
          refine r_aload_n X 2 dL_law_303 rfl rfl ?_
          refine r_aload_n X 0 dL_law_304 rfl rfl ?_
          refine r_iload_n X 3 dL_law_305 rfl rfl ?_
          refine r_iconst X 1 dL_law_306 rfl ?_
          refine r_iadd X dL_law_307 ?_
          obtain ⟨c55, h⟩ := ck_ex h
          refine r_sld X S c55 dL_law_308 ?_
          obtain ⟨r57, M56, h58, h⟩ := bd2_ex h
          refine r_callV X (st := [.int r53]) (av := [.int (xs (ix (v3 + (1 : Int32))))]) (k := 34) (ci := 6) (k_X7_piece l N _ hnc _ _ _ _ h58 60 (Nat.le_of_ble_eq_true rfl)) (fitR_l (Nat.le_of_ble_eq_true rfl)) hkk rfl (ltn hnc rfl) rfl w_715 w_47 w_713 w_714 w_712 hy_X7_piece rfl (Nat.le_of_ble_eq_true rfl) dL_law_309 ?_
          refine r_iceq X 874 dL_law_312 (by decide) (fun c59 => ?_) (fun c59 => ?_)
          · replace h := it_t c59 h
            refine r_iinc X [(3, .int (v3 + 4)), (0, .ref 51), (1, .ref 0), (2, .ref 34)] 3 (v3 + 4) dL_law_874 rfl rfl (Nat.le_of_ble_eq_true rfl) rfl ?_
            refine r_goto X 18 dL_law_877 (by decide) ?_
            refine r_sub (ls' := [(0, .ref 51), (1, .ref 0), (2, .ref 34), (3, .int (v3 + 4))]) [1, 2, 3, 0] rfl ?_
            exact ih M56 (v3 + 4) h
          · replace h := it_f c59 h
            refine r_iconst X 0 dL_law_315 rfl ?_
            exact r_lawret X hrr dL_law_316 h
        replace h := it_f c50 h
        by_cases c60 : x3 = 5
        · replace h := it_t c60 h
          refine r_swIn X 5 c60 317 dL_law_32 (by decide) (by decide) rfl (by decide) ?_
          refine r_aload_n X 1 dL_law_317 rfl rfl ?_
          refine r_aload_n X 0 dL_law_318 rfl rfl ?_
          refine r_iload_n X 3 dL_law_319 rfl rfl ?_
          refine r_iconst X 1 dL_law_320 rfl ?_
          refine r_iadd X dL_law_321 ?_
          obtain ⟨c61, h⟩ := ck_ex h
          refine r_sld X S c61 dL_law_322 ?_
          refine r_aload_n X 0 dL_law_323 rfl rfl ?_
          refine r_iload_n X 3 dL_law_324 rfl rfl ?_
          refine r_iconst X 2 dL_law_325 rfl ?_
          refine r_iadd X dL_law_326 ?_
          obtain ⟨c62, h⟩ := ck_ex h
          refine r_sld X S c62 dL_law_327 ?_
          obtain ⟨r64, M63, h65, h⟩ := bd2_ex h
          refine r_callV X (st := []) (av := [.int (xs (ix (v3 + (1 : Int32)))), .int (xs (ix (v3 + (2 : Int32))))]) (k := 0) (ci := 5) (k_X6_joint l N _ (Nat.le_trans (Nat.le_of_ble_eq_true rfl) hnc) _ _ _ _ _ h65 60 (Nat.le_of_ble_eq_true rfl)) (fitR_l (Nat.le_of_ble_eq_true rfl)) hkk rfl (ltn hnc rfl) rfl w_326 w_39 w_324 w_325 w_323 hy_X6_joint rfl (Nat.le_of_ble_eq_true rfl) dL_law_328 ?_
          refine r_aload_n X 2 dL_law_331 rfl rfl ?_
          refine r_aload_n X 0 dL_law_332 rfl rfl ?_
          refine r_iload_n X 3 dL_law_333 rfl rfl ?_
          refine r_iconst X 1 dL_law_334 rfl ?_
          refine r_iadd X dL_law_335 ?_
          obtain ⟨c66, h⟩ := ck_ex h
          refine r_sld X S c66 dL_law_336 ?_
          refine r_aload_n X 0 dL_law_337 rfl rfl ?_
          refine r_iload_n X 3 dL_law_338 rfl rfl ?_
          refine r_iconst X 2 dL_law_339 rfl ?_
          refine r_iadd X dL_law_340 ?_
          obtain ⟨c67, h⟩ := ck_ex h
          refine r_sld X S c67 dL_law_341 ?_
          obtain ⟨r69, M68, h70, h⟩ := bd2_ex h
          refine r_callV X (st := [.int r64]) (av := [.int (xs (ix (v3 + (1 : Int32)))), .int (xs (ix (v3 + (2 : Int32))))]) (k := 34) (ci := 6) (k_X7_joint l N _ hnc _ _ _ _ _ h70 60 (Nat.le_of_ble_eq_true rfl)) (fitR_l (Nat.le_of_ble_eq_true rfl)) hkk rfl (ltn hnc rfl) rfl w_719 w_47 w_717 w_718 w_716 hy_X7_joint rfl (Nat.le_of_ble_eq_true rfl) dL_law_342 ?_
          refine r_iceq X 874 dL_law_345 (by decide) (fun c71 => ?_) (fun c71 => ?_)
          · replace h := it_t c71 h
            refine r_iinc X [(3, .int (v3 + 4)), (0, .ref 51), (1, .ref 0), (2, .ref 34)] 3 (v3 + 4) dL_law_874 rfl rfl (Nat.le_of_ble_eq_true rfl) rfl ?_
            refine r_goto X 18 dL_law_877 (by decide) ?_
            refine r_sub (ls' := [(0, .ref 51), (1, .ref 0), (2, .ref 34), (3, .int (v3 + 4))]) [1, 2, 3, 0] rfl ?_
            exact ih M68 (v3 + 4) h
          · replace h := it_f c71 h
            refine r_iconst X 0 dL_law_348 rfl ?_
            exact r_lawret X hrr dL_law_349 h
        replace h := it_f c60 h
        by_cases c72 : x3 = 6
        · replace h := it_t c72 h
          refine r_swIn X 6 c72 350 dL_law_32 (by decide) (by decide) rfl (by decide) ?_
          refine r_aload_n X 1 dL_law_350 rfl rfl ?_
          obtain ⟨r74, M73, h75, h⟩ := bd2_ex h
          refine r_callV X (st := []) (av := []) (k := 0) (ci := 5) (k_X6_closes l N _ (Nat.le_trans (Nat.le_of_ble_eq_true rfl) hnc) _  _ _ h75 60 (Nat.le_of_ble_eq_true rfl)) (fitR_l (Nat.le_of_ble_eq_true rfl)) hkk rfl (ltn hnc rfl) rfl w_356 w_39 w_354 w_355 w_353 hy_X6_closes rfl (Nat.le_of_ble_eq_true rfl) dL_law_351 ?_
          refine r_aload_n X 2 dL_law_354 rfl rfl ?_
          obtain ⟨r77, M76, h78, h⟩ := bd2_ex h
          refine r_callV X (st := [.int r74]) (av := []) (k := 34) (ci := 6) (k_X7_closes l N _ hnc _  _ _ h78 60 (Nat.le_of_ble_eq_true rfl)) (fitR_l (Nat.le_of_ble_eq_true rfl)) hkk rfl (ltn hnc rfl) rfl w_746 w_47 w_744 w_745 w_743 hy_X7_closes rfl (Nat.le_of_ble_eq_true rfl) dL_law_355 ?_
          refine r_iceq X 874 dL_law_358 (by decide) (fun c79 => ?_) (fun c79 => ?_)
          · replace h := it_t c79 h
            refine r_iinc X [(3, .int (v3 + 4)), (0, .ref 51), (1, .ref 0), (2, .ref 34)] 3 (v3 + 4) dL_law_874 rfl rfl (Nat.le_of_ble_eq_true rfl) rfl ?_
            refine r_goto X 18 dL_law_877 (by decide) ?_
            refine r_sub (ls' := [(0, .ref 51), (1, .ref 0), (2, .ref 34), (3, .int (v3 + 4))]) [1, 2, 3, 0] rfl ?_
            exact ih M76 (v3 + 4) h
          · replace h := it_f c79 h
            refine r_iconst X 0 dL_law_361 rfl ?_
            exact r_lawret X hrr dL_law_362 h
        replace h := it_f c72 h
        by_cases c80 : x3 = 7
        · replace h := it_t c80 h
          refine r_swIn X 7 c80 363 dL_law_32 (by decide) (by decide) rfl (by decide) ?_
          refine r_aload_n X 1 dL_law_363 rfl rfl ?_
          obtain ⟨r82, M81, h83, h⟩ := bd2_ex h
          refine r_callV X (st := []) (av := []) (k := 0) (ci := 5) (k_X6_uses l N _ (Nat.le_trans (Nat.le_of_ble_eq_true rfl) hnc) _  _ _ h83 60 (Nat.le_of_ble_eq_true rfl)) (fitR_l (Nat.le_of_ble_eq_true rfl)) hkk rfl (ltn hnc rfl) rfl w_372 w_39 w_370 w_371 w_369 hy_X6_uses rfl (Nat.le_of_ble_eq_true rfl) dL_law_364 ?_
          refine r_aload_n X 2 dL_law_367 rfl rfl ?_
          obtain ⟨r85, M84, h86, h⟩ := bd2_ex h
          refine r_callV X (st := [.int r82]) (av := []) (k := 34) (ci := 6) (k_X7_uses l N _ hnc _  _ _ h86 60 (Nat.le_of_ble_eq_true rfl)) (fitR_l (Nat.le_of_ble_eq_true rfl)) hkk rfl (ltn hnc rfl) rfl w_758 w_47 w_756 w_757 w_755 hy_X7_uses rfl (Nat.le_of_ble_eq_true rfl) dL_law_368 ?_
          refine r_iceq X 874 dL_law_371 (by decide) (fun c87 => ?_) (fun c87 => ?_)
          · replace h := it_t c87 h
            refine r_iinc X [(3, .int (v3 + 4)), (0, .ref 51), (1, .ref 0), (2, .ref 34)] 3 (v3 + 4) dL_law_874 rfl rfl (Nat.le_of_ble_eq_true rfl) rfl ?_
            refine r_goto X 18 dL_law_877 (by decide) ?_
            refine r_sub (ls' := [(0, .ref 51), (1, .ref 0), (2, .ref 34), (3, .int (v3 + 4))]) [1, 2, 3, 0] rfl ?_
            exact ih M84 (v3 + 4) h
          · replace h := it_f c87 h
            refine r_iconst X 0 dL_law_374 rfl ?_
            exact r_lawret X hrr dL_law_375 h
        replace h := it_f c80 h
        by_cases c88 : x3 = 8
        · replace h := it_t c88 h
          refine r_swIn X 8 c88 376 dL_law_32 (by decide) (by decide) rfl (by decide) ?_
          refine r_aload_n X 1 dL_law_376 rfl rfl ?_
          refine r_aload_n X 0 dL_law_377 rfl rfl ?_
          refine r_iload_n X 3 dL_law_378 rfl rfl ?_
          refine r_iconst X 1 dL_law_379 rfl ?_
          refine r_iadd X dL_law_380 ?_
          obtain ⟨c89, h⟩ := ck_ex h
          refine r_sld X S c89 dL_law_381 ?_
          refine r_aload_n X 0 dL_law_382 rfl rfl ?_
          refine r_iload_n X 3 dL_law_383 rfl rfl ?_
          refine r_iconst X 2 dL_law_384 rfl ?_
          refine r_iadd X dL_law_385 ?_
          obtain ⟨c90, h⟩ := ck_ex h
          refine r_sld X S c90 dL_law_386 ?_
          obtain ⟨r92, M91, h93, h⟩ := bd2_ex h
          refine r_callV X (st := []) (av := [.int (xs (ix (v3 + (1 : Int32)))), .int (xs (ix (v3 + (2 : Int32))))]) (k := 0) (ci := 5) (k_X6_sign l N _ (Nat.le_trans (Nat.le_of_ble_eq_true rfl) hnc) _ _ _ _ _ h93 60 (Nat.le_of_ble_eq_true rfl)) (fitR_l (Nat.le_of_ble_eq_true rfl)) hkk rfl (ltn hnc rfl) rfl w_387 w_39 w_385 w_386 w_384 hy_X6_sign rfl (Nat.le_of_ble_eq_true rfl) dL_law_387 ?_
          refine r_aload_n X 2 dL_law_390 rfl rfl ?_
          refine r_aload_n X 0 dL_law_391 rfl rfl ?_
          refine r_iload_n X 3 dL_law_392 rfl rfl ?_
          refine r_iconst X 1 dL_law_393 rfl ?_
          refine r_iadd X dL_law_394 ?_
          obtain ⟨c94, h⟩ := ck_ex h
          refine r_sld X S c94 dL_law_395 ?_
          refine r_aload_n X 0 dL_law_396 rfl rfl ?_
          refine r_iload_n X 3 dL_law_397 rfl rfl ?_
          refine r_iconst X 2 dL_law_398 rfl ?_
          refine r_iadd X dL_law_399 ?_
          obtain ⟨c95, h⟩ := ck_ex h
          refine r_sld X S c95 dL_law_400 ?_
          obtain ⟨r97, M96, h98, h⟩ := bd2_ex h
          refine r_callV X (st := [.int r92]) (av := [.int (xs (ix (v3 + (1 : Int32)))), .int (xs (ix (v3 + (2 : Int32))))]) (k := 34) (ci := 6) (k_X7_sign l N _ hnc _ _ _ _ _ h98 60 (Nat.le_of_ble_eq_true rfl)) (fitR_l (Nat.le_of_ble_eq_true rfl)) hkk rfl (ltn hnc rfl) rfl w_762 w_47 w_760 w_761 w_759 hy_X7_sign rfl (Nat.le_of_ble_eq_true rfl) dL_law_401 ?_
          refine r_iceq X 874 dL_law_404 (by decide) (fun c99 => ?_) (fun c99 => ?_)
          · replace h := it_t c99 h
            refine r_iinc X [(3, .int (v3 + 4)), (0, .ref 51), (1, .ref 0), (2, .ref 34)] 3 (v3 + 4) dL_law_874 rfl rfl (Nat.le_of_ble_eq_true rfl) rfl ?_
            refine r_goto X 18 dL_law_877 (by decide) ?_
            refine r_sub (ls' := [(0, .ref 51), (1, .ref 0), (2, .ref 34), (3, .int (v3 + 4))]) [1, 2, 3, 0] rfl ?_
            exact ih M96 (v3 + 4) h
          · replace h := it_f c99 h
            refine r_iconst X 0 dL_law_407 rfl ?_
            exact r_lawret X hrr dL_law_408 h
        replace h := it_f c88 h
        by_cases c100 : x3 = 9
        · replace h := it_t c100 h
          refine r_swIn X 9 c100 409 dL_law_32 (by decide) (by decide) rfl (by decide) ?_
          refine r_aload_n X 1 dL_law_409 rfl rfl ?_
          refine r_aload_n X 0 dL_law_410 rfl rfl ?_
          refine r_iload_n X 3 dL_law_411 rfl rfl ?_
          refine r_iconst X 1 dL_law_412 rfl ?_
          refine r_iadd X dL_law_413 ?_
          obtain ⟨c101, h⟩ := ck_ex h
          refine r_sld X S c101 dL_law_414 ?_
          obtain ⟨r103, M102, h104, h⟩ := bd2_ex h
          refine r_callV X (st := []) (av := [.int (xs (ix (v3 + (1 : Int32))))]) (k := 0) (ci := 5) (k_X6_gap l N _ (Nat.le_trans (Nat.le_of_ble_eq_true rfl) hnc) _ _ _ _ h104 60 (Nat.le_of_ble_eq_true rfl)) (fitR_l (Nat.le_of_ble_eq_true rfl)) hkk rfl (ltn hnc rfl) rfl w_397 w_39 w_395 w_396 w_394 hy_X6_gap rfl (Nat.le_of_ble_eq_true rfl) dL_law_415 ?_
          refine r_aload_n X 2 dL_law_418 rfl rfl ?_
          refine r_aload_n X 0 dL_law_419 rfl rfl ?_
          refine r_iload_n X 3 dL_law_420 rfl rfl ?_
          refine r_iconst X 1 dL_law_421 rfl ?_
          refine r_iadd X dL_law_422 ?_
          obtain ⟨c105, h⟩ := ck_ex h
          refine r_sld X S c105 dL_law_423 ?_
          obtain ⟨r107, M106, h108, h⟩ := bd2_ex h
          refine r_callV X (st := [.int r103]) (av := [.int (xs (ix (v3 + (1 : Int32))))]) (k := 34) (ci := 6) (k_X7_gap l N _ hnc _ _ _ _ h108 60 (Nat.le_of_ble_eq_true rfl)) (fitR_l (Nat.le_of_ble_eq_true rfl)) hkk rfl (ltn hnc rfl) rfl w_775 w_47 w_773 w_774 w_772 hy_X7_gap rfl (Nat.le_of_ble_eq_true rfl) dL_law_424 ?_
          refine r_iceq X 874 dL_law_427 (by decide) (fun c109 => ?_) (fun c109 => ?_)
          · replace h := it_t c109 h
            refine r_iinc X [(3, .int (v3 + 4)), (0, .ref 51), (1, .ref 0), (2, .ref 34)] 3 (v3 + 4) dL_law_874 rfl rfl (Nat.le_of_ble_eq_true rfl) rfl ?_
            refine r_goto X 18 dL_law_877 (by decide) ?_
            refine r_sub (ls' := [(0, .ref 51), (1, .ref 0), (2, .ref 34), (3, .int (v3 + 4))]) [1, 2, 3, 0] rfl ?_
            exact ih M106 (v3 + 4) h
          · replace h := it_f c109 h
            refine r_iconst X 0 dL_law_430 rfl ?_
            exact r_lawret X hrr dL_law_431 h
        replace h := it_f c100 h
        by_cases c110 : x3 = 10
        · replace h := it_t c110 h
          refine r_swIn X 10 c110 432 dL_law_32 (by decide) (by decide) rfl (by decide) ?_
          refine r_aload_n X 1 dL_law_432 rfl rfl ?_
          refine r_aload_n X 0 dL_law_433 rfl rfl ?_
          refine r_iload_n X 3 dL_law_434 rfl rfl ?_
          refine r_iconst X 1 dL_law_435 rfl ?_
          refine r_iadd X dL_law_436 ?_
          obtain ⟨c111, h⟩ := ck_ex h
          refine r_sld X S c111 dL_law_437 ?_
          refine r_aload_n X 0 dL_law_438 rfl rfl ?_
          refine r_iload_n X 3 dL_law_439 rfl rfl ?_
          refine r_iconst X 2 dL_law_440 rfl ?_
          refine r_iadd X dL_law_441 ?_
          obtain ⟨c112, h⟩ := ck_ex h
          refine r_sld X S c112 dL_law_442 ?_
          obtain ⟨r114, M113, h115, h⟩ := bd2_ex h
          refine r_callV X (st := []) (av := [.int (xs (ix (v3 + (1 : Int32)))), .int (xs (ix (v3 + (2 : Int32))))]) (k := 0) (ci := 5) (k_X6_nearer l N _ (Nat.le_trans (Nat.le_of_ble_eq_true rfl) hnc) _ _ _ _ _ h115 60 (Nat.le_of_ble_eq_true rfl)) (fitR_l (Nat.le_of_ble_eq_true rfl)) hkk rfl (ltn hnc rfl) rfl w_409 w_39 w_407 w_408 w_406 hy_X6_nearer rfl (Nat.le_of_ble_eq_true rfl) dL_law_443 ?_
          refine r_aload_n X 2 dL_law_446 rfl rfl ?_
          refine r_aload_n X 0 dL_law_447 rfl rfl ?_
          refine r_iload_n X 3 dL_law_448 rfl rfl ?_
          refine r_iconst X 1 dL_law_449 rfl ?_
          refine r_iadd X dL_law_450 ?_
          obtain ⟨c116, h⟩ := ck_ex h
          refine r_sld X S c116 dL_law_451 ?_
          refine r_aload_n X 0 dL_law_452 rfl rfl ?_
          refine r_iload_n X 3 dL_law_453 rfl rfl ?_
          refine r_iconst X 2 dL_law_454 rfl ?_
          refine r_iadd X dL_law_455 ?_
          obtain ⟨c117, h⟩ := ck_ex h
          refine r_sld X S c117 dL_law_456 ?_
          obtain ⟨r119, M118, h120, h⟩ := bd2_ex h
          refine r_callV X (st := [.int r114]) (av := [.int (xs (ix (v3 + (1 : Int32)))), .int (xs (ix (v3 + (2 : Int32))))]) (k := 34) (ci := 6) (k_X7_nearer l N _ hnc _ _ _ _ _ h120 60 (Nat.le_of_ble_eq_true rfl)) (fitR_l (Nat.le_of_ble_eq_true rfl)) hkk rfl (ltn hnc rfl) rfl w_783 w_47 w_781 w_782 w_780 hy_X7_nearer rfl (Nat.le_of_ble_eq_true rfl) dL_law_457 ?_
          refine r_iceq X 874 dL_law_460 (by decide) (fun c121 => ?_) (fun c121 => ?_)
          · replace h := it_t c121 h
            refine r_iinc X [(3, .int (v3 + 4)), (0, .ref 51), (1, .ref 0), (2, .ref 34)] 3 (v3 + 4) dL_law_874 rfl rfl (Nat.le_of_ble_eq_true rfl) rfl ?_
            refine r_goto X 18 dL_law_877 (by decide) ?_
            refine r_sub (ls' := [(0, .ref 51), (1, .ref 0), (2, .ref 34), (3, .int (v3 + 4))]) [1, 2, 3, 0] rfl ?_
            exact ih M118 (v3 + 4) h
          · replace h := it_f c121 h
            refine r_iconst X 0 dL_law_463 rfl ?_
            exact r_lawret X hrr dL_law_464 h
        replace h := it_f c110 h
        by_cases c122 : x3 = 11
        · replace h := it_t c122 h
          refine r_swIn X 11 c122 465 dL_law_32 (by decide) (by decide) rfl (by decide) ?_
          refine r_aload_n X 1 dL_law_465 rfl rfl ?_
          refine r_aload_n X 0 dL_law_466 rfl rfl ?_
          refine r_iload_n X 3 dL_law_467 rfl rfl ?_
          refine r_iconst X 1 dL_law_468 rfl ?_
          refine r_iadd X dL_law_469 ?_
          obtain ⟨c123, h⟩ := ck_ex h
          refine r_sld X S c123 dL_law_470 ?_
          refine r_aload_n X 0 dL_law_471 rfl rfl ?_
          refine r_iload_n X 3 dL_law_472 rfl rfl ?_
          refine r_iconst X 2 dL_law_473 rfl ?_
          refine r_iadd X dL_law_474 ?_
          obtain ⟨c124, h⟩ := ck_ex h
          refine r_sld X S c124 dL_law_475 ?_
          obtain ⟨r126, M125, h127, h⟩ := bd2_ex h
          refine r_callV X (st := []) (av := [.int (xs (ix (v3 + (1 : Int32)))), .int (xs (ix (v3 + (2 : Int32))))]) (k := 0) (ci := 5) (k_X6_table l N _ (Nat.le_trans (Nat.le_of_ble_eq_true rfl) hnc) _ _ _ _ _ h127 60 (Nat.le_of_ble_eq_true rfl)) (fitR_l (Nat.le_of_ble_eq_true rfl)) hkk rfl (ltn hnc rfl) rfl w_413 w_39 w_411 w_412 w_410 hy_X6_table rfl (Nat.le_of_ble_eq_true rfl) dL_law_476 ?_
          refine r_aload_n X 2 dL_law_479 rfl rfl ?_
          refine r_aload_n X 0 dL_law_480 rfl rfl ?_
          refine r_iload_n X 3 dL_law_481 rfl rfl ?_
          refine r_iconst X 1 dL_law_482 rfl ?_
          refine r_iadd X dL_law_483 ?_
          obtain ⟨c128, h⟩ := ck_ex h
          refine r_sld X S c128 dL_law_484 ?_
          refine r_aload_n X 0 dL_law_485 rfl rfl ?_
          refine r_iload_n X 3 dL_law_486 rfl rfl ?_
          refine r_iconst X 2 dL_law_487 rfl ?_
          refine r_iadd X dL_law_488 ?_
          obtain ⟨c129, h⟩ := ck_ex h
          refine r_sld X S c129 dL_law_489 ?_
          obtain ⟨r131, M130, h132, h⟩ := bd2_ex h
          refine r_callV X (st := [.int r126]) (av := [.int (xs (ix (v3 + (1 : Int32)))), .int (xs (ix (v3 + (2 : Int32))))]) (k := 34) (ci := 6) (k_X7_table l N _ hnc _ _ _ _ _ h132 60 (Nat.le_of_ble_eq_true rfl)) (fitR_l (Nat.le_of_ble_eq_true rfl)) hkk rfl (ltn hnc rfl) rfl w_787 w_47 w_785 w_786 w_784 hy_X7_table rfl (Nat.le_of_ble_eq_true rfl) dL_law_490 ?_
          refine r_iceq X 874 dL_law_493 (by decide) (fun c133 => ?_) (fun c133 => ?_)
          · replace h := it_t c133 h
            refine r_iinc X [(3, .int (v3 + 4)), (0, .ref 51), (1, .ref 0), (2, .ref 34)] 3 (v3 + 4) dL_law_874 rfl rfl (Nat.le_of_ble_eq_true rfl) rfl ?_
            refine r_goto X 18 dL_law_877 (by decide) ?_
            refine r_sub (ls' := [(0, .ref 51), (1, .ref 0), (2, .ref 34), (3, .int (v3 + 4))]) [1, 2, 3, 0] rfl ?_
            exact ih M130 (v3 + 4) h
          · replace h := it_f c133 h
            refine r_iconst X 0 dL_law_496 rfl ?_
            exact r_lawret X hrr dL_law_497 h
        replace h := it_f c122 h
        by_cases c134 : x3 = 12
        · replace h := it_t c134 h
          refine r_swIn X 12 c134 498 dL_law_32 (by decide) (by decide) rfl (by decide) ?_
          refine r_aload_n X 1 dL_law_498 rfl rfl ?_
          refine r_aload_n X 0 dL_law_499 rfl rfl ?_
          refine r_iload_n X 3 dL_law_500 rfl rfl ?_
          refine r_iconst X 1 dL_law_501 rfl ?_
          refine r_iadd X dL_law_502 ?_
          obtain ⟨c135, h⟩ := ck_ex h
          refine r_sld X S c135 dL_law_503 ?_
          refine r_aload_n X 0 dL_law_504 rfl rfl ?_
          refine r_iload_n X 3 dL_law_505 rfl rfl ?_
          refine r_iconst X 2 dL_law_506 rfl ?_
          refine r_iadd X dL_law_507 ?_
          obtain ⟨c136, h⟩ := ck_ex h
          refine r_sld X S c136 dL_law_508 ?_
          obtain ⟨r138, M137, h139, h⟩ := bd2_ex h
          refine r_callV X (st := []) (av := [.int (xs (ix (v3 + (1 : Int32)))), .int (xs (ix (v3 + (2 : Int32))))]) (k := 0) (ci := 5) (k_X6_leg l N _ (Nat.le_trans (Nat.le_of_ble_eq_true rfl) hnc) _ _ _ _ _ h139 60 (Nat.le_of_ble_eq_true rfl)) (fitR_l (Nat.le_of_ble_eq_true rfl)) hkk rfl (ltn hnc rfl) rfl w_417 w_39 w_415 w_416 w_414 hy_X6_leg rfl (Nat.le_of_ble_eq_true rfl) dL_law_509 ?_
          refine r_aload_n X 2 dL_law_512 rfl rfl ?_
          refine r_aload_n X 0 dL_law_513 rfl rfl ?_
          refine r_iload_n X 3 dL_law_514 rfl rfl ?_
          refine r_iconst X 1 dL_law_515 rfl ?_
          refine r_iadd X dL_law_516 ?_
          obtain ⟨c140, h⟩ := ck_ex h
          refine r_sld X S c140 dL_law_517 ?_
          refine r_aload_n X 0 dL_law_518 rfl rfl ?_
          refine r_iload_n X 3 dL_law_519 rfl rfl ?_
          refine r_iconst X 2 dL_law_520 rfl ?_
          refine r_iadd X dL_law_521 ?_
          obtain ⟨c141, h⟩ := ck_ex h
          refine r_sld X S c141 dL_law_522 ?_
          obtain ⟨r143, M142, h144, h⟩ := bd2_ex h
          refine r_callV X (st := [.int r138]) (av := [.int (xs (ix (v3 + (1 : Int32)))), .int (xs (ix (v3 + (2 : Int32))))]) (k := 34) (ci := 6) (k_X7_leg l N _ hnc _ _ _ _ _ h144 60 (Nat.le_of_ble_eq_true rfl)) (fitR_l (Nat.le_of_ble_eq_true rfl)) hkk rfl (ltn hnc rfl) rfl w_791 w_47 w_789 w_790 w_788 hy_X7_leg rfl (Nat.le_of_ble_eq_true rfl) dL_law_523 ?_
          refine r_iceq X 874 dL_law_526 (by decide) (fun c145 => ?_) (fun c145 => ?_)
          · replace h := it_t c145 h
            refine r_iinc X [(3, .int (v3 + 4)), (0, .ref 51), (1, .ref 0), (2, .ref 34)] 3 (v3 + 4) dL_law_874 rfl rfl (Nat.le_of_ble_eq_true rfl) rfl ?_
            refine r_goto X 18 dL_law_877 (by decide) ?_
            refine r_sub (ls' := [(0, .ref 51), (1, .ref 0), (2, .ref 34), (3, .int (v3 + 4))]) [1, 2, 3, 0] rfl ?_
            exact ih M142 (v3 + 4) h
          · replace h := it_f c145 h
            refine r_iconst X 0 dL_law_529 rfl ?_
            exact r_lawret X hrr dL_law_530 h
        replace h := it_f c134 h
        by_cases c146 : x3 = 13
        · replace h := it_t c146 h
          refine r_swIn X 13 c146 531 dL_law_32 (by decide) (by decide) rfl (by decide) ?_
          refine r_aload_n X 1 dL_law_531 rfl rfl ?_
          obtain ⟨r148, M147, h149, h⟩ := bd2_ex h
          refine r_callV X (st := []) (av := []) (k := 0) (ci := 5) (k_X6_off l N _ (Nat.le_trans (Nat.le_of_ble_eq_true rfl) hnc) _  _ _ h149 60 (Nat.le_of_ble_eq_true rfl)) (fitR_l (Nat.le_of_ble_eq_true rfl)) hkk rfl (ltn hnc rfl) rfl w_421 w_39 w_419 w_420 w_418 hy_X6_off rfl (Nat.le_of_ble_eq_true rfl) dL_law_532 ?_
          refine r_aload_n X 2 dL_law_535 rfl rfl ?_
          obtain ⟨r151, M150, h152, h⟩ := bd2_ex h
          refine r_callV X (st := [.int r148]) (av := []) (k := 34) (ci := 6) (k_X7_off l N _ hnc _  _ _ h152 60 (Nat.le_of_ble_eq_true rfl)) (fitR_l (Nat.le_of_ble_eq_true rfl)) hkk rfl (ltn hnc rfl) rfl w_795 w_47 w_793 w_794 w_792 hy_X7_off rfl (Nat.le_of_ble_eq_true rfl) dL_law_536 ?_
          refine r_iceq X 874 dL_law_539 (by decide) (fun c153 => ?_) (fun c153 => ?_)
          · replace h := it_t c153 h
            refine r_iinc X [(3, .int (v3 + 4)), (0, .ref 51), (1, .ref 0), (2, .ref 34)] 3 (v3 + 4) dL_law_874 rfl rfl (Nat.le_of_ble_eq_true rfl) rfl ?_
            refine r_goto X 18 dL_law_877 (by decide) ?_
            refine r_sub (ls' := [(0, .ref 51), (1, .ref 0), (2, .ref 34), (3, .int (v3 + 4))]) [1, 2, 3, 0] rfl ?_
            exact ih M150 (v3 + 4) h
          · replace h := it_f c153 h
            refine r_iconst X 0 dL_law_542 rfl ?_
            exact r_lawret X hrr dL_law_543 h
        replace h := it_f c146 h
        by_cases c154 : x3 = 14
        · replace h := it_t c154 h
          refine r_swIn X 14 c154 544 dL_law_32 (by decide) (by decide) rfl (by decide) ?_
          refine r_aload_n X 1 dL_law_544 rfl rfl ?_
          obtain ⟨r156, M155, h157, h⟩ := bd2_ex h
          refine r_callV X (st := []) (av := []) (k := 0) (ci := 5) (k_X6_touches l N _ (Nat.le_trans (Nat.le_of_ble_eq_true rfl) hnc) _  _ _ h157 60 (Nat.le_of_ble_eq_true rfl)) (fitR_l (Nat.le_of_ble_eq_true rfl)) hkk rfl (ltn hnc rfl) rfl w_441 w_39 w_439 w_440 w_438 hy_X6_touches rfl (Nat.le_of_ble_eq_true rfl) dL_law_545 ?_
          refine r_aload_n X 2 dL_law_548 rfl rfl ?_
          obtain ⟨r159, M158, h160, h⟩ := bd2_ex h
          refine r_callV X (st := [.int r156]) (av := []) (k := 34) (ci := 6) (k_X7_touches l N _ hnc _  _ _ h160 60 (Nat.le_of_ble_eq_true rfl)) (fitR_l (Nat.le_of_ble_eq_true rfl)) hkk rfl (ltn hnc rfl) rfl w_807 w_47 w_805 w_806 w_804 hy_X7_touches rfl (Nat.le_of_ble_eq_true rfl) dL_law_549 ?_
          refine r_iceq X 874 dL_law_552 (by decide) (fun c161 => ?_) (fun c161 => ?_)
          · replace h := it_t c161 h
            refine r_iinc X [(3, .int (v3 + 4)), (0, .ref 51), (1, .ref 0), (2, .ref 34)] 3 (v3 + 4) dL_law_874 rfl rfl (Nat.le_of_ble_eq_true rfl) rfl ?_
            refine r_goto X 18 dL_law_877 (by decide) ?_
            refine r_sub (ls' := [(0, .ref 51), (1, .ref 0), (2, .ref 34), (3, .int (v3 + 4))]) [1, 2, 3, 0] rfl ?_
            exact ih M158 (v3 + 4) h
          · replace h := it_f c161 h
            refine r_iconst X 0 dL_law_555 rfl ?_
            exact r_lawret X hrr dL_law_556 h
        replace h := it_f c154 h
        by_cases c162 : x3 = 15
        · replace h := it_t c162 h
          refine r_swIn X 15 c162 557 dL_law_32 (by decide) (by decide) rfl (by decide) ?_
          refine r_aload_n X 1 dL_law_557 rfl rfl ?_
          obtain ⟨r164, M163, h165, h⟩ := bd2_ex h
          refine r_callV X (st := []) (av := []) (k := 0) (ci := 5) (k_X6_lies l N _ (Nat.le_trans (Nat.le_of_ble_eq_true rfl) hnc) _  _ _ h165 60 (Nat.le_of_ble_eq_true rfl)) (fitR_l (Nat.le_of_ble_eq_true rfl)) hkk rfl (ltn hnc rfl) rfl w_454 w_39 w_452 w_453 w_451 hy_X6_lies rfl (Nat.le_of_ble_eq_true rfl) dL_law_558 ?_
          refine r_aload_n X 2 dL_law_561 rfl rfl ?_
          obtain ⟨r167, M166, h168, h⟩ := bd2_ex h
          refine r_callV X (st := [.int r164]) (av := []) (k := 34) (ci := 6) (k_X7_lies l N _ hnc _  _ _ h168 60 (Nat.le_of_ble_eq_true rfl)) (fitR_l (Nat.le_of_ble_eq_true rfl)) hkk rfl (ltn hnc rfl) rfl w_819 w_47 w_817 w_818 w_816 hy_X7_lies rfl (Nat.le_of_ble_eq_true rfl) dL_law_562 ?_
          refine r_iceq X 874 dL_law_565 (by decide) (fun c169 => ?_) (fun c169 => ?_)
          · replace h := it_t c169 h
            refine r_iinc X [(3, .int (v3 + 4)), (0, .ref 51), (1, .ref 0), (2, .ref 34)] 3 (v3 + 4) dL_law_874 rfl rfl (Nat.le_of_ble_eq_true rfl) rfl ?_
            refine r_goto X 18 dL_law_877 (by decide) ?_
            refine r_sub (ls' := [(0, .ref 51), (1, .ref 0), (2, .ref 34), (3, .int (v3 + 4))]) [1, 2, 3, 0] rfl ?_
            exact ih M166 (v3 + 4) h
          · replace h := it_f c169 h
            refine r_iconst X 0 dL_law_568 rfl ?_
            exact r_lawret X hrr dL_law_569 h
        replace h := it_f c162 h
        by_cases c170 : x3 = 16
        · replace h := it_t c170 h
          refine r_swIn X 16 c170 570 dL_law_32 (by decide) (by decide) rfl (by decide) ?_
          refine r_aload_n X 1 dL_law_570 rfl rfl ?_
          refine r_aload_n X 0 dL_law_571 rfl rfl ?_
          refine r_iload_n X 3 dL_law_572 rfl rfl ?_
          refine r_iconst X 1 dL_law_573 rfl ?_
          refine r_iadd X dL_law_574 ?_
          obtain ⟨c171, h⟩ := ck_ex h
          refine r_sld X S c171 dL_law_575 ?_
          refine r_aload_n X 0 dL_law_576 rfl rfl ?_
          refine r_iload_n X 3 dL_law_577 rfl rfl ?_
          refine r_iconst X 2 dL_law_578 rfl ?_
          refine r_iadd X dL_law_579 ?_
          obtain ⟨c172, h⟩ := ck_ex h
          refine r_sld X S c172 dL_law_580 ?_
          refine r_ifeq X 588 dL_law_581 (by decide) (fun c173 => ?_) (fun c173 => ?_)
          · replace h := it_t c173 h
            refine r_iconst X 0 dL_law_588 rfl ?_
            obtain ⟨r175, M174, h176, h⟩ := bd2_ex h
            refine r_callV X (st := []) (av := [.int (xs (ix (v3 + (1 : Int32)))), .int (0 : Int32)]) (k := 0) (ci := 5) (k_X6_rings l N _ (Nat.le_trans (Nat.le_of_ble_eq_true rfl) hnc) _ _ _ _ _ h176 60 (Nat.le_of_ble_eq_true rfl)) (fitR_l (Nat.le_of_ble_eq_true rfl)) hkk rfl (ltn hnc rfl) rfl w_458 w_39 w_456 w_457 w_455 hy_X6_rings rfl (Nat.le_of_ble_eq_true rfl) dL_law_589 ?_
            refine r_aload_n X 2 dL_law_592 rfl rfl ?_
            refine r_aload_n X 0 dL_law_593 rfl rfl ?_
            refine r_iload_n X 3 dL_law_594 rfl rfl ?_
            refine r_iconst X 1 dL_law_595 rfl ?_
            refine r_iadd X dL_law_596 ?_
            obtain ⟨c177, h⟩ := ck_ex h
            refine r_sld X S c177 dL_law_597 ?_
            refine r_aload_n X 0 dL_law_598 rfl rfl ?_
            refine r_iload_n X 3 dL_law_599 rfl rfl ?_
            refine r_iconst X 2 dL_law_600 rfl ?_
            refine r_iadd X dL_law_601 ?_
            obtain ⟨c178, h⟩ := ck_ex h
            refine r_sld X S c178 dL_law_602 ?_
            refine r_ifeq X 610 dL_law_603 (by decide) (fun c179 => ?_) (fun c179 => ?_)
            · replace h := it_t c179 h
              refine r_iconst X 0 dL_law_610 rfl ?_
              obtain ⟨r181, M180, h182, h⟩ := bd2_ex h
              refine r_callV X (st := [.int r175]) (av := [.int (xs (ix (v3 + (1 : Int32)))), .int (0 : Int32)]) (k := 34) (ci := 6) (k_X7_rings_ l N _ hnc _ _ _ _ _ h182 60 (Nat.le_of_ble_eq_true rfl)) (fitR_l (Nat.le_of_ble_eq_true rfl)) hkk rfl (ltn hnc rfl) rfl w_827 w_47 w_825 w_826 w_824 hy_X7_rings_ rfl (Nat.le_of_ble_eq_true rfl) dL_law_611 ?_
              refine r_iceq X 874 dL_law_614 (by decide) (fun c183 => ?_) (fun c183 => ?_)
              · replace h := it_t c183 h
                refine r_iinc X [(3, .int (v3 + 4)), (0, .ref 51), (1, .ref 0), (2, .ref 34)] 3 (v3 + 4) dL_law_874 rfl rfl (Nat.le_of_ble_eq_true rfl) rfl ?_
                refine r_goto X 18 dL_law_877 (by decide) ?_
                refine r_sub (ls' := [(0, .ref 51), (1, .ref 0), (2, .ref 34), (3, .int (v3 + 4))]) [1, 2, 3, 0] rfl ?_
                exact ih M180 (v3 + 4) h
              · replace h := it_f c183 h
                refine r_iconst X 0 dL_law_617 rfl ?_
                exact r_lawret X hrr dL_law_618 h
            · replace h := it_f c179 h
              refine r_iconst X 1 dL_law_606 rfl ?_
              refine r_goto X 611 dL_law_607 (by decide) ?_
              obtain ⟨r185, M184, h186, h⟩ := bd2_ex h
              refine r_callV X (st := [.int r175]) (av := [.int (xs (ix (v3 + (1 : Int32)))), .int (1 : Int32)]) (k := 34) (ci := 6) (k_X7_rings_ l N _ hnc _ _ _ _ _ h186 60 (Nat.le_of_ble_eq_true rfl)) (fitR_l (Nat.le_of_ble_eq_true rfl)) hkk rfl (ltn hnc rfl) rfl w_827 w_47 w_825 w_826 w_824 hy_X7_rings_ rfl (Nat.le_of_ble_eq_true rfl) dL_law_611 ?_
              refine r_iceq X 874 dL_law_614 (by decide) (fun c187 => ?_) (fun c187 => ?_)
              · replace h := it_t c187 h
                refine r_iinc X [(3, .int (v3 + 4)), (0, .ref 51), (1, .ref 0), (2, .ref 34)] 3 (v3 + 4) dL_law_874 rfl rfl (Nat.le_of_ble_eq_true rfl) rfl ?_
                refine r_goto X 18 dL_law_877 (by decide) ?_
                refine r_sub (ls' := [(0, .ref 51), (1, .ref 0), (2, .ref 34), (3, .int (v3 + 4))]) [1, 2, 3, 0] rfl ?_
                exact ih M184 (v3 + 4) h
              · replace h := it_f c187 h
                refine r_iconst X 0 dL_law_617 rfl ?_
                exact r_lawret X hrr dL_law_618 h
          · replace h := it_f c173 h
            refine r_iconst X 1 dL_law_584 rfl ?_
            refine r_goto X 589 dL_law_585 (by decide) ?_
            obtain ⟨r189, M188, h190, h⟩ := bd2_ex h
            refine r_callV X (st := []) (av := [.int (xs (ix (v3 + (1 : Int32)))), .int (1 : Int32)]) (k := 0) (ci := 5) (k_X6_rings l N _ (Nat.le_trans (Nat.le_of_ble_eq_true rfl) hnc) _ _ _ _ _ h190 60 (Nat.le_of_ble_eq_true rfl)) (fitR_l (Nat.le_of_ble_eq_true rfl)) hkk rfl (ltn hnc rfl) rfl w_458 w_39 w_456 w_457 w_455 hy_X6_rings rfl (Nat.le_of_ble_eq_true rfl) dL_law_589 ?_
            refine r_aload_n X 2 dL_law_592 rfl rfl ?_
            refine r_aload_n X 0 dL_law_593 rfl rfl ?_
            refine r_iload_n X 3 dL_law_594 rfl rfl ?_
            refine r_iconst X 1 dL_law_595 rfl ?_
            refine r_iadd X dL_law_596 ?_
            obtain ⟨c191, h⟩ := ck_ex h
            refine r_sld X S c191 dL_law_597 ?_
            refine r_aload_n X 0 dL_law_598 rfl rfl ?_
            refine r_iload_n X 3 dL_law_599 rfl rfl ?_
            refine r_iconst X 2 dL_law_600 rfl ?_
            refine r_iadd X dL_law_601 ?_
            obtain ⟨c192, h⟩ := ck_ex h
            refine r_sld X S c192 dL_law_602 ?_
            refine r_ifeq X 610 dL_law_603 (by decide) (fun c193 => ?_) (fun c193 => ?_)
            · replace h := it_t c193 h
              refine r_iconst X 0 dL_law_610 rfl ?_
              obtain ⟨r195, M194, h196, h⟩ := bd2_ex h
              refine r_callV X (st := [.int r189]) (av := [.int (xs (ix (v3 + (1 : Int32)))), .int (0 : Int32)]) (k := 34) (ci := 6) (k_X7_rings_ l N _ hnc _ _ _ _ _ h196 60 (Nat.le_of_ble_eq_true rfl)) (fitR_l (Nat.le_of_ble_eq_true rfl)) hkk rfl (ltn hnc rfl) rfl w_827 w_47 w_825 w_826 w_824 hy_X7_rings_ rfl (Nat.le_of_ble_eq_true rfl) dL_law_611 ?_
              refine r_iceq X 874 dL_law_614 (by decide) (fun c197 => ?_) (fun c197 => ?_)
              · replace h := it_t c197 h
                refine r_iinc X [(3, .int (v3 + 4)), (0, .ref 51), (1, .ref 0), (2, .ref 34)] 3 (v3 + 4) dL_law_874 rfl rfl (Nat.le_of_ble_eq_true rfl) rfl ?_
                refine r_goto X 18 dL_law_877 (by decide) ?_
                refine r_sub (ls' := [(0, .ref 51), (1, .ref 0), (2, .ref 34), (3, .int (v3 + 4))]) [1, 2, 3, 0] rfl ?_
                exact ih M194 (v3 + 4) h
              · replace h := it_f c197 h
                refine r_iconst X 0 dL_law_617 rfl ?_
                exact r_lawret X hrr dL_law_618 h
            · replace h := it_f c193 h
              refine r_iconst X 1 dL_law_606 rfl ?_
              refine r_goto X 611 dL_law_607 (by decide) ?_
              obtain ⟨r199, M198, h200, h⟩ := bd2_ex h
              refine r_callV X (st := [.int r189]) (av := [.int (xs (ix (v3 + (1 : Int32)))), .int (1 : Int32)]) (k := 34) (ci := 6) (k_X7_rings_ l N _ hnc _ _ _ _ _ h200 60 (Nat.le_of_ble_eq_true rfl)) (fitR_l (Nat.le_of_ble_eq_true rfl)) hkk rfl (ltn hnc rfl) rfl w_827 w_47 w_825 w_826 w_824 hy_X7_rings_ rfl (Nat.le_of_ble_eq_true rfl) dL_law_611 ?_
              refine r_iceq X 874 dL_law_614 (by decide) (fun c201 => ?_) (fun c201 => ?_)
              · replace h := it_t c201 h
                refine r_iinc X [(3, .int (v3 + 4)), (0, .ref 51), (1, .ref 0), (2, .ref 34)] 3 (v3 + 4) dL_law_874 rfl rfl (Nat.le_of_ble_eq_true rfl) rfl ?_
                refine r_goto X 18 dL_law_877 (by decide) ?_
                refine r_sub (ls' := [(0, .ref 51), (1, .ref 0), (2, .ref 34), (3, .int (v3 + 4))]) [1, 2, 3, 0] rfl ?_
                exact ih M198 (v3 + 4) h
              · replace h := it_f c201 h
                refine r_iconst X 0 dL_law_617 rfl ?_
                exact r_lawret X hrr dL_law_618 h
        replace h := it_f c170 h
        by_cases c202 : x3 = 17
        · replace h := it_t c202 h
          refine r_swIn X 17 c202 619 dL_law_32 (by decide) (by decide) rfl (by decide) ?_
          refine r_aload_n X 1 dL_law_619 rfl rfl ?_
          refine r_aload_n X 0 dL_law_620 rfl rfl ?_
          refine r_iload_n X 3 dL_law_621 rfl rfl ?_
          refine r_iconst X 1 dL_law_622 rfl ?_
          refine r_iadd X dL_law_623 ?_
          obtain ⟨c203, h⟩ := ck_ex h
          refine r_sld X S c203 dL_law_624 ?_
          refine r_aload_n X 0 dL_law_625 rfl rfl ?_
          refine r_iload_n X 3 dL_law_626 rfl rfl ?_
          refine r_iconst X 2 dL_law_627 rfl ?_
          refine r_iadd X dL_law_628 ?_
          obtain ⟨c204, h⟩ := ck_ex h
          refine r_sld X S c204 dL_law_629 ?_
          refine r_ifeq X 637 dL_law_630 (by decide) (fun c205 => ?_) (fun c205 => ?_)
          · replace h := it_t c205 h
            refine r_iconst X 0 dL_law_637 rfl ?_
            refine r_aload_n X 0 dL_law_638 rfl rfl ?_
            refine r_iload_n X 3 dL_law_639 rfl rfl ?_
            refine r_iconst X 3 dL_law_640 rfl ?_
            refine r_iadd X dL_law_641 ?_
            obtain ⟨c206, h⟩ := ck_ex h
            refine r_sld X S c206 dL_law_642 ?_
            obtain ⟨r208, M207, h209, h⟩ := bd2_ex h
            refine r_callV X (st := []) (av := [.int (xs (ix (v3 + (1 : Int32)))), .int (0 : Int32), .int (xs (ix (v3 + (3 : Int32))))]) (k := 0) (ci := 5) (k_X6_ring l N _ (Nat.le_trans (Nat.le_of_ble_eq_true rfl) hnc) _ _ _ _ _ _ h209 60 (Nat.le_of_ble_eq_true rfl)) (fitR_l (Nat.le_of_ble_eq_true rfl)) hkk rfl (ltn hnc rfl) rfl w_526 w_39 w_524 w_525 w_523 hy_X6_ring rfl (Nat.le_of_ble_eq_true rfl) dL_law_643 ?_
            refine r_aload_n X 2 dL_law_646 rfl rfl ?_
            refine r_aload_n X 0 dL_law_647 rfl rfl ?_
            refine r_iload_n X 3 dL_law_648 rfl rfl ?_
            refine r_iconst X 1 dL_law_649 rfl ?_
            refine r_iadd X dL_law_650 ?_
            obtain ⟨c210, h⟩ := ck_ex h
            refine r_sld X S c210 dL_law_651 ?_
            refine r_aload_n X 0 dL_law_652 rfl rfl ?_
            refine r_iload_n X 3 dL_law_653 rfl rfl ?_
            refine r_iconst X 2 dL_law_654 rfl ?_
            refine r_iadd X dL_law_655 ?_
            obtain ⟨c211, h⟩ := ck_ex h
            refine r_sld X S c211 dL_law_656 ?_
            refine r_ifeq X 664 dL_law_657 (by decide) (fun c212 => ?_) (fun c212 => ?_)
            · replace h := it_t c212 h
              refine r_iconst X 0 dL_law_664 rfl ?_
              refine r_aload_n X 0 dL_law_665 rfl rfl ?_
              refine r_iload_n X 3 dL_law_666 rfl rfl ?_
              refine r_iconst X 3 dL_law_667 rfl ?_
              refine r_iadd X dL_law_668 ?_
              obtain ⟨c213, h⟩ := ck_ex h
              refine r_sld X S c213 dL_law_669 ?_
              obtain ⟨r215, M214, h216, h⟩ := bd2_ex h
              refine r_callV X (st := [.int r208]) (av := [.int (xs (ix (v3 + (1 : Int32)))), .int (0 : Int32), .int (xs (ix (v3 + (3 : Int32))))]) (k := 34) (ci := 6) (k_X7_ring l N _ hnc _ _ _ _ _ _ h216 60 (Nat.le_of_ble_eq_true rfl)) (fitR_l (Nat.le_of_ble_eq_true rfl)) hkk rfl (ltn hnc rfl) rfl w_858 w_47 w_856 w_857 w_855 hy_X7_ring rfl (Nat.le_of_ble_eq_true rfl) dL_law_670 ?_
              refine r_iceq X 874 dL_law_673 (by decide) (fun c217 => ?_) (fun c217 => ?_)
              · replace h := it_t c217 h
                refine r_iinc X [(3, .int (v3 + 4)), (0, .ref 51), (1, .ref 0), (2, .ref 34)] 3 (v3 + 4) dL_law_874 rfl rfl (Nat.le_of_ble_eq_true rfl) rfl ?_
                refine r_goto X 18 dL_law_877 (by decide) ?_
                refine r_sub (ls' := [(0, .ref 51), (1, .ref 0), (2, .ref 34), (3, .int (v3 + 4))]) [1, 2, 3, 0] rfl ?_
                exact ih M214 (v3 + 4) h
              · replace h := it_f c217 h
                refine r_iconst X 0 dL_law_676 rfl ?_
                exact r_lawret X hrr dL_law_677 h
            · replace h := it_f c212 h
              refine r_iconst X 1 dL_law_660 rfl ?_
              refine r_goto X 665 dL_law_661 (by decide) ?_
              refine r_aload_n X 0 dL_law_665 rfl rfl ?_
              refine r_iload_n X 3 dL_law_666 rfl rfl ?_
              refine r_iconst X 3 dL_law_667 rfl ?_
              refine r_iadd X dL_law_668 ?_
              obtain ⟨c218, h⟩ := ck_ex h
              refine r_sld X S c218 dL_law_669 ?_
              obtain ⟨r220, M219, h221, h⟩ := bd2_ex h
              refine r_callV X (st := [.int r208]) (av := [.int (xs (ix (v3 + (1 : Int32)))), .int (1 : Int32), .int (xs (ix (v3 + (3 : Int32))))]) (k := 34) (ci := 6) (k_X7_ring l N _ hnc _ _ _ _ _ _ h221 60 (Nat.le_of_ble_eq_true rfl)) (fitR_l (Nat.le_of_ble_eq_true rfl)) hkk rfl (ltn hnc rfl) rfl w_858 w_47 w_856 w_857 w_855 hy_X7_ring rfl (Nat.le_of_ble_eq_true rfl) dL_law_670 ?_
              refine r_iceq X 874 dL_law_673 (by decide) (fun c222 => ?_) (fun c222 => ?_)
              · replace h := it_t c222 h
                refine r_iinc X [(3, .int (v3 + 4)), (0, .ref 51), (1, .ref 0), (2, .ref 34)] 3 (v3 + 4) dL_law_874 rfl rfl (Nat.le_of_ble_eq_true rfl) rfl ?_
                refine r_goto X 18 dL_law_877 (by decide) ?_
                refine r_sub (ls' := [(0, .ref 51), (1, .ref 0), (2, .ref 34), (3, .int (v3 + 4))]) [1, 2, 3, 0] rfl ?_
                exact ih M219 (v3 + 4) h
              · replace h := it_f c222 h
                refine r_iconst X 0 dL_law_676 rfl ?_
                exact r_lawret X hrr dL_law_677 h
          · replace h := it_f c205 h
            refine r_iconst X 1 dL_law_633 rfl ?_
            refine r_goto X 638 dL_law_634 (by decide) ?_
            refine r_aload_n X 0 dL_law_638 rfl rfl ?_
            refine r_iload_n X 3 dL_law_639 rfl rfl ?_
            refine r_iconst X 3 dL_law_640 rfl ?_
            refine r_iadd X dL_law_641 ?_
            obtain ⟨c223, h⟩ := ck_ex h
            refine r_sld X S c223 dL_law_642 ?_
            obtain ⟨r225, M224, h226, h⟩ := bd2_ex h
            refine r_callV X (st := []) (av := [.int (xs (ix (v3 + (1 : Int32)))), .int (1 : Int32), .int (xs (ix (v3 + (3 : Int32))))]) (k := 0) (ci := 5) (k_X6_ring l N _ (Nat.le_trans (Nat.le_of_ble_eq_true rfl) hnc) _ _ _ _ _ _ h226 60 (Nat.le_of_ble_eq_true rfl)) (fitR_l (Nat.le_of_ble_eq_true rfl)) hkk rfl (ltn hnc rfl) rfl w_526 w_39 w_524 w_525 w_523 hy_X6_ring rfl (Nat.le_of_ble_eq_true rfl) dL_law_643 ?_
            refine r_aload_n X 2 dL_law_646 rfl rfl ?_
            refine r_aload_n X 0 dL_law_647 rfl rfl ?_
            refine r_iload_n X 3 dL_law_648 rfl rfl ?_
            refine r_iconst X 1 dL_law_649 rfl ?_
            refine r_iadd X dL_law_650 ?_
            obtain ⟨c227, h⟩ := ck_ex h
            refine r_sld X S c227 dL_law_651 ?_
            refine r_aload_n X 0 dL_law_652 rfl rfl ?_
            refine r_iload_n X 3 dL_law_653 rfl rfl ?_
            refine r_iconst X 2 dL_law_654 rfl ?_
            refine r_iadd X dL_law_655 ?_
            obtain ⟨c228, h⟩ := ck_ex h
            refine r_sld X S c228 dL_law_656 ?_
            refine r_ifeq X 664 dL_law_657 (by decide) (fun c229 => ?_) (fun c229 => ?_)
            · replace h := it_t c229 h
              refine r_iconst X 0 dL_law_664 rfl ?_
              refine r_aload_n X 0 dL_law_665 rfl rfl ?_
              refine r_iload_n X 3 dL_law_666 rfl rfl ?_
              refine r_iconst X 3 dL_law_667 rfl ?_
              refine r_iadd X dL_law_668 ?_
              obtain ⟨c230, h⟩ := ck_ex h
              refine r_sld X S c230 dL_law_669 ?_
              obtain ⟨r232, M231, h233, h⟩ := bd2_ex h
              refine r_callV X (st := [.int r225]) (av := [.int (xs (ix (v3 + (1 : Int32)))), .int (0 : Int32), .int (xs (ix (v3 + (3 : Int32))))]) (k := 34) (ci := 6) (k_X7_ring l N _ hnc _ _ _ _ _ _ h233 60 (Nat.le_of_ble_eq_true rfl)) (fitR_l (Nat.le_of_ble_eq_true rfl)) hkk rfl (ltn hnc rfl) rfl w_858 w_47 w_856 w_857 w_855 hy_X7_ring rfl (Nat.le_of_ble_eq_true rfl) dL_law_670 ?_
              refine r_iceq X 874 dL_law_673 (by decide) (fun c234 => ?_) (fun c234 => ?_)
              · replace h := it_t c234 h
                refine r_iinc X [(3, .int (v3 + 4)), (0, .ref 51), (1, .ref 0), (2, .ref 34)] 3 (v3 + 4) dL_law_874 rfl rfl (Nat.le_of_ble_eq_true rfl) rfl ?_
                refine r_goto X 18 dL_law_877 (by decide) ?_
                refine r_sub (ls' := [(0, .ref 51), (1, .ref 0), (2, .ref 34), (3, .int (v3 + 4))]) [1, 2, 3, 0] rfl ?_
                exact ih M231 (v3 + 4) h
              · replace h := it_f c234 h
                refine r_iconst X 0 dL_law_676 rfl ?_
                exact r_lawret X hrr dL_law_677 h
            · replace h := it_f c229 h
              refine r_iconst X 1 dL_law_660 rfl ?_
              refine r_goto X 665 dL_law_661 (by decide) ?_
              refine r_aload_n X 0 dL_law_665 rfl rfl ?_
              refine r_iload_n X 3 dL_law_666 rfl rfl ?_
              refine r_iconst X 3 dL_law_667 rfl ?_
              refine r_iadd X dL_law_668 ?_
              obtain ⟨c235, h⟩ := ck_ex h
              refine r_sld X S c235 dL_law_669 ?_
              obtain ⟨r237, M236, h238, h⟩ := bd2_ex h
              refine r_callV X (st := [.int r225]) (av := [.int (xs (ix (v3 + (1 : Int32)))), .int (1 : Int32), .int (xs (ix (v3 + (3 : Int32))))]) (k := 34) (ci := 6) (k_X7_ring l N _ hnc _ _ _ _ _ _ h238 60 (Nat.le_of_ble_eq_true rfl)) (fitR_l (Nat.le_of_ble_eq_true rfl)) hkk rfl (ltn hnc rfl) rfl w_858 w_47 w_856 w_857 w_855 hy_X7_ring rfl (Nat.le_of_ble_eq_true rfl) dL_law_670 ?_
              refine r_iceq X 874 dL_law_673 (by decide) (fun c239 => ?_) (fun c239 => ?_)
              · replace h := it_t c239 h
                refine r_iinc X [(3, .int (v3 + 4)), (0, .ref 51), (1, .ref 0), (2, .ref 34)] 3 (v3 + 4) dL_law_874 rfl rfl (Nat.le_of_ble_eq_true rfl) rfl ?_
                refine r_goto X 18 dL_law_877 (by decide) ?_
                refine r_sub (ls' := [(0, .ref 51), (1, .ref 0), (2, .ref 34), (3, .int (v3 + 4))]) [1, 2, 3, 0] rfl ?_
                exact ih M236 (v3 + 4) h
              · replace h := it_f c239 h
                refine r_iconst X 0 dL_law_676 rfl ?_
                exact r_lawret X hrr dL_law_677 h
        replace h := it_f c202 h
        by_cases c240 : x3 = 18
        · replace h := it_t c240 h
          refine r_swIn X 18 c240 678 dL_law_32 (by decide) (by decide) rfl (by decide) ?_
          refine r_aload_n X 1 dL_law_678 rfl rfl ?_
          refine r_aload_n X 0 dL_law_679 rfl rfl ?_
          refine r_iload_n X 3 dL_law_680 rfl rfl ?_
          refine r_iconst X 1 dL_law_681 rfl ?_
          refine r_iadd X dL_law_682 ?_
          obtain ⟨c241, h⟩ := ck_ex h
          refine r_sld X S c241 dL_law_683 ?_
          refine r_ifeq X 691 dL_law_684 (by decide) (fun c242 => ?_) (fun c242 => ?_)
          · replace h := it_t c242 h
            refine r_iconst X 0 dL_law_691 rfl ?_
            obtain ⟨r244, M243, h245, h⟩ := bd2_ex h
            refine r_callV X (st := []) (av := [.int (0 : Int32)]) (k := 0) (ci := 5) (k_X6_most l N _ (Nat.le_trans (Nat.le_of_ble_eq_true rfl) hnc) _ _ _ _ h245 60 (Nat.le_of_ble_eq_true rfl)) (fitR_l (Nat.le_of_ble_eq_true rfl)) hkk rfl (ltn hnc rfl) rfl w_530 w_39 w_528 w_529 w_527 hy_X6_most rfl (Nat.le_of_ble_eq_true rfl) dL_law_692 ?_
            refine r_aload_n X 2 dL_law_695 rfl rfl ?_
            refine r_aload_n X 0 dL_law_696 rfl rfl ?_
            refine r_iload_n X 3 dL_law_697 rfl rfl ?_
            refine r_iconst X 1 dL_law_698 rfl ?_
            refine r_iadd X dL_law_699 ?_
            obtain ⟨c246, h⟩ := ck_ex h
            refine r_sld X S c246 dL_law_700 ?_
            refine r_ifeq X 708 dL_law_701 (by decide) (fun c247 => ?_) (fun c247 => ?_)
            · replace h := it_t c247 h
              refine r_iconst X 0 dL_law_708 rfl ?_
              obtain ⟨r249, M248, h250, h⟩ := bd2_ex h
              refine r_callV X (st := [.int r244]) (av := [.int (0 : Int32)]) (k := 34) (ci := 6) (k_X7_most l N _ hnc _ _ _ _ h250 60 (Nat.le_of_ble_eq_true rfl)) (fitR_l (Nat.le_of_ble_eq_true rfl)) hkk rfl (ltn hnc rfl) rfl w_866 w_47 w_864 w_865 w_863 hy_X7_most rfl (Nat.le_of_ble_eq_true rfl) dL_law_709 ?_
              refine r_iceq X 874 dL_law_712 (by decide) (fun c251 => ?_) (fun c251 => ?_)
              · replace h := it_t c251 h
                refine r_iinc X [(3, .int (v3 + 4)), (0, .ref 51), (1, .ref 0), (2, .ref 34)] 3 (v3 + 4) dL_law_874 rfl rfl (Nat.le_of_ble_eq_true rfl) rfl ?_
                refine r_goto X 18 dL_law_877 (by decide) ?_
                refine r_sub (ls' := [(0, .ref 51), (1, .ref 0), (2, .ref 34), (3, .int (v3 + 4))]) [1, 2, 3, 0] rfl ?_
                exact ih M248 (v3 + 4) h
              · replace h := it_f c251 h
                refine r_iconst X 0 dL_law_715 rfl ?_
                exact r_lawret X hrr dL_law_716 h
            · replace h := it_f c247 h
              refine r_iconst X 1 dL_law_704 rfl ?_
              refine r_goto X 709 dL_law_705 (by decide) ?_
              obtain ⟨r253, M252, h254, h⟩ := bd2_ex h
              refine r_callV X (st := [.int r244]) (av := [.int (1 : Int32)]) (k := 34) (ci := 6) (k_X7_most l N _ hnc _ _ _ _ h254 60 (Nat.le_of_ble_eq_true rfl)) (fitR_l (Nat.le_of_ble_eq_true rfl)) hkk rfl (ltn hnc rfl) rfl w_866 w_47 w_864 w_865 w_863 hy_X7_most rfl (Nat.le_of_ble_eq_true rfl) dL_law_709 ?_
              refine r_iceq X 874 dL_law_712 (by decide) (fun c255 => ?_) (fun c255 => ?_)
              · replace h := it_t c255 h
                refine r_iinc X [(3, .int (v3 + 4)), (0, .ref 51), (1, .ref 0), (2, .ref 34)] 3 (v3 + 4) dL_law_874 rfl rfl (Nat.le_of_ble_eq_true rfl) rfl ?_
                refine r_goto X 18 dL_law_877 (by decide) ?_
                refine r_sub (ls' := [(0, .ref 51), (1, .ref 0), (2, .ref 34), (3, .int (v3 + 4))]) [1, 2, 3, 0] rfl ?_
                exact ih M252 (v3 + 4) h
              · replace h := it_f c255 h
                refine r_iconst X 0 dL_law_715 rfl ?_
                exact r_lawret X hrr dL_law_716 h
          · replace h := it_f c242 h
            refine r_iconst X 1 dL_law_687 rfl ?_
            refine r_goto X 692 dL_law_688 (by decide) ?_
            obtain ⟨r257, M256, h258, h⟩ := bd2_ex h
            refine r_callV X (st := []) (av := [.int (1 : Int32)]) (k := 0) (ci := 5) (k_X6_most l N _ (Nat.le_trans (Nat.le_of_ble_eq_true rfl) hnc) _ _ _ _ h258 60 (Nat.le_of_ble_eq_true rfl)) (fitR_l (Nat.le_of_ble_eq_true rfl)) hkk rfl (ltn hnc rfl) rfl w_530 w_39 w_528 w_529 w_527 hy_X6_most rfl (Nat.le_of_ble_eq_true rfl) dL_law_692 ?_
            refine r_aload_n X 2 dL_law_695 rfl rfl ?_
            refine r_aload_n X 0 dL_law_696 rfl rfl ?_
            refine r_iload_n X 3 dL_law_697 rfl rfl ?_
            refine r_iconst X 1 dL_law_698 rfl ?_
            refine r_iadd X dL_law_699 ?_
            obtain ⟨c259, h⟩ := ck_ex h
            refine r_sld X S c259 dL_law_700 ?_
            refine r_ifeq X 708 dL_law_701 (by decide) (fun c260 => ?_) (fun c260 => ?_)
            · replace h := it_t c260 h
              refine r_iconst X 0 dL_law_708 rfl ?_
              obtain ⟨r262, M261, h263, h⟩ := bd2_ex h
              refine r_callV X (st := [.int r257]) (av := [.int (0 : Int32)]) (k := 34) (ci := 6) (k_X7_most l N _ hnc _ _ _ _ h263 60 (Nat.le_of_ble_eq_true rfl)) (fitR_l (Nat.le_of_ble_eq_true rfl)) hkk rfl (ltn hnc rfl) rfl w_866 w_47 w_864 w_865 w_863 hy_X7_most rfl (Nat.le_of_ble_eq_true rfl) dL_law_709 ?_
              refine r_iceq X 874 dL_law_712 (by decide) (fun c264 => ?_) (fun c264 => ?_)
              · replace h := it_t c264 h
                refine r_iinc X [(3, .int (v3 + 4)), (0, .ref 51), (1, .ref 0), (2, .ref 34)] 3 (v3 + 4) dL_law_874 rfl rfl (Nat.le_of_ble_eq_true rfl) rfl ?_
                refine r_goto X 18 dL_law_877 (by decide) ?_
                refine r_sub (ls' := [(0, .ref 51), (1, .ref 0), (2, .ref 34), (3, .int (v3 + 4))]) [1, 2, 3, 0] rfl ?_
                exact ih M261 (v3 + 4) h
              · replace h := it_f c264 h
                refine r_iconst X 0 dL_law_715 rfl ?_
                exact r_lawret X hrr dL_law_716 h
            · replace h := it_f c260 h
              refine r_iconst X 1 dL_law_704 rfl ?_
              refine r_goto X 709 dL_law_705 (by decide) ?_
              obtain ⟨r266, M265, h267, h⟩ := bd2_ex h
              refine r_callV X (st := [.int r257]) (av := [.int (1 : Int32)]) (k := 34) (ci := 6) (k_X7_most l N _ hnc _ _ _ _ h267 60 (Nat.le_of_ble_eq_true rfl)) (fitR_l (Nat.le_of_ble_eq_true rfl)) hkk rfl (ltn hnc rfl) rfl w_866 w_47 w_864 w_865 w_863 hy_X7_most rfl (Nat.le_of_ble_eq_true rfl) dL_law_709 ?_
              refine r_iceq X 874 dL_law_712 (by decide) (fun c268 => ?_) (fun c268 => ?_)
              · replace h := it_t c268 h
                refine r_iinc X [(3, .int (v3 + 4)), (0, .ref 51), (1, .ref 0), (2, .ref 34)] 3 (v3 + 4) dL_law_874 rfl rfl (Nat.le_of_ble_eq_true rfl) rfl ?_
                refine r_goto X 18 dL_law_877 (by decide) ?_
                refine r_sub (ls' := [(0, .ref 51), (1, .ref 0), (2, .ref 34), (3, .int (v3 + 4))]) [1, 2, 3, 0] rfl ?_
                exact ih M265 (v3 + 4) h
              · replace h := it_f c268 h
                refine r_iconst X 0 dL_law_715 rfl ?_
                exact r_lawret X hrr dL_law_716 h
        replace h := it_f c240 h
        by_cases c269 : x3 = 19
        · replace h := it_t c269 h
          refine r_swIn X 19 c269 717 dL_law_32 (by decide) (by decide) rfl (by decide) ?_
          refine r_aload_n X 1 dL_law_717 rfl rfl ?_
          refine r_aload_n X 0 dL_law_718 rfl rfl ?_
          refine r_iload_n X 3 dL_law_719 rfl rfl ?_
          refine r_iconst X 1 dL_law_720 rfl ?_
          refine r_iadd X dL_law_721 ?_
          obtain ⟨c270, h⟩ := ck_ex h
          refine r_sld X S c270 dL_law_722 ?_
          refine r_aload_n X 0 dL_law_723 rfl rfl ?_
          refine r_iload_n X 3 dL_law_724 rfl rfl ?_
          refine r_iconst X 2 dL_law_725 rfl ?_
          refine r_iadd X dL_law_726 ?_
          obtain ⟨c271, h⟩ := ck_ex h
          refine r_sld X S c271 dL_law_727 ?_
          refine r_ifeq X 735 dL_law_728 (by decide) (fun c272 => ?_) (fun c272 => ?_)
          · replace h := it_t c272 h
            refine r_iconst X 0 dL_law_735 rfl ?_
            obtain ⟨r274, M273, h275, h⟩ := bd2_ex h
            refine r_callV X (st := []) (av := [.int (xs (ix (v3 + (1 : Int32)))), .int (0 : Int32)]) (k := 0) (ci := 5) (k_X6_opens l N _ (Nat.le_trans (Nat.le_of_ble_eq_true rfl) hnc) _ _ _ _ _ h275 60 (Nat.le_of_ble_eq_true rfl)) (fitR_l (Nat.le_of_ble_eq_true rfl)) hkk rfl (ltn hnc rfl) rfl w_534 w_39 w_532 w_533 w_531 hy_X6_opens rfl (Nat.le_of_ble_eq_true rfl) dL_law_736 ?_
            refine r_aload_n X 2 dL_law_739 rfl rfl ?_
            refine r_aload_n X 0 dL_law_740 rfl rfl ?_
            refine r_iload_n X 3 dL_law_741 rfl rfl ?_
            refine r_iconst X 1 dL_law_742 rfl ?_
            refine r_iadd X dL_law_743 ?_
            obtain ⟨c276, h⟩ := ck_ex h
            refine r_sld X S c276 dL_law_744 ?_
            refine r_aload_n X 0 dL_law_745 rfl rfl ?_
            refine r_iload_n X 3 dL_law_746 rfl rfl ?_
            refine r_iconst X 2 dL_law_747 rfl ?_
            refine r_iadd X dL_law_748 ?_
            obtain ⟨c277, h⟩ := ck_ex h
            refine r_sld X S c277 dL_law_749 ?_
            refine r_ifeq X 757 dL_law_750 (by decide) (fun c278 => ?_) (fun c278 => ?_)
            · replace h := it_t c278 h
              refine r_iconst X 0 dL_law_757 rfl ?_
              obtain ⟨r280, M279, h281, h⟩ := bd2_ex h
              refine r_callV X (st := [.int r274]) (av := [.int (xs (ix (v3 + (1 : Int32)))), .int (0 : Int32)]) (k := 34) (ci := 6) (k_X7_opens l N _ hnc _ _ _ _ _ h281 60 (Nat.le_of_ble_eq_true rfl)) (fitR_l (Nat.le_of_ble_eq_true rfl)) hkk rfl (ltn hnc rfl) rfl w_870 w_47 w_868 w_869 w_867 hy_X7_opens rfl (Nat.le_of_ble_eq_true rfl) dL_law_758 ?_
              refine r_iceq X 874 dL_law_761 (by decide) (fun c282 => ?_) (fun c282 => ?_)
              · replace h := it_t c282 h
                refine r_iinc X [(3, .int (v3 + 4)), (0, .ref 51), (1, .ref 0), (2, .ref 34)] 3 (v3 + 4) dL_law_874 rfl rfl (Nat.le_of_ble_eq_true rfl) rfl ?_
                refine r_goto X 18 dL_law_877 (by decide) ?_
                refine r_sub (ls' := [(0, .ref 51), (1, .ref 0), (2, .ref 34), (3, .int (v3 + 4))]) [1, 2, 3, 0] rfl ?_
                exact ih M279 (v3 + 4) h
              · replace h := it_f c282 h
                refine r_iconst X 0 dL_law_764 rfl ?_
                exact r_lawret X hrr dL_law_765 h
            · replace h := it_f c278 h
              refine r_iconst X 1 dL_law_753 rfl ?_
              refine r_goto X 758 dL_law_754 (by decide) ?_
              obtain ⟨r284, M283, h285, h⟩ := bd2_ex h
              refine r_callV X (st := [.int r274]) (av := [.int (xs (ix (v3 + (1 : Int32)))), .int (1 : Int32)]) (k := 34) (ci := 6) (k_X7_opens l N _ hnc _ _ _ _ _ h285 60 (Nat.le_of_ble_eq_true rfl)) (fitR_l (Nat.le_of_ble_eq_true rfl)) hkk rfl (ltn hnc rfl) rfl w_870 w_47 w_868 w_869 w_867 hy_X7_opens rfl (Nat.le_of_ble_eq_true rfl) dL_law_758 ?_
              refine r_iceq X 874 dL_law_761 (by decide) (fun c286 => ?_) (fun c286 => ?_)
              · replace h := it_t c286 h
                refine r_iinc X [(3, .int (v3 + 4)), (0, .ref 51), (1, .ref 0), (2, .ref 34)] 3 (v3 + 4) dL_law_874 rfl rfl (Nat.le_of_ble_eq_true rfl) rfl ?_
                refine r_goto X 18 dL_law_877 (by decide) ?_
                refine r_sub (ls' := [(0, .ref 51), (1, .ref 0), (2, .ref 34), (3, .int (v3 + 4))]) [1, 2, 3, 0] rfl ?_
                exact ih M283 (v3 + 4) h
              · replace h := it_f c286 h
                refine r_iconst X 0 dL_law_764 rfl ?_
                exact r_lawret X hrr dL_law_765 h
          · replace h := it_f c272 h
            refine r_iconst X 1 dL_law_731 rfl ?_
            refine r_goto X 736 dL_law_732 (by decide) ?_
            obtain ⟨r288, M287, h289, h⟩ := bd2_ex h
            refine r_callV X (st := []) (av := [.int (xs (ix (v3 + (1 : Int32)))), .int (1 : Int32)]) (k := 0) (ci := 5) (k_X6_opens l N _ (Nat.le_trans (Nat.le_of_ble_eq_true rfl) hnc) _ _ _ _ _ h289 60 (Nat.le_of_ble_eq_true rfl)) (fitR_l (Nat.le_of_ble_eq_true rfl)) hkk rfl (ltn hnc rfl) rfl w_534 w_39 w_532 w_533 w_531 hy_X6_opens rfl (Nat.le_of_ble_eq_true rfl) dL_law_736 ?_
            refine r_aload_n X 2 dL_law_739 rfl rfl ?_
            refine r_aload_n X 0 dL_law_740 rfl rfl ?_
            refine r_iload_n X 3 dL_law_741 rfl rfl ?_
            refine r_iconst X 1 dL_law_742 rfl ?_
            refine r_iadd X dL_law_743 ?_
            obtain ⟨c290, h⟩ := ck_ex h
            refine r_sld X S c290 dL_law_744 ?_
            refine r_aload_n X 0 dL_law_745 rfl rfl ?_
            refine r_iload_n X 3 dL_law_746 rfl rfl ?_
            refine r_iconst X 2 dL_law_747 rfl ?_
            refine r_iadd X dL_law_748 ?_
            obtain ⟨c291, h⟩ := ck_ex h
            refine r_sld X S c291 dL_law_749 ?_
            refine r_ifeq X 757 dL_law_750 (by decide) (fun c292 => ?_) (fun c292 => ?_)
            · replace h := it_t c292 h
              refine r_iconst X 0 dL_law_757 rfl ?_
              obtain ⟨r294, M293, h295, h⟩ := bd2_ex h
              refine r_callV X (st := [.int r288]) (av := [.int (xs (ix (v3 + (1 : Int32)))), .int (0 : Int32)]) (k := 34) (ci := 6) (k_X7_opens l N _ hnc _ _ _ _ _ h295 60 (Nat.le_of_ble_eq_true rfl)) (fitR_l (Nat.le_of_ble_eq_true rfl)) hkk rfl (ltn hnc rfl) rfl w_870 w_47 w_868 w_869 w_867 hy_X7_opens rfl (Nat.le_of_ble_eq_true rfl) dL_law_758 ?_
              refine r_iceq X 874 dL_law_761 (by decide) (fun c296 => ?_) (fun c296 => ?_)
              · replace h := it_t c296 h
                refine r_iinc X [(3, .int (v3 + 4)), (0, .ref 51), (1, .ref 0), (2, .ref 34)] 3 (v3 + 4) dL_law_874 rfl rfl (Nat.le_of_ble_eq_true rfl) rfl ?_
                refine r_goto X 18 dL_law_877 (by decide) ?_
                refine r_sub (ls' := [(0, .ref 51), (1, .ref 0), (2, .ref 34), (3, .int (v3 + 4))]) [1, 2, 3, 0] rfl ?_
                exact ih M293 (v3 + 4) h
              · replace h := it_f c296 h
                refine r_iconst X 0 dL_law_764 rfl ?_
                exact r_lawret X hrr dL_law_765 h
            · replace h := it_f c292 h
              refine r_iconst X 1 dL_law_753 rfl ?_
              refine r_goto X 758 dL_law_754 (by decide) ?_
              obtain ⟨r298, M297, h299, h⟩ := bd2_ex h
              refine r_callV X (st := [.int r288]) (av := [.int (xs (ix (v3 + (1 : Int32)))), .int (1 : Int32)]) (k := 34) (ci := 6) (k_X7_opens l N _ hnc _ _ _ _ _ h299 60 (Nat.le_of_ble_eq_true rfl)) (fitR_l (Nat.le_of_ble_eq_true rfl)) hkk rfl (ltn hnc rfl) rfl w_870 w_47 w_868 w_869 w_867 hy_X7_opens rfl (Nat.le_of_ble_eq_true rfl) dL_law_758 ?_
              refine r_iceq X 874 dL_law_761 (by decide) (fun c300 => ?_) (fun c300 => ?_)
              · replace h := it_t c300 h
                refine r_iinc X [(3, .int (v3 + 4)), (0, .ref 51), (1, .ref 0), (2, .ref 34)] 3 (v3 + 4) dL_law_874 rfl rfl (Nat.le_of_ble_eq_true rfl) rfl ?_
                refine r_goto X 18 dL_law_877 (by decide) ?_
                refine r_sub (ls' := [(0, .ref 51), (1, .ref 0), (2, .ref 34), (3, .int (v3 + 4))]) [1, 2, 3, 0] rfl ?_
                exact ih M297 (v3 + 4) h
              · replace h := it_f c300 h
                refine r_iconst X 0 dL_law_764 rfl ?_
                exact r_lawret X hrr dL_law_765 h
        replace h := it_f c269 h
        by_cases c301 : x3 = 20
        · replace h := it_t c301 h
          refine r_swIn X 20 c301 766 dL_law_32 (by decide) (by decide) rfl (by decide) ?_
          refine r_aload_n X 1 dL_law_766 rfl rfl ?_
          refine r_aload_n X 0 dL_law_767 rfl rfl ?_
          refine r_iload_n X 3 dL_law_768 rfl rfl ?_
          refine r_iconst X 1 dL_law_769 rfl ?_
          refine r_iadd X dL_law_770 ?_
          obtain ⟨c302, h⟩ := ck_ex h
          refine r_sld X S c302 dL_law_771 ?_
          obtain ⟨r304, M303, h305, h⟩ := bd2_ex h
          refine r_callV X (st := []) (av := [.int (xs (ix (v3 + (1 : Int32))))]) (k := 0) (ci := 5) (k_X6_nearest l N _ (Nat.le_trans (Nat.le_of_ble_eq_true rfl) hnc) _ _ _ _ h305 60 (Nat.le_of_ble_eq_true rfl)) (fitR_l (Nat.le_of_ble_eq_true rfl)) hkk rfl (ltn hnc rfl) rfl w_538 w_39 w_536 w_537 w_535 hy_X6_nearest rfl (Nat.le_of_ble_eq_true rfl) dL_law_772 ?_
          refine r_aload_n X 2 dL_law_775 rfl rfl ?_
          refine r_aload_n X 0 dL_law_776 rfl rfl ?_
          refine r_iload_n X 3 dL_law_777 rfl rfl ?_
          refine r_iconst X 1 dL_law_778 rfl ?_
          refine r_iadd X dL_law_779 ?_
          obtain ⟨c306, h⟩ := ck_ex h
          refine r_sld X S c306 dL_law_780 ?_
          obtain ⟨r308, M307, h309, h⟩ := bd2_ex h
          refine r_callV X (st := [.int r304]) (av := [.int (xs (ix (v3 + (1 : Int32))))]) (k := 34) (ci := 6) (k_X7_nearest l N _ hnc _ _ _ _ h309 60 (Nat.le_of_ble_eq_true rfl)) (fitR_l (Nat.le_of_ble_eq_true rfl)) hkk rfl (ltn hnc rfl) rfl w_874 w_47 w_872 w_873 w_871 hy_X7_nearest rfl (Nat.le_of_ble_eq_true rfl) dL_law_781 ?_
          refine r_iceq X 874 dL_law_784 (by decide) (fun c310 => ?_) (fun c310 => ?_)
          · replace h := it_t c310 h
            refine r_iinc X [(3, .int (v3 + 4)), (0, .ref 51), (1, .ref 0), (2, .ref 34)] 3 (v3 + 4) dL_law_874 rfl rfl (Nat.le_of_ble_eq_true rfl) rfl ?_
            refine r_goto X 18 dL_law_877 (by decide) ?_
            refine r_sub (ls' := [(0, .ref 51), (1, .ref 0), (2, .ref 34), (3, .int (v3 + 4))]) [1, 2, 3, 0] rfl ?_
            exact ih M307 (v3 + 4) h
          · replace h := it_f c310 h
            refine r_iconst X 0 dL_law_787 rfl ?_
            exact r_lawret X hrr dL_law_788 h
        replace h := it_f c301 h
        by_cases c311 : x3 = 21
        · replace h := it_t c311 h
          refine r_swIn X 21 c311 789 dL_law_32 (by decide) (by decide) rfl (by decide) ?_
          refine r_aload_n X 1 dL_law_789 rfl rfl ?_
          refine r_aload_n X 0 dL_law_790 rfl rfl ?_
          refine r_iload_n X 3 dL_law_791 rfl rfl ?_
          refine r_iconst X 1 dL_law_792 rfl ?_
          refine r_iadd X dL_law_793 ?_
          obtain ⟨c312, h⟩ := ck_ex h
          refine r_sld X S c312 dL_law_794 ?_
          obtain ⟨r314, M313, h315, h⟩ := bd2_ex h
          refine r_callV X (st := []) (av := [.int (xs (ix (v3 + (1 : Int32))))]) (k := 0) (ci := 5) (k_X6_turn l N _ (Nat.le_trans (Nat.le_of_ble_eq_true rfl) hnc) _ _ _ _ h315 60 (Nat.le_of_ble_eq_true rfl)) (fitR_l (Nat.le_of_ble_eq_true rfl)) hkk rfl (ltn hnc rfl) rfl w_566 w_39 w_564 w_565 w_563 hy_X6_turn rfl (Nat.le_of_ble_eq_true rfl) dL_law_795 ?_
          refine r_aload_n X 2 dL_law_798 rfl rfl ?_
          refine r_aload_n X 0 dL_law_799 rfl rfl ?_
          refine r_iload_n X 3 dL_law_800 rfl rfl ?_
          refine r_iconst X 1 dL_law_801 rfl ?_
          refine r_iadd X dL_law_802 ?_
          obtain ⟨c316, h⟩ := ck_ex h
          refine r_sld X S c316 dL_law_803 ?_
          obtain ⟨r318, M317, h319, h⟩ := bd2_ex h
          refine r_callV X (st := [.int r314]) (av := [.int (xs (ix (v3 + (1 : Int32))))]) (k := 34) (ci := 6) (k_X7_turn l N _ hnc _ _ _ _ h319 60 (Nat.le_of_ble_eq_true rfl)) (fitR_l (Nat.le_of_ble_eq_true rfl)) hkk rfl (ltn hnc rfl) rfl w_878 w_47 w_876 w_877 w_875 hy_X7_turn rfl (Nat.le_of_ble_eq_true rfl) dL_law_804 ?_
          refine r_iceq X 874 dL_law_807 (by decide) (fun c320 => ?_) (fun c320 => ?_)
          · replace h := it_t c320 h
            refine r_iinc X [(3, .int (v3 + 4)), (0, .ref 51), (1, .ref 0), (2, .ref 34)] 3 (v3 + 4) dL_law_874 rfl rfl (Nat.le_of_ble_eq_true rfl) rfl ?_
            refine r_goto X 18 dL_law_877 (by decide) ?_
            refine r_sub (ls' := [(0, .ref 51), (1, .ref 0), (2, .ref 34), (3, .int (v3 + 4))]) [1, 2, 3, 0] rfl ?_
            exact ih M317 (v3 + 4) h
          · replace h := it_f c320 h
            refine r_iconst X 0 dL_law_810 rfl ?_
            exact r_lawret X hrr dL_law_811 h
        replace h := it_f c311 h
        by_cases c321 : x3 = 22
        · replace h := it_t c321 h
          refine r_swIn X 22 c321 812 dL_law_32 (by decide) (by decide) rfl (by decide) ?_
          refine r_aload_n X 1 dL_law_812 rfl rfl ?_
          obtain ⟨r323, M322, h324, h⟩ := bd2_ex h
          refine r_callV X (st := []) (av := []) (k := 0) (ci := 5) (k_X6_photo l N _ (Nat.le_trans (Nat.le_of_ble_eq_true rfl) hnc) _  _ _ h324 60 (Nat.le_of_ble_eq_true rfl)) (fitR_l (Nat.le_of_ble_eq_true rfl)) hkk rfl (ltn hnc rfl) rfl w_570 w_39 w_568 w_569 w_567 hy_X6_photo rfl (Nat.le_of_ble_eq_true rfl) dL_law_813 ?_
          refine r_aload_n X 2 dL_law_816 rfl rfl ?_
          obtain ⟨r326, M325, h327, h⟩ := bd2_ex h
          refine r_callV X (st := [.int r323]) (av := []) (k := 34) (ci := 6) (k_X7_photo l N _ hnc _  _ _ h327 60 (Nat.le_of_ble_eq_true rfl)) (fitR_l (Nat.le_of_ble_eq_true rfl)) hkk rfl (ltn hnc rfl) rfl w_882 w_47 w_880 w_881 w_879 hy_X7_photo rfl (Nat.le_of_ble_eq_true rfl) dL_law_817 ?_
          refine r_iceq X 874 dL_law_820 (by decide) (fun c328 => ?_) (fun c328 => ?_)
          · replace h := it_t c328 h
            refine r_iinc X [(3, .int (v3 + 4)), (0, .ref 51), (1, .ref 0), (2, .ref 34)] 3 (v3 + 4) dL_law_874 rfl rfl (Nat.le_of_ble_eq_true rfl) rfl ?_
            refine r_goto X 18 dL_law_877 (by decide) ?_
            refine r_sub (ls' := [(0, .ref 51), (1, .ref 0), (2, .ref 34), (3, .int (v3 + 4))]) [1, 2, 3, 0] rfl ?_
            exact ih M325 (v3 + 4) h
          · replace h := it_f c328 h
            refine r_iconst X 0 dL_law_823 rfl ?_
            exact r_lawret X hrr dL_law_824 h
        replace h := it_f c321 h
        by_cases c329 : x3 = 23
        · replace h := it_t c329 h
          refine r_swIn X 23 c329 825 dL_law_32 (by decide) (by decide) rfl (by decide) ?_
          refine r_aload_n X 1 dL_law_825 rfl rfl ?_
          obtain ⟨r331, M330, h332, h⟩ := bd2_ex h
          refine r_callV X (st := []) (av := []) (k := 0) (ci := 5) (k_X6_image l N _ (Nat.le_trans (Nat.le_of_ble_eq_true rfl) hnc) _  _ _ h332 60 (Nat.le_of_ble_eq_true rfl)) (fitR_l (Nat.le_of_ble_eq_true rfl)) hkk rfl (ltn hnc rfl) rfl w_581 w_39 w_579 w_580 w_578 hy_X6_image rfl (Nat.le_of_ble_eq_true rfl) dL_law_826 ?_
          refine r_aload_n X 2 dL_law_829 rfl rfl ?_
          obtain ⟨r334, M333, h335, h⟩ := bd2_ex h
          refine r_callV X (st := [.int r331]) (av := []) (k := 34) (ci := 6) (k_X7_image l N _ hnc _  _ _ h335 60 (Nat.le_of_ble_eq_true rfl)) (fitR_l (Nat.le_of_ble_eq_true rfl)) hkk rfl (ltn hnc rfl) rfl w_886 w_47 w_884 w_885 w_883 hy_X7_image rfl (Nat.le_of_ble_eq_true rfl) dL_law_830 ?_
          refine r_iceq X 874 dL_law_833 (by decide) (fun c336 => ?_) (fun c336 => ?_)
          · replace h := it_t c336 h
            refine r_iinc X [(3, .int (v3 + 4)), (0, .ref 51), (1, .ref 0), (2, .ref 34)] 3 (v3 + 4) dL_law_874 rfl rfl (Nat.le_of_ble_eq_true rfl) rfl ?_
            refine r_goto X 18 dL_law_877 (by decide) ?_
            refine r_sub (ls' := [(0, .ref 51), (1, .ref 0), (2, .ref 34), (3, .int (v3 + 4))]) [1, 2, 3, 0] rfl ?_
            exact ih M333 (v3 + 4) h
          · replace h := it_f c336 h
            refine r_iconst X 0 dL_law_836 rfl ?_
            exact r_lawret X hrr dL_law_837 h
        replace h := it_f c329 h
        by_cases c337 : x3 = 24
        · replace h := it_t c337 h
          refine r_swIn X 24 c337 838 dL_law_32 (by decide) (by decide) rfl (by decide) ?_
          refine r_aload_n X 1 dL_law_838 rfl rfl ?_
          obtain ⟨r339, M338, h340, h⟩ := bd2_ex h
          refine r_callV X (st := []) (av := []) (k := 0) (ci := 5) (k_X6_on l N _ (Nat.le_trans (Nat.le_of_ble_eq_true rfl) hnc) _  _ _ h340 60 (Nat.le_of_ble_eq_true rfl)) (fitR_l (Nat.le_of_ble_eq_true rfl)) hkk rfl (ltn hnc rfl) rfl w_590 w_39 w_588 w_589 w_587 hy_X6_on rfl (Nat.le_of_ble_eq_true rfl) dL_law_839 ?_
          refine r_aload_n X 2 dL_law_842 rfl rfl ?_
          obtain ⟨r342, M341, h343, h⟩ := bd2_ex h
          refine r_callV X (st := [.int r339]) (av := []) (k := 34) (ci := 6) (k_X7_on l N _ hnc _  _ _ h343 60 (Nat.le_of_ble_eq_true rfl)) (fitR_l (Nat.le_of_ble_eq_true rfl)) hkk rfl (ltn hnc rfl) rfl w_890 w_47 w_888 w_889 w_887 hy_X7_on rfl (Nat.le_of_ble_eq_true rfl) dL_law_843 ?_
          refine r_iceq X 874 dL_law_846 (by decide) (fun c344 => ?_) (fun c344 => ?_)
          · replace h := it_t c344 h
            refine r_iinc X [(3, .int (v3 + 4)), (0, .ref 51), (1, .ref 0), (2, .ref 34)] 3 (v3 + 4) dL_law_874 rfl rfl (Nat.le_of_ble_eq_true rfl) rfl ?_
            refine r_goto X 18 dL_law_877 (by decide) ?_
            refine r_sub (ls' := [(0, .ref 51), (1, .ref 0), (2, .ref 34), (3, .int (v3 + 4))]) [1, 2, 3, 0] rfl ?_
            exact ih M341 (v3 + 4) h
          · replace h := it_f c344 h
            refine r_iconst X 0 dL_law_849 rfl ?_
            exact r_lawret X hrr dL_law_850 h
        replace h := it_f c337 h
        by_cases c345 : x3 = 25
        · replace h := it_t c345 h
          refine r_swIn X 25 c345 851 dL_law_32 (by decide) (by decide) rfl (by decide) ?_
          refine r_aload_n X 1 dL_law_851 rfl rfl ?_
          refine r_aload_n X 0 dL_law_852 rfl rfl ?_
          refine r_iload_n X 3 dL_law_853 rfl rfl ?_
          refine r_iconst X 1 dL_law_854 rfl ?_
          refine r_iadd X dL_law_855 ?_
          obtain ⟨c346, h⟩ := ck_ex h
          refine r_sld X S c346 dL_law_856 ?_
          obtain ⟨r348, M347, h349, h⟩ := bd2_ex h
          refine r_callV X (st := []) (av := [.int (xs (ix (v3 + (1 : Int32))))]) (k := 0) (ci := 5) (k_X6_count l N _ (Nat.le_trans (Nat.le_of_ble_eq_true rfl) hnc) _ _ _ _ h349 60 (Nat.le_of_ble_eq_true rfl)) (fitR_l (Nat.le_of_ble_eq_true rfl)) hkk rfl (ltn hnc rfl) rfl w_594 w_39 w_592 w_593 w_591 hy_X6_count rfl (Nat.le_of_ble_eq_true rfl) dL_law_857 ?_
          refine r_aload_n X 2 dL_law_860 rfl rfl ?_
          refine r_aload_n X 0 dL_law_861 rfl rfl ?_
          refine r_iload_n X 3 dL_law_862 rfl rfl ?_
          refine r_iconst X 1 dL_law_863 rfl ?_
          refine r_iadd X dL_law_864 ?_
          obtain ⟨c350, h⟩ := ck_ex h
          refine r_sld X S c350 dL_law_865 ?_
          obtain ⟨r352, M351, h353, h⟩ := bd2_ex h
          refine r_callV X (st := [.int r348]) (av := [.int (xs (ix (v3 + (1 : Int32))))]) (k := 34) (ci := 6) (k_X7_count l N _ hnc _ _ _ _ h353 60 (Nat.le_of_ble_eq_true rfl)) (fitR_l (Nat.le_of_ble_eq_true rfl)) hkk rfl (ltn hnc rfl) rfl w_894 w_47 w_892 w_893 w_891 hy_X7_count rfl (Nat.le_of_ble_eq_true rfl) dL_law_866 ?_
          refine r_iceq X 874 dL_law_869 (by decide) (fun c354 => ?_) (fun c354 => ?_)
          · replace h := it_t c354 h
            refine r_iinc X [(3, .int (v3 + 4)), (0, .ref 51), (1, .ref 0), (2, .ref 34)] 3 (v3 + 4) dL_law_874 rfl rfl (Nat.le_of_ble_eq_true rfl) rfl ?_
            refine r_goto X 18 dL_law_877 (by decide) ?_
            refine r_sub (ls' := [(0, .ref 51), (1, .ref 0), (2, .ref 34), (3, .int (v3 + 4))]) [1, 2, 3, 0] rfl ?_
            exact ih M351 (v3 + 4) h
          · replace h := it_f c354 h
            refine r_iconst X 0 dL_law_872 rfl ?_
            exact r_lawret X hrr dL_law_873 h
        replace h := it_f c345 h
        have hsw : Int32.toInt x3 < 0 ∨ 25 < Int32.toInt x3 := sw_out (fun v9 h1 h2 h3 => by
          rcases (show v9 = 0 ∨ v9 = 1 ∨ v9 = 2 ∨ v9 = 3 ∨ v9 = 4 ∨ v9 = 5 ∨ v9 = 6 ∨ v9 = 7 ∨ v9 = 8 ∨ v9 = 9 ∨ v9 = 10 ∨ v9 = 11 ∨ v9 = 12 ∨ v9 = 13 ∨ v9 = 14 ∨ v9 = 15 ∨ v9 = 16 ∨ v9 = 17 ∨ v9 = 18 ∨ v9 = 19 ∨ v9 = 20 ∨ v9 = 21 ∨ v9 = 22 ∨ v9 = 23 ∨ v9 = 24 ∨ v9 = 25 by omega) with rfl | rfl | rfl | rfl | rfl | rfl | rfl | rfl | rfl | rfl | rfl | rfl | rfl | rfl | rfl | rfl | rfl | rfl | rfl | rfl | rfl | rfl | rfl | rfl | rfl | rfl
          · exact c4 (Int32.toInt_inj.mp (h3.trans (by decide)))
          · exact c18 (Int32.toInt_inj.mp (h3.trans (by decide)))
          · exact c26 (Int32.toInt_inj.mp (h3.trans (by decide)))
          · exact c38 (Int32.toInt_inj.mp (h3.trans (by decide)))
          · exact c50 (Int32.toInt_inj.mp (h3.trans (by decide)))
          · exact c60 (Int32.toInt_inj.mp (h3.trans (by decide)))
          · exact c72 (Int32.toInt_inj.mp (h3.trans (by decide)))
          · exact c80 (Int32.toInt_inj.mp (h3.trans (by decide)))
          · exact c88 (Int32.toInt_inj.mp (h3.trans (by decide)))
          · exact c100 (Int32.toInt_inj.mp (h3.trans (by decide)))
          · exact c110 (Int32.toInt_inj.mp (h3.trans (by decide)))
          · exact c122 (Int32.toInt_inj.mp (h3.trans (by decide)))
          · exact c134 (Int32.toInt_inj.mp (h3.trans (by decide)))
          · exact c146 (Int32.toInt_inj.mp (h3.trans (by decide)))
          · exact c154 (Int32.toInt_inj.mp (h3.trans (by decide)))
          · exact c162 (Int32.toInt_inj.mp (h3.trans (by decide)))
          · exact c170 (Int32.toInt_inj.mp (h3.trans (by decide)))
          · exact c202 (Int32.toInt_inj.mp (h3.trans (by decide)))
          · exact c240 (Int32.toInt_inj.mp (h3.trans (by decide)))
          · exact c269 (Int32.toInt_inj.mp (h3.trans (by decide)))
          · exact c301 (Int32.toInt_inj.mp (h3.trans (by decide)))
          · exact c311 (Int32.toInt_inj.mp (h3.trans (by decide)))
          · exact c321 (Int32.toInt_inj.mp (h3.trans (by decide)))
          · exact c329 (Int32.toInt_inj.mp (h3.trans (by decide)))
          · exact c337 (Int32.toInt_inj.mp (h3.trans (by decide)))
          · exact c345 (Int32.toInt_inj.mp (h3.trans (by decide))))
        refine r_swOut X 874 dL_law_32 hsw (by decide) ?_
        refine r_iinc X [(3, .int (v3 + 4)), (0, .ref 51), (1, .ref 0), (2, .ref 34)] 3 (v3 + 4) dL_law_874 rfl rfl (Nat.le_of_ble_eq_true rfl) rfl ?_
        refine r_goto X 18 dL_law_877 (by decide) ?_
        refine r_sub (ls' := [(0, .ref 51), (1, .ref 0), (2, .ref 34), (3, .int (v3 + 4))]) [1, 2, 3, 0] rfl ?_
        exact ih M (v3 + 4) h
  refine r_iconst X 0 dL_law_16 rfl ?_
  refine r_istore_n X [(3, .int (0 : Int32)), (2, .ref 34), (1, .ref 0), (0, .ref 51)] dL_law_17 rfl (Nat.le_of_ble_eq_true rfl) rfl ?_
  refine r_sub (ls' := [(0, .ref 51), (1, .ref 0), (2, .ref 34), (3, .int (0 : Int32))]) [3, 2, 1, 0] rfl ?_
  exact hl18  N M (0 : Int32) h
theorem ArrOfT.of {s : State} {cA : ClassId} {kA : Class} {comp : ClassId} {ty : FieldType} (h2 : s.vm.classes[cA]? = some kA) (h3 : kA.kind = .array comp ty) : ArrOfT s cA ty := fun n z => ⟨fun k h => (by cases h), kA, h2, comp, h3⟩
theorem stat_of {a : Array Value} {s : State} {nm : String} {N : Nat} {f : Nat → Int32} (hN : N < 2 ^ 31) (hl : (Cond.laysStatic "TrackBox" nm "[I").before a s = true) (hi : (Cond.initialized "TrackBox").before a s = true) (harr : (Cond.arrayOf (.static "TrackBox" nm "[I") .int).before a s = true) (hlen : (Cond.eq (.length (.static "TrackBox" nm "[I")) (.int (Int32.ofNat N))).before a s = true) (hel : ∀ j, j < N → (Cond.eq (.elem (.static "TrackBox" nm "[I") (.int (Int32.ofNat j))) (.int (f j))).before a s = true) : ∃ t : Nat, va_Z "TrackBox" nm "[I" (.ref t) (fun q => s.heap.size ≤ q) s s.heap ∧ va_T .int t N (fun j => .int (f j)) (fun q => s.heap.size ≤ q) s s.heap := by
  obtain ⟨t, h1, h2⟩ := va_Tof (A := fun q => s.heap.size ≤ q) (f := fun j => .int (f j)) hN harr (va_eqt hlen) (fun j hj => va_eqt (hel j hj)) (fun a h => Nat.not_le.mpr h)
  exact ⟨t, va_Zref hl hi h1 (fun a h => Nat.not_le.mpr h), h2⟩
/-- the memory before anything is made: nothing but the static arrays -/
def Mz : Mem := (fun k j => if 45 ≤ k then sdt (k - 45) j else 0, fun _ _ => 0)
theorem Mz_st : ∀ k j, k < 6 → j < sln k → Mz.1 (45 + k) j = sdt k j := by
  intro k j h1 h2
  simp only [Mz]
  rw [if_pos (by omega)]
  congr 1
  omega
set_option maxRecDepth 100000 in
set_option maxHeartbeats 8000000 in
/-- THE LAW, from its entry: if the pure functions end with 1 -/
theorem whole_open {p : Program} {e : Env} {s : State} {m : MethodId} {below : List Frame} {meth : Method} {c : Code} (l : Launch) {b L : Nat} {xs : Nat → Int32} (C0 : lw_At p s m meth c b L xs) (N : Nat) (M1 M2 M' : Mem) (h1 : f_X6_init_0 N (clr Mz 0) = some M1) (h2 : f_X7_init_34 N (clr M1 34) = some M2) (h : l_L_law_18 N L xs N M2 0 = some ((1 : Int32), M')) : W p l e room_1 s m #[Value.ref b] below meth c s.heap [] 0 0 (lw_Z below #[Value.ref b] s) (entryFrame m ([Value.ref b] : List Value).toArray 4) := by
  obtain ⟨hx, hb, hr, hml, hown, hts, hX, hbl, hlocks, hgv⟩ := id C0
  have hs := flat_of_before _ hgv
  have hA : ∀ q : Nat, s.heap.size ≤ q → (fun q : Nat => s.heap.size ≤ q) q := fun _ h => h
  have hTb : Tb s := Tb.of hts
  obtain ⟨t0, hz0, ht0⟩ := stat_of (a := #[Value.ref b]) (nm := "SIGNS") (N := 10) (f := sdt 0) (by decide) (hts _ (List.mem_of_getElem? (i := 296) (by decide +kernel))) (hts _ (List.mem_of_getElem? (i := 39) (by decide +kernel))) (hs _ (by decide +kernel)) (hs _ (by decide +kernel)) (fun j hj => hs _ (by
    rcases (show j = 0 ∨ j = 1 ∨ j = 2 ∨ j = 3 ∨ j = 4 ∨ j = 5 ∨ j = 6 ∨ j = 7 ∨ j = 8 ∨ j = 9 by omega) with rfl | rfl | rfl | rfl | rfl | rfl | rfl | rfl | rfl | rfl <;> decide +kernel))
  obtain ⟨t1, hz1, ht1⟩ := stat_of (a := #[Value.ref b]) (nm := "KIND_OF") (N := 10) (f := sdt 1) (by decide) (hts _ (List.mem_of_getElem? (i := 226) (by decide +kernel))) (hts _ (List.mem_of_getElem? (i := 39) (by decide +kernel))) (hs _ (by decide +kernel)) (hs _ (by decide +kernel)) (fun j hj => hs _ (by
    rcases (show j = 0 ∨ j = 1 ∨ j = 2 ∨ j = 3 ∨ j = 4 ∨ j = 5 ∨ j = 6 ∨ j = 7 ∨ j = 8 ∨ j = 9 by omega) with rfl | rfl | rfl | rfl | rfl | rfl | rfl | rfl | rfl | rfl <;> decide +kernel))
  obtain ⟨t2, hz2, ht2⟩ := stat_of (a := #[Value.ref b]) (nm := "TURN_OF") (N := 10) (f := sdt 2) (by decide) (hts _ (List.mem_of_getElem? (i := 223) (by decide +kernel))) (hts _ (List.mem_of_getElem? (i := 39) (by decide +kernel))) (hs _ (by decide +kernel)) (hs _ (by decide +kernel)) (fun j hj => hs _ (by
    rcases (show j = 0 ∨ j = 1 ∨ j = 2 ∨ j = 3 ∨ j = 4 ∨ j = 5 ∨ j = 6 ∨ j = 7 ∨ j = 8 ∨ j = 9 by omega) with rfl | rfl | rfl | rfl | rfl | rfl | rfl | rfl | rfl | rfl <;> decide +kernel))
  obtain ⟨t3, hz3, ht3⟩ := stat_of (a := #[Value.ref b]) (nm := "MIRROR_OF") (N := 10) (f := sdt 3) (by decide) (hts _ (List.mem_of_getElem? (i := 471) (by decide +kernel))) (hts _ (List.mem_of_getElem? (i := 39) (by decide +kernel))) (hs _ (by decide +kernel)) (hs _ (by decide +kernel)) (fun j hj => hs _ (by
    rcases (show j = 0 ∨ j = 1 ∨ j = 2 ∨ j = 3 ∨ j = 4 ∨ j = 5 ∨ j = 6 ∨ j = 7 ∨ j = 8 ∨ j = 9 by omega) with rfl | rfl | rfl | rfl | rfl | rfl | rfl | rfl | rfl | rfl <;> decide +kernel))
  obtain ⟨t4, hz4, ht4⟩ := stat_of (a := #[Value.ref b]) (nm := "FIRST_SIZES") (N := 7) (f := sdt 4) (by decide) (hts _ (List.mem_of_getElem? (i := 65) (by decide +kernel))) (hts _ (List.mem_of_getElem? (i := 39) (by decide +kernel))) (hs _ (by decide +kernel)) (hs _ (by decide +kernel)) (fun j hj => hs _ (by
    rcases (show j = 0 ∨ j = 1 ∨ j = 2 ∨ j = 3 ∨ j = 4 ∨ j = 5 ∨ j = 6 by omega) with rfl | rfl | rfl | rfl | rfl | rfl | rfl <;> decide +kernel))
  obtain ⟨t5, hz5, ht5⟩ := stat_of (a := #[Value.ref b]) (nm := "FIRST_SIDES") (N := 4) (f := sdt 5) (by decide) (hts _ (List.mem_of_getElem? (i := 73) (by decide +kernel))) (hts _ (List.mem_of_getElem? (i := 39) (by decide +kernel))) (hs _ (by decide +kernel)) (hs _ (by decide +kernel)) (fun j hj => hs _ (by
    rcases (show j = 0 ∨ j = 1 ∨ j = 2 ∨ j = 3 by omega) with rfl | rfl | rfl | rfl <;> decide +kernel))
  obtain ⟨c0, iS0, hKn0⟩ := u_known (C := RX0) (T := TX0) (N := 8) (n := 8) hts (fun w h => (in_X0 w h).1) (hts (.instantiable RX0 8) (List.mem_of_getElem? (i := 59) (by decide +kernel)))
  obtain ⟨c1, iS1, hKn1⟩ := u_known (C := RX1) (T := TX1) (N := 1) (n := 1) hts (fun w h => (in_X1 w h).1) (hts (.instantiable RX1 1) (List.mem_of_getElem? (i := 110) (by decide +kernel)))
  obtain ⟨c2, iS2, hKn2⟩ := u_known (C := RX3) (T := TX3) (N := 10) (n := 10) hts (fun w h => (in_X3 w h).1) (hts (.instantiable RX3 10) (List.mem_of_getElem? (i := 147) (by decide +kernel)))
  obtain ⟨c3, iS3, hKn3⟩ := u_known (C := RX4) (T := TX4) (N := 8) (n := 8) hts (fun w h => (in_X4 w h).1) (hts (.instantiable RX4 8) (List.mem_of_getElem? (i := 187) (by decide +kernel)))
  obtain ⟨c4, iS4, hKn4⟩ := u_known (C := RX5) (T := TX5) (N := 5) (n := 5) hts (fun w h => (in_X5 w h).1) (hts (.instantiable RX5 5) (List.mem_of_getElem? (i := 121) (by decide +kernel)))
  obtain ⟨c5, iS5, hKn5⟩ := u_known (C := RX6) (T := TX6) (N := 12) (n := 12) hts (fun w h => (in_X6 w h).1) (hts (.instantiable RX6 12) (List.mem_of_getElem? (i := 51) (by decide +kernel)))
  obtain ⟨c6, iS6, hKn6⟩ := u_known (C := RX7) (T := TX7) (N := 24) (n := 24) hts (fun w h => (in_X7 w h).1) (hts (.instantiable RX7 24) (List.mem_of_getElem? (i := 600) (by decide +kernel)))
  obtain ⟨D, hKc⟩ : ∃ D : va_G, ∀ (k : Nat) (q : vw_C), vwCl[k]? = some q → u_Kn s q.1 q.2.1 q.2.2 (D.1 k) (D.2 k) := by
    refine ⟨(fun k => if k = 0 then c0 else if k = 1 then c1 else if k = 2 then c2 else if k = 3 then c3 else if k = 4 then c4 else if k = 5 then c5 else c6, fun k => if k = 0 then iS0 else if k = 1 then iS1 else if k = 2 then iS2 else if k = 3 then iS3 else if k = 4 then iS4 else if k = 5 then iS5 else iS6), ?_⟩
    intro k q hq
    match k, hq with
    | 0, hq => cases hq; exact hKn0
    | 1, hq => cases hq; exact hKn1
    | 2, hq => cases hq; exact hKn2
    | 3, hq => cases hq; exact hKn3
    | 4, hq => cases hq; exact hKn4
    | 5, hq => cases hq; exact hKn5
    | 6, hq => cases hq; exact hKn6
    | k + 7, hq => simp [vwCl] at hq
  have hAI : (Cond.arrayClass .int).before #[Value.ref b] s = true := hts _ (List.mem_of_getElem? (i := 108) (by decide +kernel))
  have hAJ : (Cond.arrayClass .long).before #[Value.ref b] s = true := hts _ (List.mem_of_getElem? (i := 119) (by decide +kernel))
  obtain ⟨cI, kI, compI, eI1, eI2, eI3⟩ := Cond.arrayClass_spec (show (Cond.arrayClass .int).holds _ _ _ s _ = true from hAI)
  obtain ⟨cJ, kJ, compJ, eJ1, eJ2, eJ3⟩ := Cond.arrayClass_spec (show (Cond.arrayClass .long).holds _ _ _ s _ = true from hAJ)
  have hK : va_K D vwCl [(cI, .int), (cJ, .long)] s := by
    refine ⟨hKc, fun k q h => ?_⟩
    match k, h with
    | 0, h => cases h; exact ⟨ArrOfT.of eI2 eI3, eI1⟩
    | 1, h => cases h; exact ⟨ArrOfT.of eJ2 eJ3, eJ1⟩
    | k + 2, h => simp at h
  obtain ⟨ad, had0⟩ : ∃ ad : Nat → Nat, ad = fun k => [t0, t1, t2, t3, t4, t5, b].getD (k - 45) 0 := ⟨_, rfl⟩
  have hE : Evn (fun q => s.heap.size ≤ q) ad D cI cJ s s.heap := by
    refine ⟨hTb, hK, fun k hk => ?_⟩
    rw [had0]
    rcases (show k = 0 ∨ k = 1 ∨ k = 2 ∨ k = 3 ∨ k = 4 ∨ k = 5 by omega) with rfl | rfl | rfl | rfl | rfl | rfl
    · exact ⟨hz0, ht0⟩
    · exact ⟨hz1, ht1⟩
    · exact ⟨hz2, ht2⟩
    · exact ⟨hz3, ht3⟩
    · exact ⟨hz4, ht4⟩
    · exact ⟨hz5, ht5⟩
  have X : Cx p s m meth c code 4 RL (fun q => s.heap.size ≤ q) ad D cI cJ := ⟨hx, hb, hml, hown, hE, hlocks⟩
  have hl := lv_entry ([.ref b]) (n := 4) (Nat.le_of_ble_eq_true rfl)
  rw [lg_entry_eq]
  have h51 : ad 51 = b := by rw [had0]; rfl
  have had : ∀ k, k < 0 ∨ 45 ≤ k → ad k = ad k := fun _ _ => rfl
  have key : AW p l e room_1 s m #[Value.ref b] below meth c 4 (fun q => s.heap.size ≤ q) ad D cI cJ (shT tb_94) 0 0 0 (lw_Z below #[Value.ref b] s) Mz 0 [(0, .ref 51)] [] := by
    clear had0
    have h51' := h51
    revert had h51'
    generalize hg : ad = ad9
    intro had h51'
    subst hg
    have hfin : ∀ ad' : Nat → Nat, (∀ k, k < 0 ∨ 45 ≤ k → ad' k = ad k) → Cx p s m meth c code 4 RL (fun q => s.heap.size ≤ q) ad' D cI cJ → AW p l e room_1 s m #[Value.ref b] below meth c 4 (fun q => s.heap.size ≤ q) ad' D cI cJ shp 45 45 3748 (lw_Z below #[Value.ref b] s) M2 16 [(2, .ref 34), (1, .ref 0), (0, .ref 51)] [] := fun ad' hd' X' => law_walk N X' ⟨hX, (hd' 51 (Or.inr (by decide))).trans h51, hbl⟩ hr M2 M' h
    refine r_new X hA (ci := 5) (fs := [.inl 999, .inl 999, .inr false, .inl 999, .inl 999, .inl 999, .inl 999, .inl 999, .inr false, .inl 999, .inr false, .inl 999]) tb_94 tb_0 rfl (Nat.le_of_ble_eq_true rfl) rfl rfl in_X6 rfl tyX6_ok (by decide +kernel) rfl w_50 w_51 w_39 (Nat.le_of_ble_eq_true rfl) (Nat.le_of_ble_eq_true rfl) rfl rfl dL_law_0 (fun ad had1 X => ?_)
    replace had := had_step (Nat.le_of_ble_eq_true rfl) had had1
    clear had1
    refine r_dup X dL_law_3 rfl ?_
    refine r_callI X hA hAI hAJ (st := [.ref 0]) (av := []) (k := 0) (k_X6_init_0 l N _ _ h1 60 (Nat.le_of_ble_eq_true rfl)) ⟨Nat.le_of_ble_eq_true rfl, Nat.le_of_ble_eq_true rfl, Nat.le_of_ble_eq_true rfl, Nat.le_of_ble_eq_true rfl⟩ w_54 w_39 w_53 w_52 rfl hy_X6_init rfl (Nat.le_of_ble_eq_true rfl) rfl rfl dL_law_4 (fun ad had1 X => ?_)
    replace had := had_step (Nat.le_of_ble_eq_true rfl) had had1
    clear had1
    refine r_astore_n X [(1, .ref 0), (0, .ref 51)] dL_law_7 rfl (Nat.le_of_ble_eq_true rfl) rfl ?_
    refine r_conv (shT tb_72) (by decide +kernel) ?_
    refine r_new X hA (ci := 6) (fs := [.inl 999, .inl 999, .inl 999, .inr false, .inl 999, .inr false, .inl 999, .inl 999, .inr false, .inr false, .inr false, .inl 999, .inl 999, .inl 999, .inl 999, .inr false, .inr false, .inr false, .inr false, .inr false, .inr false, .inr false, .inr false, .inr false]) tb_72 tb_73 rfl (Nat.le_of_ble_eq_true rfl) rfl rfl in_X7 rfl tyX7_ok (by decide +kernel) rfl w_599 w_600 w_47 (Nat.le_of_ble_eq_true rfl) (Nat.le_of_ble_eq_true rfl) rfl rfl dL_law_8 (fun ad had1 X => ?_)
    replace had := had_step (Nat.le_of_ble_eq_true rfl) had had1
    clear had1
    refine r_dup X dL_law_11 rfl ?_
    refine r_callI X hA hAI hAJ (st := [.ref 34]) (av := []) (k := 34) (k_X7_init_34 l N _ _ h2 60 (Nat.le_of_ble_eq_true rfl)) ⟨Nat.le_of_ble_eq_true rfl, Nat.le_of_ble_eq_true rfl, Nat.le_of_ble_eq_true rfl, Nat.le_of_ble_eq_true rfl⟩ w_603 w_47 w_602 w_601 rfl hy_X7_init rfl (Nat.le_of_ble_eq_true rfl) rfl rfl dL_law_12 (fun ad had1 X => ?_)
    replace had := had_step (Nat.le_of_ble_eq_true rfl) had had1
    clear had1
    refine r_astore_n X [(2, .ref 34), (1, .ref 0), (0, .ref 51)] dL_law_15 rfl (Nat.le_of_ble_eq_true rfl) rfl ?_
    exact hfin ad had X
  refine key s.heap [] _ ⟨fun k q h => by simp [cells] at h, ⟨fun i j p q h => by simp [cells] at h, fun k q h => by simp [cells] at h⟩, Nat.zero_le _, Mz_st⟩ va_S.rf ?_
  have e1 : ([(0, Value.ref 51)] : List (Nat × Value)).map (fun q => (q.1, cv ad q.2)) = lv_args 0 [.ref b] := by simp [cv, h51, lv_args]
  rw [e1]
  exact hl
