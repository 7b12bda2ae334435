theorem oz_roomT {R : Room} {k kc maxL : Nat} (hR : oz_big R k) (hk : kc < k) (hm : maxL ≤ 11) : kc + 2 ≤ R.frames ∧ 8 + (maxL + 11) + 30 * (kc + 1) ≤ R.locals := by
  obtain ⟨h1, h2⟩ := hR
  exact ⟨by omega, by omega⟩
theorem tc_cast0 : Cond.castable (oz_exc 0) (oz_exc 0) ∈ oz_FW := List.mem_filter.mpr ⟨List.mem_append_left _ (by decide +kernel), rfl⟩
theorem tc_cast1 : Cond.castable (oz_exc 1) (oz_exc 1) ∈ oz_FW := List.mem_filter.mpr ⟨List.mem_append_right _ (List.mem_append_left _ (by decide +kernel)), rfl⟩
theorem tc_cast2 : Cond.castable (oz_exc 2) (oz_exc 2) ∈ oz_FW := List.mem_filter.mpr ⟨List.mem_append_right _ (List.mem_append_right _ (by decide +kernel)), rfl⟩
theorem tw_358 : (Jvm.Cond.classLink "OrderHallLaw" (13 : Nat) "java/lang/IllegalArgumentException") ∈ oz_TW := oz_inT 358 (by decide +kernel) rfl
theorem tw_359 : (Jvm.Cond.methodLink "OrderHallLaw" (7 : Nat) ({ cls := "OrderHall", name := "begin", desc := "(I)V" } : Jvm.MethodName)) ∈ oz_TW := oz_inT 359 (by decide +kernel) rfl
theorem tw_360 : (Jvm.Cond.instanceMethod ({ cls := "OrderHall", name := "begin", desc := "(I)V" } : Jvm.MethodName)) ∈ oz_TW := oz_inT 360 (by decide +kernel) rfl
theorem tw_361 : (Jvm.Cond.selects "OrderHall" ({ cls := "OrderHall", name := "begin", desc := "(I)V" } : Jvm.MethodName) ({ cls := "OrderHall", name := "begin", desc := "(I)V" } : Jvm.MethodName)) ∈ oz_TW := oz_inT 361 (by decide +kernel) rfl
theorem tw_362 : (Jvm.Cond.code ({ cls := "OrderHall", name := "begin", desc := "(I)V" } : Jvm.MethodName) prog_1_method_2_code (2 : Nat) (Option.none : Option Jvm.ClassFile.FieldType)) ∈ oz_TW := oz_inT 362 (by decide +kernel) rfl
theorem tw_437 : (Jvm.Cond.classLink "OrderHallLaw" (19 : Nat) "java/lang/IndexOutOfBoundsException") ∈ oz_TW := oz_inT 437 (by decide +kernel) rfl
theorem tw_438 : (Jvm.Cond.methodLink "OrderHallLaw" (15 : Nat) ({ cls := "OrderHall", name := "arc", desc := "(II)I" } : Jvm.MethodName)) ∈ oz_TW := oz_inT 438 (by decide +kernel) rfl
theorem tw_439 : (Jvm.Cond.instanceMethod ({ cls := "OrderHall", name := "arc", desc := "(II)I" } : Jvm.MethodName)) ∈ oz_TW := oz_inT 439 (by decide +kernel) rfl
theorem tw_440 : (Jvm.Cond.selects "OrderHall" ({ cls := "OrderHall", name := "arc", desc := "(II)I" } : Jvm.MethodName) ({ cls := "OrderHall", name := "arc", desc := "(II)I" } : Jvm.MethodName)) ∈ oz_TW := oz_inT 440 (by decide +kernel) rfl
theorem tw_441 : (Jvm.Cond.code ({ cls := "OrderHall", name := "arc", desc := "(II)I" } : Jvm.MethodName) prog_1_method_3_code (3 : Nat) (Option.some Jvm.ClassFile.FieldType.int)) ∈ oz_TW := oz_inT 441 (by decide +kernel) rfl
theorem tw_469 : (Jvm.Cond.methodLink "OrderHallLaw" (21 : Nat) ({ cls := "OrderHall", name := "drop", desc := "(II)I" } : Jvm.MethodName)) ∈ oz_TW := oz_inT 469 (by decide +kernel) rfl
theorem tw_470 : (Jvm.Cond.instanceMethod ({ cls := "OrderHall", name := "drop", desc := "(II)I" } : Jvm.MethodName)) ∈ oz_TW := oz_inT 470 (by decide +kernel) rfl
theorem tw_471 : (Jvm.Cond.selects "OrderHall" ({ cls := "OrderHall", name := "drop", desc := "(II)I" } : Jvm.MethodName) ({ cls := "OrderHall", name := "drop", desc := "(II)I" } : Jvm.MethodName)) ∈ oz_TW := oz_inT 471 (by decide +kernel) rfl
theorem tw_472 : (Jvm.Cond.code ({ cls := "OrderHall", name := "drop", desc := "(II)I" } : Jvm.MethodName) prog_1_method_4_code (3 : Nat) (Option.some Jvm.ClassFile.FieldType.int)) ∈ oz_TW := oz_inT 472 (by decide +kernel) rfl
theorem tw_480 : (Jvm.Cond.classLink "OrderHallLaw" (27 : Nat) "java/lang/IllegalStateException") ∈ oz_TW := oz_inT 480 (by decide +kernel) rfl
theorem tw_481 : (Jvm.Cond.methodLink "OrderHallLaw" (24 : Nat) ({ cls := "OrderHall", name := "compare", desc := "(II)I" } : Jvm.MethodName)) ∈ oz_TW := oz_inT 481 (by decide +kernel) rfl
theorem tw_482 : (Jvm.Cond.instanceMethod ({ cls := "OrderHall", name := "compare", desc := "(II)I" } : Jvm.MethodName)) ∈ oz_TW := oz_inT 482 (by decide +kernel) rfl
theorem tw_483 : (Jvm.Cond.selects "OrderHall" ({ cls := "OrderHall", name := "compare", desc := "(II)I" } : Jvm.MethodName) ({ cls := "OrderHall", name := "compare", desc := "(II)I" } : Jvm.MethodName)) ∈ oz_TW := oz_inT 483 (by decide +kernel) rfl
theorem tw_484 : (Jvm.Cond.code ({ cls := "OrderHall", name := "compare", desc := "(II)I" } : Jvm.MethodName) prog_1_method_7_code (3 : Nat) (Option.some Jvm.ClassFile.FieldType.int)) ∈ oz_TW := oz_inT 484 (by decide +kernel) rfl
theorem tw_509 : (Jvm.Cond.methodLink "OrderHallLaw" (29 : Nat) ({ cls := "OrderHall", name := "set", desc := "(II)I" } : Jvm.MethodName)) ∈ oz_TW := oz_inT 509 (by decide +kernel) rfl
theorem tw_510 : (Jvm.Cond.instanceMethod ({ cls := "OrderHall", name := "set", desc := "(II)I" } : Jvm.MethodName)) ∈ oz_TW := oz_inT 510 (by decide +kernel) rfl
theorem tw_511 : (Jvm.Cond.selects "OrderHall" ({ cls := "OrderHall", name := "set", desc := "(II)I" } : Jvm.MethodName) ({ cls := "OrderHall", name := "set", desc := "(II)I" } : Jvm.MethodName)) ∈ oz_TW := oz_inT 511 (by decide +kernel) rfl
theorem tw_512 : (Jvm.Cond.code ({ cls := "OrderHall", name := "set", desc := "(II)I" } : Jvm.MethodName) prog_1_method_8_code (3 : Nat) (Option.some Jvm.ClassFile.FieldType.int)) ∈ oz_TW := oz_inT 512 (by decide +kernel) rfl
theorem tw_524 : (Jvm.Cond.methodLink "OrderHallLaw" (32 : Nat) ({ cls := "OrderHall", name := "level", desc := "(II)I" } : Jvm.MethodName)) ∈ oz_TW := oz_inT 524 (by decide +kernel) rfl
theorem tw_525 : (Jvm.Cond.instanceMethod ({ cls := "OrderHall", name := "level", desc := "(II)I" } : Jvm.MethodName)) ∈ oz_TW := oz_inT 525 (by decide +kernel) rfl
theorem tw_526 : (Jvm.Cond.selects "OrderHall" ({ cls := "OrderHall", name := "level", desc := "(II)I" } : Jvm.MethodName) ({ cls := "OrderHall", name := "level", desc := "(II)I" } : Jvm.MethodName)) ∈ oz_TW := oz_inT 526 (by decide +kernel) rfl
theorem tw_527 : (Jvm.Cond.code ({ cls := "OrderHall", name := "level", desc := "(II)I" } : Jvm.MethodName) prog_1_method_9_code (3 : Nat) (Option.some Jvm.ClassFile.FieldType.int)) ∈ oz_TW := oz_inT 527 (by decide +kernel) rfl
theorem tw_531 : (Jvm.Cond.methodLink "OrderHallLaw" (35 : Nat) ({ cls := "OrderHall", name := "count", desc := "(I)I" } : Jvm.MethodName)) ∈ oz_TW := oz_inT 531 (by decide +kernel) rfl
theorem tw_532 : (Jvm.Cond.instanceMethod ({ cls := "OrderHall", name := "count", desc := "(I)I" } : Jvm.MethodName)) ∈ oz_TW := oz_inT 532 (by decide +kernel) rfl
theorem tw_533 : (Jvm.Cond.selects "OrderHall" ({ cls := "OrderHall", name := "count", desc := "(I)I" } : Jvm.MethodName) ({ cls := "OrderHall", name := "count", desc := "(I)I" } : Jvm.MethodName)) ∈ oz_TW := oz_inT 533 (by decide +kernel) rfl
theorem tw_534 : (Jvm.Cond.code ({ cls := "OrderHall", name := "count", desc := "(I)I" } : Jvm.MethodName) prog_1_method_10_code (2 : Nat) (Option.some Jvm.ClassFile.FieldType.int)) ∈ oz_TW := oz_inT 534 (by decide +kernel) rfl
theorem tw_578 : (Jvm.Cond.methodLink "OrderHallLaw" (39 : Nat) ({ cls := "OrderHall", name := "antichain", desc := "(I)I" } : Jvm.MethodName)) ∈ oz_TW := oz_inT 578 (by decide +kernel) rfl
theorem tw_579 : (Jvm.Cond.instanceMethod ({ cls := "OrderHall", name := "antichain", desc := "(I)I" } : Jvm.MethodName)) ∈ oz_TW := oz_inT 579 (by decide +kernel) rfl
theorem tw_580 : (Jvm.Cond.selects "OrderHall" ({ cls := "OrderHall", name := "antichain", desc := "(I)I" } : Jvm.MethodName) ({ cls := "OrderHall", name := "antichain", desc := "(I)I" } : Jvm.MethodName)) ∈ oz_TW := oz_inT 580 (by decide +kernel) rfl
theorem tw_581 : (Jvm.Cond.code ({ cls := "OrderHall", name := "antichain", desc := "(I)I" } : Jvm.MethodName) prog_1_method_11_code (2 : Nat) (Option.some Jvm.ClassFile.FieldType.int)) ∈ oz_TW := oz_inT 581 (by decide +kernel) rfl
theorem tw_585 : (Jvm.Cond.methodLink "OrderHallLaw" (42 : Nat) ({ cls := "OrderHall", name := "most", desc := "(II)I" } : Jvm.MethodName)) ∈ oz_TW := oz_inT 585 (by decide +kernel) rfl
theorem tw_586 : (Jvm.Cond.instanceMethod ({ cls := "OrderHall", name := "most", desc := "(II)I" } : Jvm.MethodName)) ∈ oz_TW := oz_inT 586 (by decide +kernel) rfl
theorem tw_587 : (Jvm.Cond.selects "OrderHall" ({ cls := "OrderHall", name := "most", desc := "(II)I" } : Jvm.MethodName) ({ cls := "OrderHall", name := "most", desc := "(II)I" } : Jvm.MethodName)) ∈ oz_TW := oz_inT 587 (by decide +kernel) rfl
theorem tw_588 : (Jvm.Cond.code ({ cls := "OrderHall", name := "most", desc := "(II)I" } : Jvm.MethodName) prog_1_method_12_code (3 : Nat) (Option.some Jvm.ClassFile.FieldType.int)) ∈ oz_TW := oz_inT 588 (by decide +kernel) rfl
theorem tw_592 : (Jvm.Cond.methodLink "OrderHallLaw" (45 : Nat) ({ cls := "OrderHall", name := "first", desc := "(II)I" } : Jvm.MethodName)) ∈ oz_TW := oz_inT 592 (by decide +kernel) rfl
theorem tw_593 : (Jvm.Cond.instanceMethod ({ cls := "OrderHall", name := "first", desc := "(II)I" } : Jvm.MethodName)) ∈ oz_TW := oz_inT 593 (by decide +kernel) rfl
theorem tw_594 : (Jvm.Cond.selects "OrderHall" ({ cls := "OrderHall", name := "first", desc := "(II)I" } : Jvm.MethodName) ({ cls := "OrderHall", name := "first", desc := "(II)I" } : Jvm.MethodName)) ∈ oz_TW := oz_inT 594 (by decide +kernel) rfl
theorem tw_595 : (Jvm.Cond.code ({ cls := "OrderHall", name := "first", desc := "(II)I" } : Jvm.MethodName) prog_1_method_13_code (3 : Nat) (Option.some Jvm.ClassFile.FieldType.int)) ∈ oz_TW := oz_inT 595 (by decide +kernel) rfl
theorem tw_599 : (Jvm.Cond.methodLink "OrderHallLaw" (48 : Nat) ({ cls := "OrderHall", name := "chains", desc := "(I)I" } : Jvm.MethodName)) ∈ oz_TW := oz_inT 599 (by decide +kernel) rfl
theorem tw_600 : (Jvm.Cond.instanceMethod ({ cls := "OrderHall", name := "chains", desc := "(I)I" } : Jvm.MethodName)) ∈ oz_TW := oz_inT 600 (by decide +kernel) rfl
theorem tw_601 : (Jvm.Cond.selects "OrderHall" ({ cls := "OrderHall", name := "chains", desc := "(I)I" } : Jvm.MethodName) ({ cls := "OrderHall", name := "chains", desc := "(I)I" } : Jvm.MethodName)) ∈ oz_TW := oz_inT 601 (by decide +kernel) rfl
theorem tw_602 : (Jvm.Cond.code ({ cls := "OrderHall", name := "chains", desc := "(I)I" } : Jvm.MethodName) prog_1_method_14_code (2 : Nat) (Option.some Jvm.ClassFile.FieldType.int)) ∈ oz_TW := oz_inT 602 (by decide +kernel) rfl
theorem tw_614 : (Jvm.Cond.methodLink "OrderHallLaw" (51 : Nat) ({ cls := "OrderHall", name := "sequences", desc := "()J" } : Jvm.MethodName)) ∈ oz_TW := oz_inT 614 (by decide +kernel) rfl
theorem tw_615 : (Jvm.Cond.instanceMethod ({ cls := "OrderHall", name := "sequences", desc := "()J" } : Jvm.MethodName)) ∈ oz_TW := oz_inT 615 (by decide +kernel) rfl
theorem tw_616 : (Jvm.Cond.selects "OrderHall" ({ cls := "OrderHall", name := "sequences", desc := "()J" } : Jvm.MethodName) ({ cls := "OrderHall", name := "sequences", desc := "()J" } : Jvm.MethodName)) ∈ oz_TW := oz_inT 616 (by decide +kernel) rfl
theorem tw_617 : (Jvm.Cond.code ({ cls := "OrderHall", name := "sequences", desc := "()J" } : Jvm.MethodName) prog_1_method_15_code (1 : Nat) (Option.some Jvm.ClassFile.FieldType.long)) ∈ oz_TW := oz_inT 617 (by decide +kernel) rfl
theorem tw_634 : (Jvm.Cond.methodLink "OrderHallLaw" (55 : Nat) ({ cls := "OrderHall", name := "take", desc := "(J)V" } : Jvm.MethodName)) ∈ oz_TW := oz_inT 634 (by decide +kernel) rfl
theorem tw_635 : (Jvm.Cond.instanceMethod ({ cls := "OrderHall", name := "take", desc := "(J)V" } : Jvm.MethodName)) ∈ oz_TW := oz_inT 635 (by decide +kernel) rfl
theorem tw_636 : (Jvm.Cond.selects "OrderHall" ({ cls := "OrderHall", name := "take", desc := "(J)V" } : Jvm.MethodName) ({ cls := "OrderHall", name := "take", desc := "(J)V" } : Jvm.MethodName)) ∈ oz_TW := oz_inT 636 (by decide +kernel) rfl
theorem tw_637 : (Jvm.Cond.code ({ cls := "OrderHall", name := "take", desc := "(J)V" } : Jvm.MethodName) prog_1_method_16_code (3 : Nat) (Option.none : Option Jvm.ClassFile.FieldType)) ∈ oz_TW := oz_inT 637 (by decide +kernel) rfl
theorem tw_646 : (Jvm.Cond.methodLink "OrderHallLaw" (59 : Nat) ({ cls := "OrderHall", name := "bound", desc := "(III)I" } : Jvm.MethodName)) ∈ oz_TW := oz_inT 646 (by decide +kernel) rfl
theorem tw_647 : (Jvm.Cond.instanceMethod ({ cls := "OrderHall", name := "bound", desc := "(III)I" } : Jvm.MethodName)) ∈ oz_TW := oz_inT 647 (by decide +kernel) rfl
theorem tw_648 : (Jvm.Cond.selects "OrderHall" ({ cls := "OrderHall", name := "bound", desc := "(III)I" } : Jvm.MethodName) ({ cls := "OrderHall", name := "bound", desc := "(III)I" } : Jvm.MethodName)) ∈ oz_TW := oz_inT 648 (by decide +kernel) rfl
theorem tw_649 : (Jvm.Cond.code ({ cls := "OrderHall", name := "bound", desc := "(III)I" } : Jvm.MethodName) prog_1_method_20_code (4 : Nat) (Option.some Jvm.ClassFile.FieldType.int)) ∈ oz_TW := oz_inT 649 (by decide +kernel) rfl
theorem tw_669 : (Jvm.Cond.methodLink "OrderHallLaw" (63 : Nat) ({ cls := "OrderHall", name := "lattice", desc := "()I" } : Jvm.MethodName)) ∈ oz_TW := oz_inT 669 (by decide +kernel) rfl
theorem tw_670 : (Jvm.Cond.instanceMethod ({ cls := "OrderHall", name := "lattice", desc := "()I" } : Jvm.MethodName)) ∈ oz_TW := oz_inT 670 (by decide +kernel) rfl
theorem tw_671 : (Jvm.Cond.selects "OrderHall" ({ cls := "OrderHall", name := "lattice", desc := "()I" } : Jvm.MethodName) ({ cls := "OrderHall", name := "lattice", desc := "()I" } : Jvm.MethodName)) ∈ oz_TW := oz_inT 671 (by decide +kernel) rfl
theorem tw_672 : (Jvm.Cond.code ({ cls := "OrderHall", name := "lattice", desc := "()I" } : Jvm.MethodName) prog_1_method_21_code (1 : Nat) (Option.some Jvm.ClassFile.FieldType.int)) ∈ oz_TW := oz_inT 672 (by decide +kernel) rfl
theorem tw_686 : (Jvm.Cond.methodLink "OrderHallLaw" (67 : Nat) ({ cls := "OrderHall", name := "sign", desc := "(II)I" } : Jvm.MethodName)) ∈ oz_TW := oz_inT 686 (by decide +kernel) rfl
theorem tw_687 : (Jvm.Cond.instanceMethod ({ cls := "OrderHall", name := "sign", desc := "(II)I" } : Jvm.MethodName)) ∈ oz_TW := oz_inT 687 (by decide +kernel) rfl
theorem tw_688 : (Jvm.Cond.selects "OrderHall" ({ cls := "OrderHall", name := "sign", desc := "(II)I" } : Jvm.MethodName) ({ cls := "OrderHall", name := "sign", desc := "(II)I" } : Jvm.MethodName)) ∈ oz_TW := oz_inT 688 (by decide +kernel) rfl
theorem tw_689 : (Jvm.Cond.code ({ cls := "OrderHall", name := "sign", desc := "(II)I" } : Jvm.MethodName) prog_1_method_22_code (3 : Nat) (Option.some Jvm.ClassFile.FieldType.int)) ∈ oz_TW := oz_inT 689 (by decide +kernel) rfl
theorem tw_697 : (Jvm.Cond.methodLink "OrderHallLaw" (70 : Nat) ({ cls := "OrderHall", name := "turn", desc := "()V" } : Jvm.MethodName)) ∈ oz_TW := oz_inT 697 (by decide +kernel) rfl
theorem tw_698 : (Jvm.Cond.instanceMethod ({ cls := "OrderHall", name := "turn", desc := "()V" } : Jvm.MethodName)) ∈ oz_TW := oz_inT 698 (by decide +kernel) rfl
theorem tw_699 : (Jvm.Cond.selects "OrderHall" ({ cls := "OrderHall", name := "turn", desc := "()V" } : Jvm.MethodName) ({ cls := "OrderHall", name := "turn", desc := "()V" } : Jvm.MethodName)) ∈ oz_TW := oz_inT 699 (by decide +kernel) rfl
theorem tw_700 : (Jvm.Cond.code ({ cls := "OrderHall", name := "turn", desc := "()V" } : Jvm.MethodName) prog_1_method_23_code (1 : Nat) (Option.none : Option Jvm.ClassFile.FieldType)) ∈ oz_TW := oz_inT 700 (by decide +kernel) rfl
theorem tw_708 : (Jvm.Cond.methodLink "OrderHallLaw" (73 : Nat) ({ cls := "OrderHall", name := "keep", desc := "(I)I" } : Jvm.MethodName)) ∈ oz_TW := oz_inT 708 (by decide +kernel) rfl
theorem tw_709 : (Jvm.Cond.instanceMethod ({ cls := "OrderHall", name := "keep", desc := "(I)I" } : Jvm.MethodName)) ∈ oz_TW := oz_inT 709 (by decide +kernel) rfl
theorem tw_710 : (Jvm.Cond.selects "OrderHall" ({ cls := "OrderHall", name := "keep", desc := "(I)I" } : Jvm.MethodName) ({ cls := "OrderHall", name := "keep", desc := "(I)I" } : Jvm.MethodName)) ∈ oz_TW := oz_inT 710 (by decide +kernel) rfl
theorem tw_711 : (Jvm.Cond.code ({ cls := "OrderHall", name := "keep", desc := "(I)I" } : Jvm.MethodName) prog_1_method_24_code (2 : Nat) (Option.some Jvm.ClassFile.FieldType.int)) ∈ oz_TW := oz_inT 711 (by decide +kernel) rfl
theorem tw_729 : (Jvm.Cond.methodLink "OrderHallLaw" (76 : Nat) ({ cls := "OrderHall", name := "check", desc := "()I" } : Jvm.MethodName)) ∈ oz_TW := oz_inT 729 (by decide +kernel) rfl
theorem tw_730 : (Jvm.Cond.instanceMethod ({ cls := "OrderHall", name := "check", desc := "()I" } : Jvm.MethodName)) ∈ oz_TW := oz_inT 730 (by decide +kernel) rfl
theorem tw_731 : (Jvm.Cond.selects "OrderHall" ({ cls := "OrderHall", name := "check", desc := "()I" } : Jvm.MethodName) ({ cls := "OrderHall", name := "check", desc := "()I" } : Jvm.MethodName)) ∈ oz_TW := oz_inT 731 (by decide +kernel) rfl
theorem tw_732 : (Jvm.Cond.code ({ cls := "OrderHall", name := "check", desc := "()I" } : Jvm.MethodName) prog_1_method_25_code (1 : Nat) (Option.some Jvm.ClassFile.FieldType.int)) ∈ oz_TW := oz_inT 732 (by decide +kernel) rfl
def y_Law_begin : MethodName := ⟨"OrderHallLaw", "begin", "(LOrderHall;I)I"⟩
theorem d_Law_begin_0 : decode method_3_code 0 = .ok (.aload_n 0, 1) := by decide +kernel
theorem d_Law_begin_1 : decode method_3_code 1 = .ok (.iload_n 1, 1) := by decide +kernel
theorem d_Law_begin_2 : decode method_3_code 2 = .ok (.invokevirtual 7, 3) := by decide +kernel
theorem d_Law_begin_5 : decode method_3_code 5 = .ok (.goto 6, 3) := by decide +kernel
theorem d_Law_begin_8 : decode method_3_code 8 = .ok (.astore_n 2, 1) := by decide +kernel
theorem d_Law_begin_9 : decode method_3_code 9 = .ok (.iconst 1, 1) := by decide +kernel
theorem d_Law_begin_10 : decode method_3_code 10 = .ok (.ireturn, 1) := by decide +kernel
theorem d_Law_begin_11 : decode method_3_code 11 = .ok (.iconst 0, 1) := by decide +kernel
theorem d_Law_begin_12 : decode method_3_code 12 = .ok (.ireturn, 1) := by decide +kernel
noncomputable def f_Law_begin (a1 : Int32) (M : oz_M) : Option (Int32 × oz_M) := oz_b2 (f_Hall_begin a1 M) fun w M1 => oz_el (fun kx => if kx = 2 then (some (1, M1)) else none) (fun v => some (0, M1)) w
set_option maxRecDepth 20000 in
set_option maxHeartbeats 2000000 in
theorem c_Law_begin {l : Launch} {D : va_G} {cs : Nat → ClassId} {b : Nat} {a1 : Int32} {M : oz_M} {vz : Int32} {Mz : oz_M} (hfl : l.stackTraces = false) (hF : f_Law_begin a1 M = some (vz, Mz)) : oz_MetW l D cs b y_Law_begin method_3_code 3 [(0, 5, 8, 13)] 6 [.ref (b + 0), .int a1] M vz Mz := by
  refine oz_enterW (by decide) (Nat.le_of_ble_eq_true rfl) (fun G cx cx1 hR hR1 hEx e1 hRm hcs e2 e3 e4 hnL => ?_)
  subst e1; subst e2; subst e3; subst e4
  refine (?_ : oz_R G 0 [(0, .ref (oz_b G + 0)), (1, .int a1)] [] M (f_Law_begin a1 M) (fun x => x = (vz, Mz))) _ hF rfl
  unfold f_Law_begin
  refine oz_aload_n (q := 1) cx d_Law_begin_0 rfl rfl 0 rfl ?_
  refine oz_iload_n (q := 2) cx d_Law_begin_1 rfl rfl 1 rfl ?_
  refine oz_case (fun v M1 hv => ?_) (fun kx M1 hv => ?_)
  · refine (?_ : oz_R G 2 [(0, .ref (oz_b G + 0)), (1, .int a1)] [.int a1, .ref (oz_b G + 0)] M (oz_b2 (some ((), M1)) fun v M1 => some (0, M1)) (fun x => x = (vz, Mz)))
    refine oz_cVv (kc := 5) (q := 5) cx 0 [.int a1] 1 0 hRm (by decide) (by decide) (fun _ _ h => by cases h; exact c_Hall_begin hv) ⟨tw_359, tw_360, tw_361, tw_1⟩ tw_362 (by decide +kernel) rfl (by decide) rfl rfl (st := []) rfl (Nat.le_of_ble_eq_true rfl) d_Law_begin_2 rfl (fun v M1 _ => ?_)
    refine oz_goto cx d_Law_begin_5 rfl ?_
    refine oz_iconst (q := 12) cx d_Law_begin_11 rfl (v := 0) rfl ?_
    exact oz_iret cx hR d_Law_begin_12
  · refine oz_ite (fun hk => ?_) (fun _ => ?_)
    · subst hk
      refine oz_caught (kx := 2) cx (ps := []) (rs := []) (rest := []) hEx rfl (by decide) (by decide) tw_358 tc_cast2 (fun p hp => by cases hp) (fun H locs ls hP hS hl => oz_trunV (C := "OrderHall") (n := 1) (i := 0) cx (t_Hall_begin hfl hv) hP hS ⟨tw_359, tw_360, tw_361, tw_1⟩ rfl tw_362 (by decide +kernel) rfl (by decide) rfl rfl (oz_roomT hRm (by decide) (by decide)) hcs.1 hcs.2 rfl hl.1 (As := [.int a1]) rfl (lv_room (Nat.le_of_ble_eq_true rfl)) d_Law_begin_2) (fun xv => ?_)
      refine oz_astore_n (q := 9) cx1 d_Law_begin_8 rfl rfl (by rw [hnL]; decide) (lv2 := [(2, .ref xv), (0, .ref (oz_b G + 0)), (1, .int a1)]) rfl ?_
      refine oz_iconst (q := 10) cx1 d_Law_begin_9 rfl (v := 1) rfl ?_
      exact oz_iret cx1 hR1 d_Law_begin_10
    · skip
      exact oz_none
def y_Law_arc : MethodName := ⟨"OrderHallLaw", "arc", "(LOrderHall;II[J)I"⟩
theorem d_Law_arc_0 : decode method_4_code 0 = .ok (.aload_n 3, 1) := by decide +kernel
theorem d_Law_arc_1 : decode method_4_code 1 = .ok (.iconst 0, 1) := by decide +kernel
theorem d_Law_arc_2 : decode method_4_code 2 = .ok (.aload_n 0, 1) := by decide +kernel
theorem d_Law_arc_3 : decode method_4_code 3 = .ok (.iload_n 1, 1) := by decide +kernel
theorem d_Law_arc_4 : decode method_4_code 4 = .ok (.iload_n 2, 1) := by decide +kernel
theorem d_Law_arc_5 : decode method_4_code 5 = .ok (.invokevirtual 15, 3) := by decide +kernel
theorem d_Law_arc_8 : decode method_4_code 8 = .ok (.i2l, 1) := by decide +kernel
theorem d_Law_arc_9 : decode method_4_code 9 = .ok (.lastore, 1) := by decide +kernel
theorem d_Law_arc_10 : decode method_4_code 10 = .ok (.goto 7, 3) := by decide +kernel
theorem d_Law_arc_13 : decode method_4_code 13 = .ok (.astore 4, 2) := by decide +kernel
theorem d_Law_arc_15 : decode method_4_code 15 = .ok (.iconst 1, 1) := by decide +kernel
theorem d_Law_arc_16 : decode method_4_code 16 = .ok (.ireturn, 1) := by decide +kernel
theorem d_Law_arc_17 : decode method_4_code 17 = .ok (.iconst 0, 1) := by decide +kernel
theorem d_Law_arc_18 : decode method_4_code 18 = .ok (.ireturn, 1) := by decide +kernel
def f_Law_arc (a1 : Int32) (a2 : Int32) (M : oz_M) : Option (Int32 × oz_M) := oz_b2 (f_Hall_arc a1 a2 M) fun w M1 => oz_el (fun kx => if kx = 1 then (some (1, M1)) else none) (fun v => (oz_in 0 1).bind fun j51 => (some (oz_l M1 74 j51 (Int32.toInt64 v))).bind fun M52 => some (0, M52)) w
set_option maxRecDepth 20000 in
set_option maxHeartbeats 2000000 in
theorem c_Law_arc {l : Launch} {D : va_G} {cs : Nat → ClassId} {b : Nat} {a1 : Int32} {a2 : Int32} {M : oz_M} {vz : Int32} {Mz : oz_M} (hfl : l.stackTraces = false) (hF : f_Law_arc a1 a2 M = some (vz, Mz)) : oz_MetW l D cs b y_Law_arc method_4_code 5 [(0, 10, 13, 19)] 7 [.ref (b + 0), .int a1, .int a2, .ref (b + 74)] M vz Mz := by
  refine oz_enterW (by decide) (Nat.le_of_ble_eq_true rfl) (fun G cx cx1 hR hR1 hEx e1 hRm hcs e2 e3 e4 hnL => ?_)
  subst e1; subst e2; subst e3; subst e4
  refine (?_ : oz_R G 0 [(0, .ref (oz_b G + 0)), (1, .int a1), (2, .int a2), (3, .ref (oz_b G + 74))] [] M (f_Law_arc a1 a2 M) (fun x => x = (vz, Mz))) _ hF rfl
  unfold f_Law_arc
  refine oz_aload_n (q := 1) cx d_Law_arc_0 rfl rfl 3 rfl ?_
  refine oz_iconst (q := 2) cx d_Law_arc_1 rfl (v := 0) rfl ?_
  refine oz_aload_n (q := 3) cx d_Law_arc_2 rfl rfl 0 rfl ?_
  refine oz_iload_n (q := 4) cx d_Law_arc_3 rfl rfl 1 rfl ?_
  refine oz_iload_n (q := 5) cx d_Law_arc_4 rfl rfl 2 rfl ?_
  refine oz_case (fun v M1 hv => ?_) (fun kx M1 hv => ?_)
  · refine (?_ : oz_R G 5 [(0, .ref (oz_b G + 0)), (1, .int a1), (2, .int a2), (3, .ref (oz_b G + 74))] [.int a2, .int a1, .ref (oz_b G + 0), .int 0, .ref (oz_b G + 74)] M (oz_b2 (some (v, M1)) fun v M1 => (oz_in 0 1).bind fun j51 => (some (oz_l M1 74 j51 (Int32.toInt64 v))).bind fun M52 => some (0, M52)) (fun x => x = (vz, Mz)))
    refine oz_cVi (kc := 6) (q := 8) cx 0 [.int a1, .int a2] 2 0 hRm (by decide) (by decide) (fun _ _ h => by cases h; exact c_Hall_arc hv) ⟨tw_438, tw_439, tw_440, tw_1⟩ tw_441 (by decide +kernel) rfl (by decide) rfl rfl (st := [.int 0, .ref (oz_b G + 74)]) rfl (Nat.le_of_ble_eq_true rfl) d_Law_arc_5 rfl (fun v M1 _ => ?_)
    refine oz_i2l (q := 9) cx d_Law_arc_8 rfl ?_
    refine oz_last (q := 10) cx 74 1 (by decide) (fun _ => rfl) d_Law_arc_9 rfl (fun j51 hj51 => ?_)
    refine oz_nm (fun M52 hM52 => ?_)
    refine oz_goto cx d_Law_arc_10 rfl ?_
    refine oz_iconst (q := 18) cx d_Law_arc_17 rfl (v := 0) rfl ?_
    exact oz_iret cx hR d_Law_arc_18
  · refine oz_ite (fun hk => ?_) (fun _ => ?_)
    · subst hk
      refine oz_caught (kx := 1) cx (ps := []) (rs := []) (rest := [.int 0, .ref (oz_b G + 74)]) hEx rfl (by decide) (by decide) tw_437 tc_cast1 (fun p hp => by cases hp) (fun H locs ls hP hS hl => oz_trunV (C := "OrderHall") (n := 2) (i := 0) cx (t_Hall_arc hfl hv) hP hS ⟨tw_438, tw_439, tw_440, tw_1⟩ rfl tw_441 (by decide +kernel) rfl (by decide) rfl rfl (oz_roomT hRm (by decide) (by decide)) hcs.1 hcs.2 rfl hl.1 (As := [.int a1, .int a2]) rfl (lv_room (Nat.le_of_ble_eq_true rfl)) d_Law_arc_5) (fun xv => ?_)
      refine oz_astore (q := 15) cx1 d_Law_arc_13 rfl (by rw [hnL]; decide) (lv2 := [(4, .ref xv), (0, .ref (oz_b G + 0)), (1, .int a1), (2, .int a2), (3, .ref (oz_b G + 74))]) rfl ?_
      refine oz_iconst (q := 16) cx1 d_Law_arc_15 rfl (v := 1) rfl ?_
      exact oz_iret cx1 hR1 d_Law_arc_16
    · skip
      exact oz_none
def y_Law_drop : MethodName := ⟨"OrderHallLaw", "drop", "(LOrderHall;II[J)I"⟩
theorem d_Law_drop_0 : decode method_5_code 0 = .ok (.aload_n 3, 1) := by decide +kernel
theorem d_Law_drop_1 : decode method_5_code 1 = .ok (.iconst 0, 1) := by decide +kernel
theorem d_Law_drop_2 : decode method_5_code 2 = .ok (.aload_n 0, 1) := by decide +kernel
theorem d_Law_drop_3 : decode method_5_code 3 = .ok (.iload_n 1, 1) := by decide +kernel
theorem d_Law_drop_4 : decode method_5_code 4 = .ok (.iload_n 2, 1) := by decide +kernel
theorem d_Law_drop_5 : decode method_5_code 5 = .ok (.invokevirtual 21, 3) := by decide +kernel
theorem d_Law_drop_8 : decode method_5_code 8 = .ok (.i2l, 1) := by decide +kernel
theorem d_Law_drop_9 : decode method_5_code 9 = .ok (.lastore, 1) := by decide +kernel
theorem d_Law_drop_10 : decode method_5_code 10 = .ok (.goto 7, 3) := by decide +kernel
theorem d_Law_drop_13 : decode method_5_code 13 = .ok (.astore 4, 2) := by decide +kernel
theorem d_Law_drop_15 : decode method_5_code 15 = .ok (.iconst 1, 1) := by decide +kernel
theorem d_Law_drop_16 : decode method_5_code 16 = .ok (.ireturn, 1) := by decide +kernel
theorem d_Law_drop_17 : decode method_5_code 17 = .ok (.iconst 0, 1) := by decide +kernel
theorem d_Law_drop_18 : decode method_5_code 18 = .ok (.ireturn, 1) := by decide +kernel
def f_Law_drop (a1 : Int32) (a2 : Int32) (M : oz_M) : Option (Int32 × oz_M) := oz_b2 (f_Hall_drop a1 a2 M) fun w M1 => oz_el (fun kx => if kx = 1 then (some (1, M1)) else none) (fun v => (oz_in 0 1).bind fun j51 => (some (oz_l M1 74 j51 (Int32.toInt64 v))).bind fun M52 => some (0, M52)) w
set_option maxRecDepth 20000 in
set_option maxHeartbeats 2000000 in
theorem c_Law_drop {l : Launch} {D : va_G} {cs : Nat → ClassId} {b : Nat} {a1 : Int32} {a2 : Int32} {M : oz_M} {vz : Int32} {Mz : oz_M} (hfl : l.stackTraces = false) (hF : f_Law_drop a1 a2 M = some (vz, Mz)) : oz_MetW l D cs b y_Law_drop method_5_code 5 [(0, 10, 13, 19)] 7 [.ref (b + 0), .int a1, .int a2, .ref (b + 74)] M vz Mz := by
  refine oz_enterW (by decide) (Nat.le_of_ble_eq_true rfl) (fun G cx cx1 hR hR1 hEx e1 hRm hcs e2 e3 e4 hnL => ?_)
  subst e1; subst e2; subst e3; subst e4
  refine (?_ : oz_R G 0 [(0, .ref (oz_b G + 0)), (1, .int a1), (2, .int a2), (3, .ref (oz_b G + 74))] [] M (f_Law_drop a1 a2 M) (fun x => x = (vz, Mz))) _ hF rfl
  unfold f_Law_drop
  refine oz_aload_n (q := 1) cx d_Law_drop_0 rfl rfl 3 rfl ?_
  refine oz_iconst (q := 2) cx d_Law_drop_1 rfl (v := 0) rfl ?_
  refine oz_aload_n (q := 3) cx d_Law_drop_2 rfl rfl 0 rfl ?_
  refine oz_iload_n (q := 4) cx d_Law_drop_3 rfl rfl 1 rfl ?_
  refine oz_iload_n (q := 5) cx d_Law_drop_4 rfl rfl 2 rfl ?_
  refine oz_case (fun v M1 hv => ?_) (fun kx M1 hv => ?_)
  · refine (?_ : oz_R G 5 [(0, .ref (oz_b G + 0)), (1, .int a1), (2, .int a2), (3, .ref (oz_b G + 74))] [.int a2, .int a1, .ref (oz_b G + 0), .int 0, .ref (oz_b G + 74)] M (oz_b2 (some (v, M1)) fun v M1 => (oz_in 0 1).bind fun j51 => (some (oz_l M1 74 j51 (Int32.toInt64 v))).bind fun M52 => some (0, M52)) (fun x => x = (vz, Mz)))
    refine oz_cVi (kc := 6) (q := 8) cx 0 [.int a1, .int a2] 2 0 hRm (by decide) (by decide) (fun _ _ h => by cases h; exact c_Hall_drop hv) ⟨tw_469, tw_470, tw_471, tw_1⟩ tw_472 (by decide +kernel) rfl (by decide) rfl rfl (st := [.int 0, .ref (oz_b G + 74)]) rfl (Nat.le_of_ble_eq_true rfl) d_Law_drop_5 rfl (fun v M1 _ => ?_)
    refine oz_i2l (q := 9) cx d_Law_drop_8 rfl ?_
    refine oz_last (q := 10) cx 74 1 (by decide) (fun _ => rfl) d_Law_drop_9 rfl (fun j51 hj51 => ?_)
    refine oz_nm (fun M52 hM52 => ?_)
    refine oz_goto cx d_Law_drop_10 rfl ?_
    refine oz_iconst (q := 18) cx d_Law_drop_17 rfl (v := 0) rfl ?_
    exact oz_iret cx hR d_Law_drop_18
  · refine oz_ite (fun hk => ?_) (fun _ => ?_)
    · subst hk
      refine oz_caught (kx := 1) cx (ps := []) (rs := []) (rest := [.int 0, .ref (oz_b G + 74)]) hEx rfl (by decide) (by decide) tw_437 tc_cast1 (fun p hp => by cases hp) (fun H locs ls hP hS hl => oz_trunV (C := "OrderHall") (n := 2) (i := 0) cx (t_Hall_drop hfl hv) hP hS ⟨tw_469, tw_470, tw_471, tw_1⟩ rfl tw_472 (by decide +kernel) rfl (by decide) rfl rfl (oz_roomT hRm (by decide) (by decide)) hcs.1 hcs.2 rfl hl.1 (As := [.int a1, .int a2]) rfl (lv_room (Nat.le_of_ble_eq_true rfl)) d_Law_drop_5) (fun xv => ?_)
      refine oz_astore (q := 15) cx1 d_Law_drop_13 rfl (by rw [hnL]; decide) (lv2 := [(4, .ref xv), (0, .ref (oz_b G + 0)), (1, .int a1), (2, .int a2), (3, .ref (oz_b G + 74))]) rfl ?_
      refine oz_iconst (q := 16) cx1 d_Law_drop_15 rfl (v := 1) rfl ?_
      exact oz_iret cx1 hR1 d_Law_drop_16
    · skip
      exact oz_none
def y_Law_compare : MethodName := ⟨"OrderHallLaw", "compare", "(LOrderHall;II[J)I"⟩
theorem d_Law_compare_0 : decode method_6_code 0 = .ok (.aload_n 3, 1) := by decide +kernel
theorem d_Law_compare_1 : decode method_6_code 1 = .ok (.iconst 0, 1) := by decide +kernel
theorem d_Law_compare_2 : decode method_6_code 2 = .ok (.aload_n 0, 1) := by decide +kernel
theorem d_Law_compare_3 : decode method_6_code 3 = .ok (.iload_n 1, 1) := by decide +kernel
theorem d_Law_compare_4 : decode method_6_code 4 = .ok (.iload_n 2, 1) := by decide +kernel
theorem d_Law_compare_5 : decode method_6_code 5 = .ok (.invokevirtual 24, 3) := by decide +kernel
theorem d_Law_compare_8 : decode method_6_code 8 = .ok (.i2l, 1) := by decide +kernel
theorem d_Law_compare_9 : decode method_6_code 9 = .ok (.lastore, 1) := by decide +kernel
theorem d_Law_compare_10 : decode method_6_code 10 = .ok (.goto 11, 3) := by decide +kernel
theorem d_Law_compare_13 : decode method_6_code 13 = .ok (.astore 4, 2) := by decide +kernel
theorem d_Law_compare_15 : decode method_6_code 15 = .ok (.iconst 1, 1) := by decide +kernel
theorem d_Law_compare_16 : decode method_6_code 16 = .ok (.ireturn, 1) := by decide +kernel
theorem d_Law_compare_17 : decode method_6_code 17 = .ok (.astore 4, 2) := by decide +kernel
theorem d_Law_compare_19 : decode method_6_code 19 = .ok (.iconst 2, 1) := by decide +kernel
theorem d_Law_compare_20 : decode method_6_code 20 = .ok (.ireturn, 1) := by decide +kernel
theorem d_Law_compare_21 : decode method_6_code 21 = .ok (.iconst 0, 1) := by decide +kernel
theorem d_Law_compare_22 : decode method_6_code 22 = .ok (.ireturn, 1) := by decide +kernel
def f_Law_compare (a1 : Int32) (a2 : Int32) (M : oz_M) : Option (Int32 × oz_M) := oz_b2 (f_Hall_compare a1 a2 M) fun w M1 => oz_el (fun kx => if kx = 0 then (some (1, M1)) else if kx = 1 then (some (2, M1)) else none) (fun v => (oz_in 0 1).bind fun j51 => (some (oz_l M1 74 j51 (Int32.toInt64 v))).bind fun M52 => some (0, M52)) w
set_option maxRecDepth 20000 in
set_option maxHeartbeats 2000000 in
theorem c_Law_compare {l : Launch} {D : va_G} {cs : Nat → ClassId} {b : Nat} {a1 : Int32} {a2 : Int32} {M : oz_M} {vz : Int32} {Mz : oz_M} (hfl : l.stackTraces = false) (hF : f_Law_compare a1 a2 M = some (vz, Mz)) : oz_MetW l D cs b y_Law_compare method_6_code 5 [(0, 10, 13, 27), (0, 10, 17, 19)] 7 [.ref (b + 0), .int a1, .int a2, .ref (b + 74)] M vz Mz := by
  refine oz_enterW (by decide) (Nat.le_of_ble_eq_true rfl) (fun G cx cx1 hR hR1 hEx e1 hRm hcs e2 e3 e4 hnL => ?_)
  subst e1; subst e2; subst e3; subst e4
  refine (?_ : oz_R G 0 [(0, .ref (oz_b G + 0)), (1, .int a1), (2, .int a2), (3, .ref (oz_b G + 74))] [] M (f_Law_compare a1 a2 M) (fun x => x = (vz, Mz))) _ hF rfl
  unfold f_Law_compare
  refine oz_aload_n (q := 1) cx d_Law_compare_0 rfl rfl 3 rfl ?_
  refine oz_iconst (q := 2) cx d_Law_compare_1 rfl (v := 0) rfl ?_
  refine oz_aload_n (q := 3) cx d_Law_compare_2 rfl rfl 0 rfl ?_
  refine oz_iload_n (q := 4) cx d_Law_compare_3 rfl rfl 1 rfl ?_
  refine oz_iload_n (q := 5) cx d_Law_compare_4 rfl rfl 2 rfl ?_
  refine oz_case (fun v M1 hv => ?_) (fun kx M1 hv => ?_)
  · refine (?_ : oz_R G 5 [(0, .ref (oz_b G + 0)), (1, .int a1), (2, .int a2), (3, .ref (oz_b G + 74))] [.int a2, .int a1, .ref (oz_b G + 0), .int 0, .ref (oz_b G + 74)] M (oz_b2 (some (v, M1)) fun v M1 => (oz_in 0 1).bind fun j51 => (some (oz_l M1 74 j51 (Int32.toInt64 v))).bind fun M52 => some (0, M52)) (fun x => x = (vz, Mz)))
    refine oz_cVi (kc := 6) (q := 8) cx 0 [.int a1, .int a2] 2 0 hRm (by decide) (by decide) (fun _ _ h => by cases h; exact c_Hall_compare hv) ⟨tw_481, tw_482, tw_483, tw_1⟩ tw_484 (by decide +kernel) rfl (by decide) rfl rfl (st := [.int 0, .ref (oz_b G + 74)]) rfl (Nat.le_of_ble_eq_true rfl) d_Law_compare_5 rfl (fun v M1 _ => ?_)
    refine oz_i2l (q := 9) cx d_Law_compare_8 rfl ?_
    refine oz_last (q := 10) cx 74 1 (by decide) (fun _ => rfl) d_Law_compare_9 rfl (fun j51 hj51 => ?_)
    refine oz_nm (fun M52 hM52 => ?_)
    refine oz_goto cx d_Law_compare_10 rfl ?_
    refine oz_iconst (q := 22) cx d_Law_compare_21 rfl (v := 0) rfl ?_
    exact oz_iret cx hR d_Law_compare_22
  · refine oz_ite (fun hk => ?_) (fun _ => ?_)
    · subst hk
      refine oz_caught (kx := 0) cx (ps := []) (rs := [(0, 10, 17, 19)]) (rest := [.int 0, .ref (oz_b G + 74)]) hEx rfl (by decide) (by decide) tw_480 tc_cast0 (fun p hp => by cases hp) (fun H locs ls hP hS hl => oz_trunV (C := "OrderHall") (n := 2) (i := 0) cx (t_Hall_compare hfl hv) hP hS ⟨tw_481, tw_482, tw_483, tw_1⟩ rfl tw_484 (by decide +kernel) rfl (by decide) rfl rfl (oz_roomT hRm (by decide) (by decide)) hcs.1 hcs.2 rfl hl.1 (As := [.int a1, .int a2]) rfl (lv_room (Nat.le_of_ble_eq_true rfl)) d_Law_compare_5) (fun xv => ?_)
      refine oz_astore (q := 15) cx1 d_Law_compare_13 rfl (by rw [hnL]; decide) (lv2 := [(4, .ref xv), (0, .ref (oz_b G + 0)), (1, .int a1), (2, .int a2), (3, .ref (oz_b G + 74))]) rfl ?_
      refine oz_iconst (q := 16) cx1 d_Law_compare_15 rfl (v := 1) rfl ?_
      exact oz_iret cx1 hR1 d_Law_compare_16
    · skip
      refine oz_ite (fun hk => ?_) (fun _ => ?_)
      · subst hk
        refine oz_caught (kx := 1) cx (ps := [(0, 10, 13, 27)]) (rs := []) (rest := [.int 0, .ref (oz_b G + 74)]) hEx rfl (by decide) (by decide) tw_437 tc_cast1 (List.forall_mem_cons.mpr ⟨⟨by decide, 0, tw_480, List.mem_of_getElem? (i := 0) rfl⟩, fun _ h => absurd h List.not_mem_nil⟩) (fun H locs ls hP hS hl => oz_trunV (C := "OrderHall") (n := 2) (i := 0) cx (t_Hall_compare hfl hv) hP hS ⟨tw_481, tw_482, tw_483, tw_1⟩ rfl tw_484 (by decide +kernel) rfl (by decide) rfl rfl (oz_roomT hRm (by decide) (by decide)) hcs.1 hcs.2 rfl hl.1 (As := [.int a1, .int a2]) rfl (lv_room (Nat.le_of_ble_eq_true rfl)) d_Law_compare_5) (fun xv => ?_)
        refine oz_astore (q := 19) cx1 d_Law_compare_17 rfl (by rw [hnL]; decide) (lv2 := [(4, .ref xv), (0, .ref (oz_b G + 0)), (1, .int a1), (2, .int a2), (3, .ref (oz_b G + 74))]) rfl ?_
        refine oz_iconst (q := 20) cx1 d_Law_compare_19 rfl (v := 2) rfl ?_
        exact oz_iret cx1 hR1 d_Law_compare_20
      · skip
        exact oz_none
def y_Law_set : MethodName := ⟨"OrderHallLaw", "set", "(LOrderHall;II[J)I"⟩
theorem d_Law_set_0 : decode method_7_code 0 = .ok (.aload_n 3, 1) := by decide +kernel
theorem d_Law_set_1 : decode method_7_code 1 = .ok (.iconst 0, 1) := by decide +kernel
theorem d_Law_set_2 : decode method_7_code 2 = .ok (.aload_n 0, 1) := by decide +kernel
theorem d_Law_set_3 : decode method_7_code 3 = .ok (.iload_n 1, 1) := by decide +kernel
theorem d_Law_set_4 : decode method_7_code 4 = .ok (.iload_n 2, 1) := by decide +kernel
theorem d_Law_set_5 : decode method_7_code 5 = .ok (.invokevirtual 29, 3) := by decide +kernel
theorem d_Law_set_8 : decode method_7_code 8 = .ok (.i2l, 1) := by decide +kernel
theorem d_Law_set_9 : decode method_7_code 9 = .ok (.lastore, 1) := by decide +kernel
theorem d_Law_set_10 : decode method_7_code 10 = .ok (.goto 15, 3) := by decide +kernel
theorem d_Law_set_13 : decode method_7_code 13 = .ok (.astore 4, 2) := by decide +kernel
theorem d_Law_set_15 : decode method_7_code 15 = .ok (.iconst 1, 1) := by decide +kernel
theorem d_Law_set_16 : decode method_7_code 16 = .ok (.ireturn, 1) := by decide +kernel
theorem d_Law_set_17 : decode method_7_code 17 = .ok (.astore 4, 2) := by decide +kernel
theorem d_Law_set_19 : decode method_7_code 19 = .ok (.iconst 2, 1) := by decide +kernel
theorem d_Law_set_20 : decode method_7_code 20 = .ok (.ireturn, 1) := by decide +kernel
theorem d_Law_set_21 : decode method_7_code 21 = .ok (.astore 4, 2) := by decide +kernel
theorem d_Law_set_23 : decode method_7_code 23 = .ok (.iconst 3, 1) := by decide +kernel
theorem d_Law_set_24 : decode method_7_code 24 = .ok (.ireturn, 1) := by decide +kernel
theorem d_Law_set_25 : decode method_7_code 25 = .ok (.iconst 0, 1) := by decide +kernel
theorem d_Law_set_26 : decode method_7_code 26 = .ok (.ireturn, 1) := by decide +kernel
noncomputable def f_Law_set (a1 : Int32) (a2 : Int32) (M : oz_M) : Option (Int32 × oz_M) := oz_b2 (f_Hall_set a1 a2 M) fun w M1 => oz_el (fun kx => if kx = 0 then (some (1, M1)) else if kx = 1 then (some (2, M1)) else if kx = 2 then (some (3, M1)) else none) (fun v => (oz_in 0 1).bind fun j51 => (some (oz_l M1 74 j51 (Int32.toInt64 v))).bind fun M52 => some (0, M52)) w
set_option maxRecDepth 20000 in
set_option maxHeartbeats 2000000 in
theorem c_Law_set {l : Launch} {D : va_G} {cs : Nat → ClassId} {b : Nat} {a1 : Int32} {a2 : Int32} {M : oz_M} {vz : Int32} {Mz : oz_M} (hfl : l.stackTraces = false) (hF : f_Law_set a1 a2 M = some (vz, Mz)) : oz_MetW l D cs b y_Law_set method_7_code 5 [(0, 10, 13, 27), (0, 10, 17, 19), (0, 10, 21, 13)] 7 [.ref (b + 0), .int a1, .int a2, .ref (b + 74)] M vz Mz := by
  refine oz_enterW (by decide) (Nat.le_of_ble_eq_true rfl) (fun G cx cx1 hR hR1 hEx e1 hRm hcs e2 e3 e4 hnL => ?_)
  subst e1; subst e2; subst e3; subst e4
  refine (?_ : oz_R G 0 [(0, .ref (oz_b G + 0)), (1, .int a1), (2, .int a2), (3, .ref (oz_b G + 74))] [] M (f_Law_set a1 a2 M) (fun x => x = (vz, Mz))) _ hF rfl
  unfold f_Law_set
  refine oz_aload_n (q := 1) cx d_Law_set_0 rfl rfl 3 rfl ?_
  refine oz_iconst (q := 2) cx d_Law_set_1 rfl (v := 0) rfl ?_
  refine oz_aload_n (q := 3) cx d_Law_set_2 rfl rfl 0 rfl ?_
  refine oz_iload_n (q := 4) cx d_Law_set_3 rfl rfl 1 rfl ?_
  refine oz_iload_n (q := 5) cx d_Law_set_4 rfl rfl 2 rfl ?_
  refine oz_case (fun v M1 hv => ?_) (fun kx M1 hv => ?_)
  · refine (?_ : oz_R G 5 [(0, .ref (oz_b G + 0)), (1, .int a1), (2, .int a2), (3, .ref (oz_b G + 74))] [.int a2, .int a1, .ref (oz_b G + 0), .int 0, .ref (oz_b G + 74)] M (oz_b2 (some (v, M1)) fun v M1 => (oz_in 0 1).bind fun j51 => (some (oz_l M1 74 j51 (Int32.toInt64 v))).bind fun M52 => some (0, M52)) (fun x => x = (vz, Mz)))
    refine oz_cVi (kc := 6) (q := 8) cx 0 [.int a1, .int a2] 2 0 hRm (by decide) (by decide) (fun _ _ h => by cases h; exact c_Hall_set hv) ⟨tw_509, tw_510, tw_511, tw_1⟩ tw_512 (by decide +kernel) rfl (by decide) rfl rfl (st := [.int 0, .ref (oz_b G + 74)]) rfl (Nat.le_of_ble_eq_true rfl) d_Law_set_5 rfl (fun v M1 _ => ?_)
    refine oz_i2l (q := 9) cx d_Law_set_8 rfl ?_
    refine oz_last (q := 10) cx 74 1 (by decide) (fun _ => rfl) d_Law_set_9 rfl (fun j51 hj51 => ?_)
    refine oz_nm (fun M52 hM52 => ?_)
    refine oz_goto cx d_Law_set_10 rfl ?_
    refine oz_iconst (q := 26) cx d_Law_set_25 rfl (v := 0) rfl ?_
    exact oz_iret cx hR d_Law_set_26
  · refine oz_ite (fun hk => ?_) (fun _ => ?_)
    · subst hk
      refine oz_caught (kx := 0) cx (ps := []) (rs := [(0, 10, 17, 19), (0, 10, 21, 13)]) (rest := [.int 0, .ref (oz_b G + 74)]) hEx rfl (by decide) (by decide) tw_480 tc_cast0 (fun p hp => by cases hp) (fun H locs ls hP hS hl => oz_trunV (C := "OrderHall") (n := 2) (i := 0) cx (t_Hall_set hfl hv) hP hS ⟨tw_509, tw_510, tw_511, tw_1⟩ rfl tw_512 (by decide +kernel) rfl (by decide) rfl rfl (oz_roomT hRm (by decide) (by decide)) hcs.1 hcs.2 rfl hl.1 (As := [.int a1, .int a2]) rfl (lv_room (Nat.le_of_ble_eq_true rfl)) d_Law_set_5) (fun xv => ?_)
      refine oz_astore (q := 15) cx1 d_Law_set_13 rfl (by rw [hnL]; decide) (lv2 := [(4, .ref xv), (0, .ref (oz_b G + 0)), (1, .int a1), (2, .int a2), (3, .ref (oz_b G + 74))]) rfl ?_
      refine oz_iconst (q := 16) cx1 d_Law_set_15 rfl (v := 1) rfl ?_
      exact oz_iret cx1 hR1 d_Law_set_16
    · skip
      refine oz_ite (fun hk => ?_) (fun _ => ?_)
      · subst hk
        refine oz_caught (kx := 1) cx (ps := [(0, 10, 13, 27)]) (rs := [(0, 10, 21, 13)]) (rest := [.int 0, .ref (oz_b G + 74)]) hEx rfl (by decide) (by decide) tw_437 tc_cast1 (List.forall_mem_cons.mpr ⟨⟨by decide, 0, tw_480, List.mem_of_getElem? (i := 0) rfl⟩, fun _ h => absurd h List.not_mem_nil⟩) (fun H locs ls hP hS hl => oz_trunV (C := "OrderHall") (n := 2) (i := 0) cx (t_Hall_set hfl hv) hP hS ⟨tw_509, tw_510, tw_511, tw_1⟩ rfl tw_512 (by decide +kernel) rfl (by decide) rfl rfl (oz_roomT hRm (by decide) (by decide)) hcs.1 hcs.2 rfl hl.1 (As := [.int a1, .int a2]) rfl (lv_room (Nat.le_of_ble_eq_true rfl)) d_Law_set_5) (fun xv => ?_)
        refine oz_astore (q := 19) cx1 d_Law_set_17 rfl (by rw [hnL]; decide) (lv2 := [(4, .ref xv), (0, .ref (oz_b G + 0)), (1, .int a1), (2, .int a2), (3, .ref (oz_b G + 74))]) rfl ?_
        refine oz_iconst (q := 20) cx1 d_Law_set_19 rfl (v := 2) rfl ?_
        exact oz_iret cx1 hR1 d_Law_set_20
      · skip
        refine oz_ite (fun hk => ?_) (fun _ => ?_)
        · subst hk
          refine oz_caught (kx := 2) cx (ps := [(0, 10, 13, 27), (0, 10, 17, 19)]) (rs := []) (rest := [.int 0, .ref (oz_b G + 74)]) hEx rfl (by decide) (by decide) tw_358 tc_cast2 (List.forall_mem_cons.mpr ⟨⟨by decide, 0, tw_480, List.mem_of_getElem? (i := 1) rfl⟩, List.forall_mem_cons.mpr ⟨⟨by decide, 1, tw_437, List.mem_of_getElem? (i := 2) rfl⟩, fun _ h => absurd h List.not_mem_nil⟩⟩) (fun H locs ls hP hS hl => oz_trunV (C := "OrderHall") (n := 2) (i := 0) cx (t_Hall_set hfl hv) hP hS ⟨tw_509, tw_510, tw_511, tw_1⟩ rfl tw_512 (by decide +kernel) rfl (by decide) rfl rfl (oz_roomT hRm (by decide) (by decide)) hcs.1 hcs.2 rfl hl.1 (As := [.int a1, .int a2]) rfl (lv_room (Nat.le_of_ble_eq_true rfl)) d_Law_set_5) (fun xv => ?_)
          refine oz_astore (q := 23) cx1 d_Law_set_21 rfl (by rw [hnL]; decide) (lv2 := [(4, .ref xv), (0, .ref (oz_b G + 0)), (1, .int a1), (2, .int a2), (3, .ref (oz_b G + 74))]) rfl ?_
          refine oz_iconst (q := 24) cx1 d_Law_set_23 rfl (v := 3) rfl ?_
          exact oz_iret cx1 hR1 d_Law_set_24
        · skip
          exact oz_none
def y_Law_level : MethodName := ⟨"OrderHallLaw", "level", "(LOrderHall;II[J)I"⟩
theorem d_Law_level_0 : decode method_8_code 0 = .ok (.aload_n 3, 1) := by decide +kernel
theorem d_Law_level_1 : decode method_8_code 1 = .ok (.iconst 0, 1) := by decide +kernel
theorem d_Law_level_2 : decode method_8_code 2 = .ok (.aload_n 0, 1) := by decide +kernel
theorem d_Law_level_3 : decode method_8_code 3 = .ok (.iload_n 1, 1) := by decide +kernel
theorem d_Law_level_4 : decode method_8_code 4 = .ok (.iload_n 2, 1) := by decide +kernel
theorem d_Law_level_5 : decode method_8_code 5 = .ok (.invokevirtual 32, 3) := by decide +kernel
theorem d_Law_level_8 : decode method_8_code 8 = .ok (.i2l, 1) := by decide +kernel
theorem d_Law_level_9 : decode method_8_code 9 = .ok (.lastore, 1) := by decide +kernel
theorem d_Law_level_10 : decode method_8_code 10 = .ok (.goto 15, 3) := by decide +kernel
theorem d_Law_level_13 : decode method_8_code 13 = .ok (.astore 4, 2) := by decide +kernel
theorem d_Law_level_15 : decode method_8_code 15 = .ok (.iconst 1, 1) := by decide +kernel
theorem d_Law_level_16 : decode method_8_code 16 = .ok (.ireturn, 1) := by decide +kernel
theorem d_Law_level_17 : decode method_8_code 17 = .ok (.astore 4, 2) := by decide +kernel
theorem d_Law_level_19 : decode method_8_code 19 = .ok (.iconst 2, 1) := by decide +kernel
theorem d_Law_level_20 : decode method_8_code 20 = .ok (.ireturn, 1) := by decide +kernel
theorem d_Law_level_21 : decode method_8_code 21 = .ok (.astore 4, 2) := by decide +kernel
theorem d_Law_level_23 : decode method_8_code 23 = .ok (.iconst 3, 1) := by decide +kernel
theorem d_Law_level_24 : decode method_8_code 24 = .ok (.ireturn, 1) := by decide +kernel
theorem d_Law_level_25 : decode method_8_code 25 = .ok (.iconst 0, 1) := by decide +kernel
theorem d_Law_level_26 : decode method_8_code 26 = .ok (.ireturn, 1) := by decide +kernel
def f_Law_level (a1 : Int32) (a2 : Int32) (M : oz_M) : Option (Int32 × oz_M) := oz_b2 (f_Hall_level a1 a2 M) fun w M1 => oz_el (fun kx => if kx = 0 then (some (1, M1)) else if kx = 1 then (some (2, M1)) else if kx = 2 then (some (3, M1)) else none) (fun v => (oz_in 0 1).bind fun j51 => (some (oz_l M1 74 j51 (Int32.toInt64 v))).bind fun M52 => some (0, M52)) w
set_option maxRecDepth 20000 in
set_option maxHeartbeats 2000000 in
theorem c_Law_level {l : Launch} {D : va_G} {cs : Nat → ClassId} {b : Nat} {a1 : Int32} {a2 : Int32} {M : oz_M} {vz : Int32} {Mz : oz_M} (hfl : l.stackTraces = false) (hF : f_Law_level a1 a2 M = some (vz, Mz)) : oz_MetW l D cs b y_Law_level method_8_code 5 [(0, 10, 13, 27), (0, 10, 17, 19), (0, 10, 21, 13)] 7 [.ref (b + 0), .int a1, .int a2, .ref (b + 74)] M vz Mz := by
  refine oz_enterW (by decide) (Nat.le_of_ble_eq_true rfl) (fun G cx cx1 hR hR1 hEx e1 hRm hcs e2 e3 e4 hnL => ?_)
  subst e1; subst e2; subst e3; subst e4
  refine (?_ : oz_R G 0 [(0, .ref (oz_b G + 0)), (1, .int a1), (2, .int a2), (3, .ref (oz_b G + 74))] [] M (f_Law_level a1 a2 M) (fun x => x = (vz, Mz))) _ hF rfl
  unfold f_Law_level
  refine oz_aload_n (q := 1) cx d_Law_level_0 rfl rfl 3 rfl ?_
  refine oz_iconst (q := 2) cx d_Law_level_1 rfl (v := 0) rfl ?_
  refine oz_aload_n (q := 3) cx d_Law_level_2 rfl rfl 0 rfl ?_
  refine oz_iload_n (q := 4) cx d_Law_level_3 rfl rfl 1 rfl ?_
  refine oz_iload_n (q := 5) cx d_Law_level_4 rfl rfl 2 rfl ?_
  refine oz_case (fun v M1 hv => ?_) (fun kx M1 hv => ?_)
  · refine (?_ : oz_R G 5 [(0, .ref (oz_b G + 0)), (1, .int a1), (2, .int a2), (3, .ref (oz_b G + 74))] [.int a2, .int a1, .ref (oz_b G + 0), .int 0, .ref (oz_b G + 74)] M (oz_b2 (some (v, M1)) fun v M1 => (oz_in 0 1).bind fun j51 => (some (oz_l M1 74 j51 (Int32.toInt64 v))).bind fun M52 => some (0, M52)) (fun x => x = (vz, Mz)))
    refine oz_cVi (kc := 6) (q := 8) cx 0 [.int a1, .int a2] 2 0 hRm (by decide) (by decide) (fun _ _ h => by cases h; exact c_Hall_level hv) ⟨tw_524, tw_525, tw_526, tw_1⟩ tw_527 (by decide +kernel) rfl (by decide) rfl rfl (st := [.int 0, .ref (oz_b G + 74)]) rfl (Nat.le_of_ble_eq_true rfl) d_Law_level_5 rfl (fun v M1 _ => ?_)
    refine oz_i2l (q := 9) cx d_Law_level_8 rfl ?_
    refine oz_last (q := 10) cx 74 1 (by decide) (fun _ => rfl) d_Law_level_9 rfl (fun j51 hj51 => ?_)
    refine oz_nm (fun M52 hM52 => ?_)
    refine oz_goto cx d_Law_level_10 rfl ?_
    refine oz_iconst (q := 26) cx d_Law_level_25 rfl (v := 0) rfl ?_
    exact oz_iret cx hR d_Law_level_26
  · refine oz_ite (fun hk => ?_) (fun _ => ?_)
    · subst hk
      refine oz_caught (kx := 0) cx (ps := []) (rs := [(0, 10, 17, 19), (0, 10, 21, 13)]) (rest := [.int 0, .ref (oz_b G + 74)]) hEx rfl (by decide) (by decide) tw_480 tc_cast0 (fun p hp => by cases hp) (fun H locs ls hP hS hl => oz_trunV (C := "OrderHall") (n := 2) (i := 0) cx (t_Hall_level hfl hv) hP hS ⟨tw_524, tw_525, tw_526, tw_1⟩ rfl tw_527 (by decide +kernel) rfl (by decide) rfl rfl (oz_roomT hRm (by decide) (by decide)) hcs.1 hcs.2 rfl hl.1 (As := [.int a1, .int a2]) rfl (lv_room (Nat.le_of_ble_eq_true rfl)) d_Law_level_5) (fun xv => ?_)
      refine oz_astore (q := 15) cx1 d_Law_level_13 rfl (by rw [hnL]; decide) (lv2 := [(4, .ref xv), (0, .ref (oz_b G + 0)), (1, .int a1), (2, .int a2), (3, .ref (oz_b G + 74))]) rfl ?_
      refine oz_iconst (q := 16) cx1 d_Law_level_15 rfl (v := 1) rfl ?_
      exact oz_iret cx1 hR1 d_Law_level_16
    · skip
      refine oz_ite (fun hk => ?_) (fun _ => ?_)
      · subst hk
        refine oz_caught (kx := 1) cx (ps := [(0, 10, 13, 27)]) (rs := [(0, 10, 21, 13)]) (rest := [.int 0, .ref (oz_b G + 74)]) hEx rfl (by decide) (by decide) tw_437 tc_cast1 (List.forall_mem_cons.mpr ⟨⟨by decide, 0, tw_480, List.mem_of_getElem? (i := 0) rfl⟩, fun _ h => absurd h List.not_mem_nil⟩) (fun H locs ls hP hS hl => oz_trunV (C := "OrderHall") (n := 2) (i := 0) cx (t_Hall_level hfl hv) hP hS ⟨tw_524, tw_525, tw_526, tw_1⟩ rfl tw_527 (by decide +kernel) rfl (by decide) rfl rfl (oz_roomT hRm (by decide) (by decide)) hcs.1 hcs.2 rfl hl.1 (As := [.int a1, .int a2]) rfl (lv_room (Nat.le_of_ble_eq_true rfl)) d_Law_level_5) (fun xv => ?_)
        refine oz_astore (q := 19) cx1 d_Law_level_17 rfl (by rw [hnL]; decide) (lv2 := [(4, .ref xv), (0, .ref (oz_b G + 0)), (1, .int a1), (2, .int a2), (3, .ref (oz_b G + 74))]) rfl ?_
        refine oz_iconst (q := 20) cx1 d_Law_level_19 rfl (v := 2) rfl ?_
        exact oz_iret cx1 hR1 d_Law_level_20
      · skip
        refine oz_ite (fun hk => ?_) (fun _ => ?_)
        · subst hk
          refine oz_caught (kx := 2) cx (ps := [(0, 10, 13, 27), (0, 10, 17, 19)]) (rs := []) (rest := [.int 0, .ref (oz_b G + 74)]) hEx rfl (by decide) (by decide) tw_358 tc_cast2 (List.forall_mem_cons.mpr ⟨⟨by decide, 0, tw_480, List.mem_of_getElem? (i := 1) rfl⟩, List.forall_mem_cons.mpr ⟨⟨by decide, 1, tw_437, List.mem_of_getElem? (i := 2) rfl⟩, fun _ h => absurd h List.not_mem_nil⟩⟩) (fun H locs ls hP hS hl => oz_trunV (C := "OrderHall") (n := 2) (i := 0) cx (t_Hall_level hfl hv) hP hS ⟨tw_524, tw_525, tw_526, tw_1⟩ rfl tw_527 (by decide +kernel) rfl (by decide) rfl rfl (oz_roomT hRm (by decide) (by decide)) hcs.1 hcs.2 rfl hl.1 (As := [.int a1, .int a2]) rfl (lv_room (Nat.le_of_ble_eq_true rfl)) d_Law_level_5) (fun xv => ?_)
          refine oz_astore (q := 23) cx1 d_Law_level_21 rfl (by rw [hnL]; decide) (lv2 := [(4, .ref xv), (0, .ref (oz_b G + 0)), (1, .int a1), (2, .int a2), (3, .ref (oz_b G + 74))]) rfl ?_
          refine oz_iconst (q := 24) cx1 d_Law_level_23 rfl (v := 3) rfl ?_
          exact oz_iret cx1 hR1 d_Law_level_24
        · skip
          exact oz_none
def y_Law_count : MethodName := ⟨"OrderHallLaw", "count", "(LOrderHall;I[J)I"⟩
theorem d_Law_count_0 : decode method_9_code 0 = .ok (.aload_n 2, 1) := by decide +kernel
theorem d_Law_count_1 : decode method_9_code 1 = .ok (.iconst 0, 1) := by decide +kernel
theorem d_Law_count_2 : decode method_9_code 2 = .ok (.aload_n 0, 1) := by decide +kernel
theorem d_Law_count_3 : decode method_9_code 3 = .ok (.iload_n 1, 1) := by decide +kernel
theorem d_Law_count_4 : decode method_9_code 4 = .ok (.invokevirtual 35, 3) := by decide +kernel
theorem d_Law_count_7 : decode method_9_code 7 = .ok (.i2l, 1) := by decide +kernel
theorem d_Law_count_8 : decode method_9_code 8 = .ok (.lastore, 1) := by decide +kernel
theorem d_Law_count_9 : decode method_9_code 9 = .ok (.goto 9, 3) := by decide +kernel
theorem d_Law_count_12 : decode method_9_code 12 = .ok (.astore_n 3, 1) := by decide +kernel
theorem d_Law_count_13 : decode method_9_code 13 = .ok (.iconst 1, 1) := by decide +kernel
theorem d_Law_count_14 : decode method_9_code 14 = .ok (.ireturn, 1) := by decide +kernel
theorem d_Law_count_15 : decode method_9_code 15 = .ok (.astore_n 3, 1) := by decide +kernel
theorem d_Law_count_16 : decode method_9_code 16 = .ok (.iconst 2, 1) := by decide +kernel
theorem d_Law_count_17 : decode method_9_code 17 = .ok (.ireturn, 1) := by decide +kernel
theorem d_Law_count_18 : decode method_9_code 18 = .ok (.iconst 0, 1) := by decide +kernel
theorem d_Law_count_19 : decode method_9_code 19 = .ok (.ireturn, 1) := by decide +kernel
noncomputable def f_Law_count (a1 : Int32) (M : oz_M) : Option (Int32 × oz_M) := oz_b2 (f_Hall_count a1 M) fun w M1 => oz_el (fun kx => if kx = 0 then (some (1, M1)) else if kx = 2 then (some (2, M1)) else none) (fun v => (oz_in 0 1).bind fun j51 => (some (oz_l M1 74 j51 (Int32.toInt64 v))).bind fun M52 => some (0, M52)) w
set_option maxRecDepth 20000 in
set_option maxHeartbeats 2000000 in
theorem c_Law_count {l : Launch} {D : va_G} {cs : Nat → ClassId} {b : Nat} {a1 : Int32} {M : oz_M} {vz : Int32} {Mz : oz_M} (hfl : l.stackTraces = false) (hF : f_Law_count a1 M = some (vz, Mz)) : oz_MetW l D cs b y_Law_count method_9_code 4 [(0, 9, 12, 27), (0, 9, 15, 13)] 7 [.ref (b + 0), .int a1, .ref (b + 74)] M vz Mz := by
  refine oz_enterW (by decide) (Nat.le_of_ble_eq_true rfl) (fun G cx cx1 hR hR1 hEx e1 hRm hcs e2 e3 e4 hnL => ?_)
  subst e1; subst e2; subst e3; subst e4
  refine (?_ : oz_R G 0 [(0, .ref (oz_b G + 0)), (1, .int a1), (2, .ref (oz_b G + 74))] [] M (f_Law_count a1 M) (fun x => x = (vz, Mz))) _ hF rfl
  unfold f_Law_count
  refine oz_aload_n (q := 1) cx d_Law_count_0 rfl rfl 2 rfl ?_
  refine oz_iconst (q := 2) cx d_Law_count_1 rfl (v := 0) rfl ?_
  refine oz_aload_n (q := 3) cx d_Law_count_2 rfl rfl 0 rfl ?_
  refine oz_iload_n (q := 4) cx d_Law_count_3 rfl rfl 1 rfl ?_
  refine oz_case (fun v M1 hv => ?_) (fun kx M1 hv => ?_)
  · refine (?_ : oz_R G 4 [(0, .ref (oz_b G + 0)), (1, .int a1), (2, .ref (oz_b G + 74))] [.int a1, .ref (oz_b G + 0), .int 0, .ref (oz_b G + 74)] M (oz_b2 (some (v, M1)) fun v M1 => (oz_in 0 1).bind fun j51 => (some (oz_l M1 74 j51 (Int32.toInt64 v))).bind fun M52 => some (0, M52)) (fun x => x = (vz, Mz)))
    refine oz_cVi (kc := 6) (q := 7) cx 0 [.int a1] 1 0 hRm (by decide) (by decide) (fun _ _ h => by cases h; exact c_Hall_count hv) ⟨tw_531, tw_532, tw_533, tw_1⟩ tw_534 (by decide +kernel) rfl (by decide) rfl rfl (st := [.int 0, .ref (oz_b G + 74)]) rfl (Nat.le_of_ble_eq_true rfl) d_Law_count_4 rfl (fun v M1 _ => ?_)
    refine oz_i2l (q := 8) cx d_Law_count_7 rfl ?_
    refine oz_last (q := 9) cx 74 1 (by decide) (fun _ => rfl) d_Law_count_8 rfl (fun j51 hj51 => ?_)
    refine oz_nm (fun M52 hM52 => ?_)
    refine oz_goto cx d_Law_count_9 rfl ?_
    refine oz_iconst (q := 19) cx d_Law_count_18 rfl (v := 0) rfl ?_
    exact oz_iret cx hR d_Law_count_19
  · refine oz_ite (fun hk => ?_) (fun _ => ?_)
    · subst hk
      refine oz_caught (kx := 0) cx (ps := []) (rs := [(0, 9, 15, 13)]) (rest := [.int 0, .ref (oz_b G + 74)]) hEx rfl (by decide) (by decide) tw_480 tc_cast0 (fun p hp => by cases hp) (fun H locs ls hP hS hl => oz_trunV (C := "OrderHall") (n := 1) (i := 0) cx (t_Hall_count hfl hv) hP hS ⟨tw_531, tw_532, tw_533, tw_1⟩ rfl tw_534 (by decide +kernel) rfl (by decide) rfl rfl (oz_roomT hRm (by decide) (by decide)) hcs.1 hcs.2 rfl hl.1 (As := [.int a1]) rfl (lv_room (Nat.le_of_ble_eq_true rfl)) d_Law_count_4) (fun xv => ?_)
      refine oz_astore_n (q := 13) cx1 d_Law_count_12 rfl rfl (by rw [hnL]; decide) (lv2 := [(3, .ref xv), (0, .ref (oz_b G + 0)), (1, .int a1), (2, .ref (oz_b G + 74))]) rfl ?_
      refine oz_iconst (q := 14) cx1 d_Law_count_13 rfl (v := 1) rfl ?_
      exact oz_iret cx1 hR1 d_Law_count_14
    · skip
      refine oz_ite (fun hk => ?_) (fun _ => ?_)
      · subst hk
        refine oz_caught (kx := 2) cx (ps := [(0, 9, 12, 27)]) (rs := []) (rest := [.int 0, .ref (oz_b G + 74)]) hEx rfl (by decide) (by decide) tw_358 tc_cast2 (List.forall_mem_cons.mpr ⟨⟨by decide, 0, tw_480, List.mem_of_getElem? (i := 1) rfl⟩, fun _ h => absurd h List.not_mem_nil⟩) (fun H locs ls hP hS hl => oz_trunV (C := "OrderHall") (n := 1) (i := 0) cx (t_Hall_count hfl hv) hP hS ⟨tw_531, tw_532, tw_533, tw_1⟩ rfl tw_534 (by decide +kernel) rfl (by decide) rfl rfl (oz_roomT hRm (by decide) (by decide)) hcs.1 hcs.2 rfl hl.1 (As := [.int a1]) rfl (lv_room (Nat.le_of_ble_eq_true rfl)) d_Law_count_4) (fun xv => ?_)
        refine oz_astore_n (q := 16) cx1 d_Law_count_15 rfl rfl (by rw [hnL]; decide) (lv2 := [(3, .ref xv), (0, .ref (oz_b G + 0)), (1, .int a1), (2, .ref (oz_b G + 74))]) rfl ?_
        refine oz_iconst (q := 17) cx1 d_Law_count_16 rfl (v := 2) rfl ?_
        exact oz_iret cx1 hR1 d_Law_count_17
      · skip
        exact oz_none
def y_Law_antichain : MethodName := ⟨"OrderHallLaw", "antichain", "(LOrderHall;I[J)I"⟩
theorem d_Law_antichain_0 : decode method_10_code 0 = .ok (.aload_n 2, 1) := by decide +kernel
theorem d_Law_antichain_1 : decode method_10_code 1 = .ok (.iconst 0, 1) := by decide +kernel
theorem d_Law_antichain_2 : decode method_10_code 2 = .ok (.aload_n 0, 1) := by decide +kernel
theorem d_Law_antichain_3 : decode method_10_code 3 = .ok (.iload_n 1, 1) := by decide +kernel
theorem d_Law_antichain_4 : decode method_10_code 4 = .ok (.invokevirtual 39, 3) := by decide +kernel
theorem d_Law_antichain_7 : decode method_10_code 7 = .ok (.i2l, 1) := by decide +kernel
theorem d_Law_antichain_8 : decode method_10_code 8 = .ok (.lastore, 1) := by decide +kernel
theorem d_Law_antichain_9 : decode method_10_code 9 = .ok (.goto 9, 3) := by decide +kernel
theorem d_Law_antichain_12 : decode method_10_code 12 = .ok (.astore_n 3, 1) := by decide +kernel
theorem d_Law_antichain_13 : decode method_10_code 13 = .ok (.iconst 1, 1) := by decide +kernel
theorem d_Law_antichain_14 : decode method_10_code 14 = .ok (.ireturn, 1) := by decide +kernel
theorem d_Law_antichain_15 : decode method_10_code 15 = .ok (.astore_n 3, 1) := by decide +kernel
theorem d_Law_antichain_16 : decode method_10_code 16 = .ok (.iconst 2, 1) := by decide +kernel
theorem d_Law_antichain_17 : decode method_10_code 17 = .ok (.ireturn, 1) := by decide +kernel
theorem d_Law_antichain_18 : decode method_10_code 18 = .ok (.iconst 0, 1) := by decide +kernel
theorem d_Law_antichain_19 : decode method_10_code 19 = .ok (.ireturn, 1) := by decide +kernel
noncomputable def f_Law_antichain (a1 : Int32) (M : oz_M) : Option (Int32 × oz_M) := oz_b2 (f_Hall_antichain a1 M) fun w M1 => oz_el (fun kx => if kx = 0 then (some (1, M1)) else if kx = 2 then (some (2, M1)) else none) (fun v => (oz_in 0 1).bind fun j51 => (some (oz_l M1 74 j51 (Int32.toInt64 v))).bind fun M52 => some (0, M52)) w
set_option maxRecDepth 20000 in
set_option maxHeartbeats 2000000 in
theorem c_Law_antichain {l : Launch} {D : va_G} {cs : Nat → ClassId} {b : Nat} {a1 : Int32} {M : oz_M} {vz : Int32} {Mz : oz_M} (hfl : l.stackTraces = false) (hF : f_Law_antichain a1 M = some (vz, Mz)) : oz_MetW l D cs b y_Law_antichain method_10_code 4 [(0, 9, 12, 27), (0, 9, 15, 13)] 7 [.ref (b + 0), .int a1, .ref (b + 74)] M vz Mz := by
  refine oz_enterW (by decide) (Nat.le_of_ble_eq_true rfl) (fun G cx cx1 hR hR1 hEx e1 hRm hcs e2 e3 e4 hnL => ?_)
  subst e1; subst e2; subst e3; subst e4
  refine (?_ : oz_R G 0 [(0, .ref (oz_b G + 0)), (1, .int a1), (2, .ref (oz_b G + 74))] [] M (f_Law_antichain a1 M) (fun x => x = (vz, Mz))) _ hF rfl
  unfold f_Law_antichain
  refine oz_aload_n (q := 1) cx d_Law_antichain_0 rfl rfl 2 rfl ?_
  refine oz_iconst (q := 2) cx d_Law_antichain_1 rfl (v := 0) rfl ?_
  refine oz_aload_n (q := 3) cx d_Law_antichain_2 rfl rfl 0 rfl ?_
  refine oz_iload_n (q := 4) cx d_Law_antichain_3 rfl rfl 1 rfl ?_
  refine oz_case (fun v M1 hv => ?_) (fun kx M1 hv => ?_)
  · refine (?_ : oz_R G 4 [(0, .ref (oz_b G + 0)), (1, .int a1), (2, .ref (oz_b G + 74))] [.int a1, .ref (oz_b G + 0), .int 0, .ref (oz_b G + 74)] M (oz_b2 (some (v, M1)) fun v M1 => (oz_in 0 1).bind fun j51 => (some (oz_l M1 74 j51 (Int32.toInt64 v))).bind fun M52 => some (0, M52)) (fun x => x = (vz, Mz)))
    refine oz_cVi (kc := 6) (q := 7) cx 0 [.int a1] 1 0 hRm (by decide) (by decide) (fun _ _ h => by cases h; exact c_Hall_antichain hv) ⟨tw_578, tw_579, tw_580, tw_1⟩ tw_581 (by decide +kernel) rfl (by decide) rfl rfl (st := [.int 0, .ref (oz_b G + 74)]) rfl (Nat.le_of_ble_eq_true rfl) d_Law_antichain_4 rfl (fun v M1 _ => ?_)
    refine oz_i2l (q := 8) cx d_Law_antichain_7 rfl ?_
    refine oz_last (q := 9) cx 74 1 (by decide) (fun _ => rfl) d_Law_antichain_8 rfl (fun j51 hj51 => ?_)
    refine oz_nm (fun M52 hM52 => ?_)
    refine oz_goto cx d_Law_antichain_9 rfl ?_
    refine oz_iconst (q := 19) cx d_Law_antichain_18 rfl (v := 0) rfl ?_
    exact oz_iret cx hR d_Law_antichain_19
  · refine oz_ite (fun hk => ?_) (fun _ => ?_)
    · subst hk
      refine oz_caught (kx := 0) cx (ps := []) (rs := [(0, 9, 15, 13)]) (rest := [.int 0, .ref (oz_b G + 74)]) hEx rfl (by decide) (by decide) tw_480 tc_cast0 (fun p hp => by cases hp) (fun H locs ls hP hS hl => oz_trunV (C := "OrderHall") (n := 1) (i := 0) cx (t_Hall_antichain hfl hv) hP hS ⟨tw_578, tw_579, tw_580, tw_1⟩ rfl tw_581 (by decide +kernel) rfl (by decide) rfl rfl (oz_roomT hRm (by decide) (by decide)) hcs.1 hcs.2 rfl hl.1 (As := [.int a1]) rfl (lv_room (Nat.le_of_ble_eq_true rfl)) d_Law_antichain_4) (fun xv => ?_)
      refine oz_astore_n (q := 13) cx1 d_Law_antichain_12 rfl rfl (by rw [hnL]; decide) (lv2 := [(3, .ref xv), (0, .ref (oz_b G + 0)), (1, .int a1), (2, .ref (oz_b G + 74))]) rfl ?_
      refine oz_iconst (q := 14) cx1 d_Law_antichain_13 rfl (v := 1) rfl ?_
      exact oz_iret cx1 hR1 d_Law_antichain_14
    · skip
      refine oz_ite (fun hk => ?_) (fun _ => ?_)
      · subst hk
        refine oz_caught (kx := 2) cx (ps := [(0, 9, 12, 27)]) (rs := []) (rest := [.int 0, .ref (oz_b G + 74)]) hEx rfl (by decide) (by decide) tw_358 tc_cast2 (List.forall_mem_cons.mpr ⟨⟨by decide, 0, tw_480, List.mem_of_getElem? (i := 1) rfl⟩, fun _ h => absurd h List.not_mem_nil⟩) (fun H locs ls hP hS hl => oz_trunV (C := "OrderHall") (n := 1) (i := 0) cx (t_Hall_antichain hfl hv) hP hS ⟨tw_578, tw_579, tw_580, tw_1⟩ rfl tw_581 (by decide +kernel) rfl (by decide) rfl rfl (oz_roomT hRm (by decide) (by decide)) hcs.1 hcs.2 rfl hl.1 (As := [.int a1]) rfl (lv_room (Nat.le_of_ble_eq_true rfl)) d_Law_antichain_4) (fun xv => ?_)
        refine oz_astore_n (q := 16) cx1 d_Law_antichain_15 rfl rfl (by rw [hnL]; decide) (lv2 := [(3, .ref xv), (0, .ref (oz_b G + 0)), (1, .int a1), (2, .ref (oz_b G + 74))]) rfl ?_
        refine oz_iconst (q := 17) cx1 d_Law_antichain_16 rfl (v := 2) rfl ?_
        exact oz_iret cx1 hR1 d_Law_antichain_17
      · skip
        exact oz_none
def y_Law_most : MethodName := ⟨"OrderHallLaw", "most", "(LOrderHall;II[J)I"⟩
theorem d_Law_most_0 : decode method_11_code 0 = .ok (.aload_n 3, 1) := by decide +kernel
theorem d_Law_most_1 : decode method_11_code 1 = .ok (.iconst 0, 1) := by decide +kernel
theorem d_Law_most_2 : decode method_11_code 2 = .ok (.aload_n 0, 1) := by decide +kernel
theorem d_Law_most_3 : decode method_11_code 3 = .ok (.iload_n 1, 1) := by decide +kernel
theorem d_Law_most_4 : decode method_11_code 4 = .ok (.iload_n 2, 1) := by decide +kernel
theorem d_Law_most_5 : decode method_11_code 5 = .ok (.invokevirtual 42, 3) := by decide +kernel
theorem d_Law_most_8 : decode method_11_code 8 = .ok (.i2l, 1) := by decide +kernel
theorem d_Law_most_9 : decode method_11_code 9 = .ok (.lastore, 1) := by decide +kernel
theorem d_Law_most_10 : decode method_11_code 10 = .ok (.goto 11, 3) := by decide +kernel
theorem d_Law_most_13 : decode method_11_code 13 = .ok (.astore 4, 2) := by decide +kernel
theorem d_Law_most_15 : decode method_11_code 15 = .ok (.iconst 1, 1) := by decide +kernel
theorem d_Law_most_16 : decode method_11_code 16 = .ok (.ireturn, 1) := by decide +kernel
theorem d_Law_most_17 : decode method_11_code 17 = .ok (.astore 4, 2) := by decide +kernel
theorem d_Law_most_19 : decode method_11_code 19 = .ok (.iconst 2, 1) := by decide +kernel
theorem d_Law_most_20 : decode method_11_code 20 = .ok (.ireturn, 1) := by decide +kernel
theorem d_Law_most_21 : decode method_11_code 21 = .ok (.iconst 0, 1) := by decide +kernel
theorem d_Law_most_22 : decode method_11_code 22 = .ok (.ireturn, 1) := by decide +kernel
noncomputable def f_Law_most (a1 : Int32) (a2 : Int32) (M : oz_M) : Option (Int32 × oz_M) := oz_b2 (f_Hall_most a1 a2 M) fun w M1 => oz_el (fun kx => if kx = 0 then (some (1, M1)) else if kx = 2 then (some (2, M1)) else none) (fun v => (oz_in 0 1).bind fun j51 => (some (oz_l M1 74 j51 (Int32.toInt64 v))).bind fun M52 => some (0, M52)) w
set_option maxRecDepth 20000 in
set_option maxHeartbeats 2000000 in
theorem c_Law_most {l : Launch} {D : va_G} {cs : Nat → ClassId} {b : Nat} {a1 : Int32} {a2 : Int32} {M : oz_M} {vz : Int32} {Mz : oz_M} (hfl : l.stackTraces = false) (hF : f_Law_most a1 a2 M = some (vz, Mz)) : oz_MetW l D cs b y_Law_most method_11_code 5 [(0, 10, 13, 27), (0, 10, 17, 13)] 7 [.ref (b + 0), .int a1, .int a2, .ref (b + 74)] M vz Mz := by
  refine oz_enterW (by decide) (Nat.le_of_ble_eq_true rfl) (fun G cx cx1 hR hR1 hEx e1 hRm hcs e2 e3 e4 hnL => ?_)
  subst e1; subst e2; subst e3; subst e4
  refine (?_ : oz_R G 0 [(0, .ref (oz_b G + 0)), (1, .int a1), (2, .int a2), (3, .ref (oz_b G + 74))] [] M (f_Law_most a1 a2 M) (fun x => x = (vz, Mz))) _ hF rfl
  unfold f_Law_most
  refine oz_aload_n (q := 1) cx d_Law_most_0 rfl rfl 3 rfl ?_
  refine oz_iconst (q := 2) cx d_Law_most_1 rfl (v := 0) rfl ?_
  refine oz_aload_n (q := 3) cx d_Law_most_2 rfl rfl 0 rfl ?_
  refine oz_iload_n (q := 4) cx d_Law_most_3 rfl rfl 1 rfl ?_
  refine oz_iload_n (q := 5) cx d_Law_most_4 rfl rfl 2 rfl ?_
  refine oz_case (fun v M1 hv => ?_) (fun kx M1 hv => ?_)
  · refine (?_ : oz_R G 5 [(0, .ref (oz_b G + 0)), (1, .int a1), (2, .int a2), (3, .ref (oz_b G + 74))] [.int a2, .int a1, .ref (oz_b G + 0), .int 0, .ref (oz_b G + 74)] M (oz_b2 (some (v, M1)) fun v M1 => (oz_in 0 1).bind fun j51 => (some (oz_l M1 74 j51 (Int32.toInt64 v))).bind fun M52 => some (0, M52)) (fun x => x = (vz, Mz)))
    refine oz_cVi (kc := 6) (q := 8) cx 0 [.int a1, .int a2] 2 0 hRm (by decide) (by decide) (fun _ _ h => by cases h; exact c_Hall_most hv) ⟨tw_585, tw_586, tw_587, tw_1⟩ tw_588 (by decide +kernel) rfl (by decide) rfl rfl (st := [.int 0, .ref (oz_b G + 74)]) rfl (Nat.le_of_ble_eq_true rfl) d_Law_most_5 rfl (fun v M1 _ => ?_)
    refine oz_i2l (q := 9) cx d_Law_most_8 rfl ?_
    refine oz_last (q := 10) cx 74 1 (by decide) (fun _ => rfl) d_Law_most_9 rfl (fun j51 hj51 => ?_)
    refine oz_nm (fun M52 hM52 => ?_)
    refine oz_goto cx d_Law_most_10 rfl ?_
    refine oz_iconst (q := 22) cx d_Law_most_21 rfl (v := 0) rfl ?_
    exact oz_iret cx hR d_Law_most_22
  · refine oz_ite (fun hk => ?_) (fun _ => ?_)
    · subst hk
      refine oz_caught (kx := 0) cx (ps := []) (rs := [(0, 10, 17, 13)]) (rest := [.int 0, .ref (oz_b G + 74)]) hEx rfl (by decide) (by decide) tw_480 tc_cast0 (fun p hp => by cases hp) (fun H locs ls hP hS hl => oz_trunV (C := "OrderHall") (n := 2) (i := 0) cx (t_Hall_most hfl hv) hP hS ⟨tw_585, tw_586, tw_587, tw_1⟩ rfl tw_588 (by decide +kernel) rfl (by decide) rfl rfl (oz_roomT hRm (by decide) (by decide)) hcs.1 hcs.2 rfl hl.1 (As := [.int a1, .int a2]) rfl (lv_room (Nat.le_of_ble_eq_true rfl)) d_Law_most_5) (fun xv => ?_)
      refine oz_astore (q := 15) cx1 d_Law_most_13 rfl (by rw [hnL]; decide) (lv2 := [(4, .ref xv), (0, .ref (oz_b G + 0)), (1, .int a1), (2, .int a2), (3, .ref (oz_b G + 74))]) rfl ?_
      refine oz_iconst (q := 16) cx1 d_Law_most_15 rfl (v := 1) rfl ?_
      exact oz_iret cx1 hR1 d_Law_most_16
    · skip
      refine oz_ite (fun hk => ?_) (fun _ => ?_)
      · subst hk
        refine oz_caught (kx := 2) cx (ps := [(0, 10, 13, 27)]) (rs := []) (rest := [.int 0, .ref (oz_b G + 74)]) hEx rfl (by decide) (by decide) tw_358 tc_cast2 (List.forall_mem_cons.mpr ⟨⟨by decide, 0, tw_480, List.mem_of_getElem? (i := 1) rfl⟩, fun _ h => absurd h List.not_mem_nil⟩) (fun H locs ls hP hS hl => oz_trunV (C := "OrderHall") (n := 2) (i := 0) cx (t_Hall_most hfl hv) hP hS ⟨tw_585, tw_586, tw_587, tw_1⟩ rfl tw_588 (by decide +kernel) rfl (by decide) rfl rfl (oz_roomT hRm (by decide) (by decide)) hcs.1 hcs.2 rfl hl.1 (As := [.int a1, .int a2]) rfl (lv_room (Nat.le_of_ble_eq_true rfl)) d_Law_most_5) (fun xv => ?_)
        refine oz_astore (q := 19) cx1 d_Law_most_17 rfl (by rw [hnL]; decide) (lv2 := [(4, .ref xv), (0, .ref (oz_b G + 0)), (1, .int a1), (2, .int a2), (3, .ref (oz_b G + 74))]) rfl ?_
        refine oz_iconst (q := 20) cx1 d_Law_most_19 rfl (v := 2) rfl ?_
        exact oz_iret cx1 hR1 d_Law_most_20
      · skip
        exact oz_none
def y_Law_first : MethodName := ⟨"OrderHallLaw", "first", "(LOrderHall;II[J)I"⟩
theorem d_Law_first_0 : decode method_12_code 0 = .ok (.aload_n 3, 1) := by decide +kernel
theorem d_Law_first_1 : decode method_12_code 1 = .ok (.iconst 0, 1) := by decide +kernel
theorem d_Law_first_2 : decode method_12_code 2 = .ok (.aload_n 0, 1) := by decide +kernel
theorem d_Law_first_3 : decode method_12_code 3 = .ok (.iload_n 1, 1) := by decide +kernel
theorem d_Law_first_4 : decode method_12_code 4 = .ok (.iload_n 2, 1) := by decide +kernel
theorem d_Law_first_5 : decode method_12_code 5 = .ok (.invokevirtual 45, 3) := by decide +kernel
theorem d_Law_first_8 : decode method_12_code 8 = .ok (.i2l, 1) := by decide +kernel
theorem d_Law_first_9 : decode method_12_code 9 = .ok (.lastore, 1) := by decide +kernel
theorem d_Law_first_10 : decode method_12_code 10 = .ok (.goto 11, 3) := by decide +kernel
theorem d_Law_first_13 : decode method_12_code 13 = .ok (.astore 4, 2) := by decide +kernel
theorem d_Law_first_15 : decode method_12_code 15 = .ok (.iconst 1, 1) := by decide +kernel
theorem d_Law_first_16 : decode method_12_code 16 = .ok (.ireturn, 1) := by decide +kernel
theorem d_Law_first_17 : decode method_12_code 17 = .ok (.astore 4, 2) := by decide +kernel
theorem d_Law_first_19 : decode method_12_code 19 = .ok (.iconst 2, 1) := by decide +kernel
theorem d_Law_first_20 : decode method_12_code 20 = .ok (.ireturn, 1) := by decide +kernel
theorem d_Law_first_21 : decode method_12_code 21 = .ok (.iconst 0, 1) := by decide +kernel
theorem d_Law_first_22 : decode method_12_code 22 = .ok (.ireturn, 1) := by decide +kernel
noncomputable def f_Law_first (a1 : Int32) (a2 : Int32) (M : oz_M) : Option (Int32 × oz_M) := oz_b2 (f_Hall_first a1 a2 M) fun w M1 => oz_el (fun kx => if kx = 0 then (some (1, M1)) else if kx = 2 then (some (2, M1)) else none) (fun v => (oz_in 0 1).bind fun j51 => (some (oz_l M1 74 j51 (Int32.toInt64 v))).bind fun M52 => some (0, M52)) w
set_option maxRecDepth 20000 in
set_option maxHeartbeats 2000000 in
theorem c_Law_first {l : Launch} {D : va_G} {cs : Nat → ClassId} {b : Nat} {a1 : Int32} {a2 : Int32} {M : oz_M} {vz : Int32} {Mz : oz_M} (hfl : l.stackTraces = false) (hF : f_Law_first a1 a2 M = some (vz, Mz)) : oz_MetW l D cs b y_Law_first method_12_code 5 [(0, 10, 13, 27), (0, 10, 17, 13)] 7 [.ref (b + 0), .int a1, .int a2, .ref (b + 74)] M vz Mz := by
  refine oz_enterW (by decide) (Nat.le_of_ble_eq_true rfl) (fun G cx cx1 hR hR1 hEx e1 hRm hcs e2 e3 e4 hnL => ?_)
  subst e1; subst e2; subst e3; subst e4
  refine (?_ : oz_R G 0 [(0, .ref (oz_b G + 0)), (1, .int a1), (2, .int a2), (3, .ref (oz_b G + 74))] [] M (f_Law_first a1 a2 M) (fun x => x = (vz, Mz))) _ hF rfl
  unfold f_Law_first
  refine oz_aload_n (q := 1) cx d_Law_first_0 rfl rfl 3 rfl ?_
  refine oz_iconst (q := 2) cx d_Law_first_1 rfl (v := 0) rfl ?_
  refine oz_aload_n (q := 3) cx d_Law_first_2 rfl rfl 0 rfl ?_
  refine oz_iload_n (q := 4) cx d_Law_first_3 rfl rfl 1 rfl ?_
  refine oz_iload_n (q := 5) cx d_Law_first_4 rfl rfl 2 rfl ?_
  refine oz_case (fun v M1 hv => ?_) (fun kx M1 hv => ?_)
  · refine (?_ : oz_R G 5 [(0, .ref (oz_b G + 0)), (1, .int a1), (2, .int a2), (3, .ref (oz_b G + 74))] [.int a2, .int a1, .ref (oz_b G + 0), .int 0, .ref (oz_b G + 74)] M (oz_b2 (some (v, M1)) fun v M1 => (oz_in 0 1).bind fun j51 => (some (oz_l M1 74 j51 (Int32.toInt64 v))).bind fun M52 => some (0, M52)) (fun x => x = (vz, Mz)))
    refine oz_cVi (kc := 6) (q := 8) cx 0 [.int a1, .int a2] 2 0 hRm (by decide) (by decide) (fun _ _ h => by cases h; exact c_Hall_first hv) ⟨tw_592, tw_593, tw_594, tw_1⟩ tw_595 (by decide +kernel) rfl (by decide) rfl rfl (st := [.int 0, .ref (oz_b G + 74)]) rfl (Nat.le_of_ble_eq_true rfl) d_Law_first_5 rfl (fun v M1 _ => ?_)
    refine oz_i2l (q := 9) cx d_Law_first_8 rfl ?_
    refine oz_last (q := 10) cx 74 1 (by decide) (fun _ => rfl) d_Law_first_9 rfl (fun j51 hj51 => ?_)
    refine oz_nm (fun M52 hM52 => ?_)
    refine oz_goto cx d_Law_first_10 rfl ?_
    refine oz_iconst (q := 22) cx d_Law_first_21 rfl (v := 0) rfl ?_
    exact oz_iret cx hR d_Law_first_22
  · refine oz_ite (fun hk => ?_) (fun _ => ?_)
    · subst hk
      refine oz_caught (kx := 0) cx (ps := []) (rs := [(0, 10, 17, 13)]) (rest := [.int 0, .ref (oz_b G + 74)]) hEx rfl (by decide) (by decide) tw_480 tc_cast0 (fun p hp => by cases hp) (fun H locs ls hP hS hl => oz_trunV (C := "OrderHall") (n := 2) (i := 0) cx (t_Hall_first hfl hv) hP hS ⟨tw_592, tw_593, tw_594, tw_1⟩ rfl tw_595 (by decide +kernel) rfl (by decide) rfl rfl (oz_roomT hRm (by decide) (by decide)) hcs.1 hcs.2 rfl hl.1 (As := [.int a1, .int a2]) rfl (lv_room (Nat.le_of_ble_eq_true rfl)) d_Law_first_5) (fun xv => ?_)
      refine oz_astore (q := 15) cx1 d_Law_first_13 rfl (by rw [hnL]; decide) (lv2 := [(4, .ref xv), (0, .ref (oz_b G + 0)), (1, .int a1), (2, .int a2), (3, .ref (oz_b G + 74))]) rfl ?_
      refine oz_iconst (q := 16) cx1 d_Law_first_15 rfl (v := 1) rfl ?_
      exact oz_iret cx1 hR1 d_Law_first_16
    · skip
      refine oz_ite (fun hk => ?_) (fun _ => ?_)
      · subst hk
        refine oz_caught (kx := 2) cx (ps := [(0, 10, 13, 27)]) (rs := []) (rest := [.int 0, .ref (oz_b G + 74)]) hEx rfl (by decide) (by decide) tw_358 tc_cast2 (List.forall_mem_cons.mpr ⟨⟨by decide, 0, tw_480, List.mem_of_getElem? (i := 1) rfl⟩, fun _ h => absurd h List.not_mem_nil⟩) (fun H locs ls hP hS hl => oz_trunV (C := "OrderHall") (n := 2) (i := 0) cx (t_Hall_first hfl hv) hP hS ⟨tw_592, tw_593, tw_594, tw_1⟩ rfl tw_595 (by decide +kernel) rfl (by decide) rfl rfl (oz_roomT hRm (by decide) (by decide)) hcs.1 hcs.2 rfl hl.1 (As := [.int a1, .int a2]) rfl (lv_room (Nat.le_of_ble_eq_true rfl)) d_Law_first_5) (fun xv => ?_)
        refine oz_astore (q := 19) cx1 d_Law_first_17 rfl (by rw [hnL]; decide) (lv2 := [(4, .ref xv), (0, .ref (oz_b G + 0)), (1, .int a1), (2, .int a2), (3, .ref (oz_b G + 74))]) rfl ?_
        refine oz_iconst (q := 20) cx1 d_Law_first_19 rfl (v := 2) rfl ?_
        exact oz_iret cx1 hR1 d_Law_first_20
      · skip
        exact oz_none
def y_Law_chains : MethodName := ⟨"OrderHallLaw", "chains", "(LOrderHall;I[J)I"⟩
theorem d_Law_chains_0 : decode method_13_code 0 = .ok (.aload_n 2, 1) := by decide +kernel
theorem d_Law_chains_1 : decode method_13_code 1 = .ok (.iconst 0, 1) := by decide +kernel
theorem d_Law_chains_2 : decode method_13_code 2 = .ok (.aload_n 0, 1) := by decide +kernel
theorem d_Law_chains_3 : decode method_13_code 3 = .ok (.iload_n 1, 1) := by decide +kernel
theorem d_Law_chains_4 : decode method_13_code 4 = .ok (.invokevirtual 48, 3) := by decide +kernel
theorem d_Law_chains_7 : decode method_13_code 7 = .ok (.i2l, 1) := by decide +kernel
theorem d_Law_chains_8 : decode method_13_code 8 = .ok (.lastore, 1) := by decide +kernel
theorem d_Law_chains_9 : decode method_13_code 9 = .ok (.goto 9, 3) := by decide +kernel
theorem d_Law_chains_12 : decode method_13_code 12 = .ok (.astore_n 3, 1) := by decide +kernel
theorem d_Law_chains_13 : decode method_13_code 13 = .ok (.iconst 1, 1) := by decide +kernel
theorem d_Law_chains_14 : decode method_13_code 14 = .ok (.ireturn, 1) := by decide +kernel
theorem d_Law_chains_15 : decode method_13_code 15 = .ok (.astore_n 3, 1) := by decide +kernel
theorem d_Law_chains_16 : decode method_13_code 16 = .ok (.iconst 2, 1) := by decide +kernel
theorem d_Law_chains_17 : decode method_13_code 17 = .ok (.ireturn, 1) := by decide +kernel
theorem d_Law_chains_18 : decode method_13_code 18 = .ok (.iconst 0, 1) := by decide +kernel
theorem d_Law_chains_19 : decode method_13_code 19 = .ok (.ireturn, 1) := by decide +kernel
noncomputable def f_Law_chains (a1 : Int32) (M : oz_M) : Option (Int32 × oz_M) := oz_b2 (f_Hall_chains a1 M) fun w M1 => oz_el (fun kx => if kx = 0 then (some (1, M1)) else if kx = 2 then (some (2, M1)) else none) (fun v => (oz_in 0 1).bind fun j51 => (some (oz_l M1 74 j51 (Int32.toInt64 v))).bind fun M52 => some (0, M52)) w
set_option maxRecDepth 20000 in
set_option maxHeartbeats 2000000 in
theorem c_Law_chains {l : Launch} {D : va_G} {cs : Nat → ClassId} {b : Nat} {a1 : Int32} {M : oz_M} {vz : Int32} {Mz : oz_M} (hfl : l.stackTraces = false) (hF : f_Law_chains a1 M = some (vz, Mz)) : oz_MetW l D cs b y_Law_chains method_13_code 4 [(0, 9, 12, 27), (0, 9, 15, 13)] 7 [.ref (b + 0), .int a1, .ref (b + 74)] M vz Mz := by
  refine oz_enterW (by decide) (Nat.le_of_ble_eq_true rfl) (fun G cx cx1 hR hR1 hEx e1 hRm hcs e2 e3 e4 hnL => ?_)
  subst e1; subst e2; subst e3; subst e4
  refine (?_ : oz_R G 0 [(0, .ref (oz_b G + 0)), (1, .int a1), (2, .ref (oz_b G + 74))] [] M (f_Law_chains a1 M) (fun x => x = (vz, Mz))) _ hF rfl
  unfold f_Law_chains
  refine oz_aload_n (q := 1) cx d_Law_chains_0 rfl rfl 2 rfl ?_
  refine oz_iconst (q := 2) cx d_Law_chains_1 rfl (v := 0) rfl ?_
  refine oz_aload_n (q := 3) cx d_Law_chains_2 rfl rfl 0 rfl ?_
  refine oz_iload_n (q := 4) cx d_Law_chains_3 rfl rfl 1 rfl ?_
  refine oz_case (fun v M1 hv => ?_) (fun kx M1 hv => ?_)
  · refine (?_ : oz_R G 4 [(0, .ref (oz_b G + 0)), (1, .int a1), (2, .ref (oz_b G + 74))] [.int a1, .ref (oz_b G + 0), .int 0, .ref (oz_b G + 74)] M (oz_b2 (some (v, M1)) fun v M1 => (oz_in 0 1).bind fun j51 => (some (oz_l M1 74 j51 (Int32.toInt64 v))).bind fun M52 => some (0, M52)) (fun x => x = (vz, Mz)))
    refine oz_cVi (kc := 6) (q := 7) cx 0 [.int a1] 1 0 hRm (by decide) (by decide) (fun _ _ h => by cases h; exact c_Hall_chains hv) ⟨tw_599, tw_600, tw_601, tw_1⟩ tw_602 (by decide +kernel) rfl (by decide) rfl rfl (st := [.int 0, .ref (oz_b G + 74)]) rfl (Nat.le_of_ble_eq_true rfl) d_Law_chains_4 rfl (fun v M1 _ => ?_)
    refine oz_i2l (q := 8) cx d_Law_chains_7 rfl ?_
    refine oz_last (q := 9) cx 74 1 (by decide) (fun _ => rfl) d_Law_chains_8 rfl (fun j51 hj51 => ?_)
    refine oz_nm (fun M52 hM52 => ?_)
    refine oz_goto cx d_Law_chains_9 rfl ?_
    refine oz_iconst (q := 19) cx d_Law_chains_18 rfl (v := 0) rfl ?_
    exact oz_iret cx hR d_Law_chains_19
  · refine oz_ite (fun hk => ?_) (fun _ => ?_)
    · subst hk
      refine oz_caught (kx := 0) cx (ps := []) (rs := [(0, 9, 15, 13)]) (rest := [.int 0, .ref (oz_b G + 74)]) hEx rfl (by decide) (by decide) tw_480 tc_cast0 (fun p hp => by cases hp) (fun H locs ls hP hS hl => oz_trunV (C := "OrderHall") (n := 1) (i := 0) cx (t_Hall_chains hfl hv) hP hS ⟨tw_599, tw_600, tw_601, tw_1⟩ rfl tw_602 (by decide +kernel) rfl (by decide) rfl rfl (oz_roomT hRm (by decide) (by decide)) hcs.1 hcs.2 rfl hl.1 (As := [.int a1]) rfl (lv_room (Nat.le_of_ble_eq_true rfl)) d_Law_chains_4) (fun xv => ?_)
      refine oz_astore_n (q := 13) cx1 d_Law_chains_12 rfl rfl (by rw [hnL]; decide) (lv2 := [(3, .ref xv), (0, .ref (oz_b G + 0)), (1, .int a1), (2, .ref (oz_b G + 74))]) rfl ?_
      refine oz_iconst (q := 14) cx1 d_Law_chains_13 rfl (v := 1) rfl ?_
      exact oz_iret cx1 hR1 d_Law_chains_14
    · skip
      refine oz_ite (fun hk => ?_) (fun _ => ?_)
      · subst hk
        refine oz_caught (kx := 2) cx (ps := [(0, 9, 12, 27)]) (rs := []) (rest := [.int 0, .ref (oz_b G + 74)]) hEx rfl (by decide) (by decide) tw_358 tc_cast2 (List.forall_mem_cons.mpr ⟨⟨by decide, 0, tw_480, List.mem_of_getElem? (i := 1) rfl⟩, fun _ h => absurd h List.not_mem_nil⟩) (fun H locs ls hP hS hl => oz_trunV (C := "OrderHall") (n := 1) (i := 0) cx (t_Hall_chains hfl hv) hP hS ⟨tw_599, tw_600, tw_601, tw_1⟩ rfl tw_602 (by decide +kernel) rfl (by decide) rfl rfl (oz_roomT hRm (by decide) (by decide)) hcs.1 hcs.2 rfl hl.1 (As := [.int a1]) rfl (lv_room (Nat.le_of_ble_eq_true rfl)) d_Law_chains_4) (fun xv => ?_)
        refine oz_astore_n (q := 16) cx1 d_Law_chains_15 rfl rfl (by rw [hnL]; decide) (lv2 := [(3, .ref xv), (0, .ref (oz_b G + 0)), (1, .int a1), (2, .ref (oz_b G + 74))]) rfl ?_
        refine oz_iconst (q := 17) cx1 d_Law_chains_16 rfl (v := 2) rfl ?_
        exact oz_iret cx1 hR1 d_Law_chains_17
      · skip
        exact oz_none
def y_Law_sequences : MethodName := ⟨"OrderHallLaw", "sequences", "(LOrderHall;[J)I"⟩
theorem d_Law_sequences_0 : decode method_14_code 0 = .ok (.aload_n 1, 1) := by decide +kernel
theorem d_Law_sequences_1 : decode method_14_code 1 = .ok (.iconst 0, 1) := by decide +kernel
theorem d_Law_sequences_2 : decode method_14_code 2 = .ok (.aload_n 0, 1) := by decide +kernel
theorem d_Law_sequences_3 : decode method_14_code 3 = .ok (.invokevirtual 51, 3) := by decide +kernel
theorem d_Law_sequences_6 : decode method_14_code 6 = .ok (.lastore, 1) := by decide +kernel
theorem d_Law_sequences_7 : decode method_14_code 7 = .ok (.goto 6, 3) := by decide +kernel
theorem d_Law_sequences_10 : decode method_14_code 10 = .ok (.astore_n 2, 1) := by decide +kernel
theorem d_Law_sequences_11 : decode method_14_code 11 = .ok (.iconst 1, 1) := by decide +kernel
theorem d_Law_sequences_12 : decode method_14_code 12 = .ok (.ireturn, 1) := by decide +kernel
theorem d_Law_sequences_13 : decode method_14_code 13 = .ok (.iconst 0, 1) := by decide +kernel
theorem d_Law_sequences_14 : decode method_14_code 14 = .ok (.ireturn, 1) := by decide +kernel
noncomputable def f_Law_sequences (M : oz_M) : Option (Int32 × oz_M) := oz_b2 (f_Hall_sequences M) fun w M1 => oz_el (fun kx => if kx = 0 then (some (1, M1)) else none) (fun v => (oz_in 0 1).bind fun j51 => (some (oz_l M1 74 j51 v)).bind fun M52 => some (0, M52)) w
set_option maxRecDepth 20000 in
set_option maxHeartbeats 2000000 in
theorem c_Law_sequences {l : Launch} {D : va_G} {cs : Nat → ClassId} {b : Nat} {M : oz_M} {vz : Int32} {Mz : oz_M} (hfl : l.stackTraces = false) (hF : f_Law_sequences M = some (vz, Mz)) : oz_MetW l D cs b y_Law_sequences method_14_code 3 [(0, 7, 10, 27)] 7 [.ref (b + 0), .ref (b + 74)] M vz Mz := by
  refine oz_enterW (by decide) (Nat.le_of_ble_eq_true rfl) (fun G cx cx1 hR hR1 hEx e1 hRm hcs e2 e3 e4 hnL => ?_)
  subst e1; subst e2; subst e3; subst e4
  refine (?_ : oz_R G 0 [(0, .ref (oz_b G + 0)), (1, .ref (oz_b G + 74))] [] M (f_Law_sequences  M) (fun x => x = (vz, Mz))) _ hF rfl
  unfold f_Law_sequences
  refine oz_aload_n (q := 1) cx d_Law_sequences_0 rfl rfl 1 rfl ?_
  refine oz_iconst (q := 2) cx d_Law_sequences_1 rfl (v := 0) rfl ?_
  refine oz_aload_n (q := 3) cx d_Law_sequences_2 rfl rfl 0 rfl ?_
  refine oz_case (fun v M1 hv => ?_) (fun kx M1 hv => ?_)
  · refine (?_ : oz_R G 3 [(0, .ref (oz_b G + 0)), (1, .ref (oz_b G + 74))] [.ref (oz_b G + 0), .int 0, .ref (oz_b G + 74)] M (oz_b2 (some (v, M1)) fun v M1 => (oz_in 0 1).bind fun j51 => (some (oz_l M1 74 j51 v)).bind fun M52 => some (0, M52)) (fun x => x = (vz, Mz)))
    refine oz_cVl (kc := 6) (q := 6) cx 0 [] 0 0 hRm (by decide) (by decide) (fun _ _ h => by cases h; exact c_Hall_sequences hv) ⟨tw_614, tw_615, tw_616, tw_1⟩ tw_617 (by decide +kernel) rfl (by decide) rfl rfl (st := [.int 0, .ref (oz_b G + 74)]) rfl (Nat.le_of_ble_eq_true rfl) d_Law_sequences_3 rfl (fun v M1 _ => ?_)
    refine oz_last (q := 7) cx 74 1 (by decide) (fun _ => rfl) d_Law_sequences_6 rfl (fun j51 hj51 => ?_)
    refine oz_nm (fun M52 hM52 => ?_)
    refine oz_goto cx d_Law_sequences_7 rfl ?_
    refine oz_iconst (q := 14) cx d_Law_sequences_13 rfl (v := 0) rfl ?_
    exact oz_iret cx hR d_Law_sequences_14
  · refine oz_ite (fun hk => ?_) (fun _ => ?_)
    · subst hk
      refine oz_caught (kx := 0) cx (ps := []) (rs := []) (rest := [.int 0, .ref (oz_b G + 74)]) hEx rfl (by decide) (by decide) tw_480 tc_cast0 (fun p hp => by cases hp) (fun H locs ls hP hS hl => oz_trunV (C := "OrderHall") (n := 0) (i := 0) cx (t_Hall_sequences hfl hv) hP hS ⟨tw_614, tw_615, tw_616, tw_1⟩ rfl tw_617 (by decide +kernel) rfl (by decide) rfl rfl (oz_roomT hRm (by decide) (by decide)) hcs.1 hcs.2 rfl hl.1 (As := []) rfl (lv_room (Nat.le_of_ble_eq_true rfl)) d_Law_sequences_3) (fun xv => ?_)
      refine oz_astore_n (q := 11) cx1 d_Law_sequences_10 rfl rfl (by rw [hnL]; decide) (lv2 := [(2, .ref xv), (0, .ref (oz_b G + 0)), (1, .ref (oz_b G + 74))]) rfl ?_
      refine oz_iconst (q := 12) cx1 d_Law_sequences_11 rfl (v := 1) rfl ?_
      exact oz_iret cx1 hR1 d_Law_sequences_12
    · skip
      exact oz_none
def y_Law_take : MethodName := ⟨"OrderHallLaw", "take", "(LOrderHall;J)I"⟩
theorem d_Law_take_0 : decode method_15_code 0 = .ok (.aload_n 0, 1) := by decide +kernel
theorem d_Law_take_1 : decode method_15_code 1 = .ok (.lload_n 1, 1) := by decide +kernel
theorem d_Law_take_2 : decode method_15_code 2 = .ok (.invokevirtual 55, 3) := by decide +kernel
theorem d_Law_take_5 : decode method_15_code 5 = .ok (.goto 9, 3) := by decide +kernel
theorem d_Law_take_8 : decode method_15_code 8 = .ok (.astore_n 3, 1) := by decide +kernel
theorem d_Law_take_9 : decode method_15_code 9 = .ok (.iconst 1, 1) := by decide +kernel
theorem d_Law_take_10 : decode method_15_code 10 = .ok (.ireturn, 1) := by decide +kernel
theorem d_Law_take_11 : decode method_15_code 11 = .ok (.astore_n 3, 1) := by decide +kernel
theorem d_Law_take_12 : decode method_15_code 12 = .ok (.iconst 2, 1) := by decide +kernel
theorem d_Law_take_13 : decode method_15_code 13 = .ok (.ireturn, 1) := by decide +kernel
theorem d_Law_take_14 : decode method_15_code 14 = .ok (.iconst 0, 1) := by decide +kernel
theorem d_Law_take_15 : decode method_15_code 15 = .ok (.ireturn, 1) := by decide +kernel
noncomputable def f_Law_take (a1 : Int64) (M : oz_M) : Option (Int32 × oz_M) := oz_b2 (f_Hall_take a1 M) fun w M1 => oz_el (fun kx => if kx = 0 then (some (1, M1)) else if kx = 2 then (some (2, M1)) else none) (fun v => some (0, M1)) w
set_option maxRecDepth 20000 in
set_option maxHeartbeats 2000000 in
theorem c_Law_take {l : Launch} {D : va_G} {cs : Nat → ClassId} {b : Nat} {a1 : Int64} {M : oz_M} {vz : Int32} {Mz : oz_M} (hfl : l.stackTraces = false) (hF : f_Law_take a1 M = some (vz, Mz)) : oz_MetW l D cs b y_Law_take method_15_code 4 [(0, 5, 8, 27), (0, 5, 11, 13)] 7 [.ref (b + 0), .long a1] M vz Mz := by
  refine oz_enterW (by decide) (Nat.le_of_ble_eq_true rfl) (fun G cx cx1 hR hR1 hEx e1 hRm hcs e2 e3 e4 hnL => ?_)
  subst e1; subst e2; subst e3; subst e4
  refine (?_ : oz_R G 0 [(0, .ref (oz_b G + 0)), (1, .long a1)] [] M (f_Law_take a1 M) (fun x => x = (vz, Mz))) _ hF rfl
  unfold f_Law_take
  refine oz_aload_n (q := 1) cx d_Law_take_0 rfl rfl 0 rfl ?_
  refine oz_lload_n (q := 2) cx d_Law_take_1 rfl rfl 1 rfl ?_
  refine oz_case (fun v M1 hv => ?_) (fun kx M1 hv => ?_)
  · refine (?_ : oz_R G 2 [(0, .ref (oz_b G + 0)), (1, .long a1)] [.long a1, .ref (oz_b G + 0)] M (oz_b2 (some ((), M1)) fun v M1 => some (0, M1)) (fun x => x = (vz, Mz)))
    refine oz_cVv (kc := 6) (q := 5) cx 0 [.long a1] 1 0 hRm (by decide) (by decide) (fun _ _ h => by cases h; exact c_Hall_take hv) ⟨tw_634, tw_635, tw_636, tw_1⟩ tw_637 (by decide +kernel) rfl (by decide) rfl rfl (st := []) rfl (Nat.le_of_ble_eq_true rfl) d_Law_take_2 rfl (fun v M1 _ => ?_)
    refine oz_goto cx d_Law_take_5 rfl ?_
    refine oz_iconst (q := 15) cx d_Law_take_14 rfl (v := 0) rfl ?_
    exact oz_iret cx hR d_Law_take_15
  · refine oz_ite (fun hk => ?_) (fun _ => ?_)
    · subst hk
      refine oz_caught (kx := 0) cx (ps := []) (rs := [(0, 5, 11, 13)]) (rest := []) hEx rfl (by decide) (by decide) tw_480 tc_cast0 (fun p hp => by cases hp) (fun H locs ls hP hS hl => oz_trunV (C := "OrderHall") (n := 1) (i := 0) cx (t_Hall_take hfl hv) hP hS ⟨tw_634, tw_635, tw_636, tw_1⟩ rfl tw_637 (by decide +kernel) rfl (by decide) rfl rfl (oz_roomT hRm (by decide) (by decide)) hcs.1 hcs.2 rfl hl.1 (As := [.long a1]) rfl (lv_room (Nat.le_of_ble_eq_true rfl)) d_Law_take_2) (fun xv => ?_)
      refine oz_astore_n (q := 9) cx1 d_Law_take_8 rfl rfl (by rw [hnL]; decide) (lv2 := [(3, .ref xv), (0, .ref (oz_b G + 0)), (1, .long a1)]) rfl ?_
      refine oz_iconst (q := 10) cx1 d_Law_take_9 rfl (v := 1) rfl ?_
      exact oz_iret cx1 hR1 d_Law_take_10
    · skip
      refine oz_ite (fun hk => ?_) (fun _ => ?_)
      · subst hk
        refine oz_caught (kx := 2) cx (ps := [(0, 5, 8, 27)]) (rs := []) (rest := []) hEx rfl (by decide) (by decide) tw_358 tc_cast2 (List.forall_mem_cons.mpr ⟨⟨by decide, 0, tw_480, List.mem_of_getElem? (i := 1) rfl⟩, fun _ h => absurd h List.not_mem_nil⟩) (fun H locs ls hP hS hl => oz_trunV (C := "OrderHall") (n := 1) (i := 0) cx (t_Hall_take hfl hv) hP hS ⟨tw_634, tw_635, tw_636, tw_1⟩ rfl tw_637 (by decide +kernel) rfl (by decide) rfl rfl (oz_roomT hRm (by decide) (by decide)) hcs.1 hcs.2 rfl hl.1 (As := [.long a1]) rfl (lv_room (Nat.le_of_ble_eq_true rfl)) d_Law_take_2) (fun xv => ?_)
        refine oz_astore_n (q := 12) cx1 d_Law_take_11 rfl rfl (by rw [hnL]; decide) (lv2 := [(3, .ref xv), (0, .ref (oz_b G + 0)), (1, .long a1)]) rfl ?_
        refine oz_iconst (q := 13) cx1 d_Law_take_12 rfl (v := 2) rfl ?_
        exact oz_iret cx1 hR1 d_Law_take_13
      · skip
        exact oz_none
def y_Law_bound : MethodName := ⟨"OrderHallLaw", "bound", "(LOrderHall;III[J)I"⟩
theorem d_Law_bound_0 : decode method_16_code 0 = .ok (.aload 4, 2) := by decide +kernel
theorem d_Law_bound_2 : decode method_16_code 2 = .ok (.iconst 0, 1) := by decide +kernel
theorem d_Law_bound_3 : decode method_16_code 3 = .ok (.aload_n 0, 1) := by decide +kernel
theorem d_Law_bound_4 : decode method_16_code 4 = .ok (.iload_n 1, 1) := by decide +kernel
theorem d_Law_bound_5 : decode method_16_code 5 = .ok (.iload_n 2, 1) := by decide +kernel
theorem d_Law_bound_6 : decode method_16_code 6 = .ok (.iload_n 3, 1) := by decide +kernel
theorem d_Law_bound_7 : decode method_16_code 7 = .ok (.invokevirtual 59, 3) := by decide +kernel
theorem d_Law_bound_10 : decode method_16_code 10 = .ok (.i2l, 1) := by decide +kernel
theorem d_Law_bound_11 : decode method_16_code 11 = .ok (.lastore, 1) := by decide +kernel
theorem d_Law_bound_12 : decode method_16_code 12 = .ok (.goto 15, 3) := by decide +kernel
theorem d_Law_bound_15 : decode method_16_code 15 = .ok (.astore 5, 2) := by decide +kernel
theorem d_Law_bound_17 : decode method_16_code 17 = .ok (.iconst 1, 1) := by decide +kernel
theorem d_Law_bound_18 : decode method_16_code 18 = .ok (.ireturn, 1) := by decide +kernel
theorem d_Law_bound_19 : decode method_16_code 19 = .ok (.astore 5, 2) := by decide +kernel
theorem d_Law_bound_21 : decode method_16_code 21 = .ok (.iconst 2, 1) := by decide +kernel
theorem d_Law_bound_22 : decode method_16_code 22 = .ok (.ireturn, 1) := by decide +kernel
theorem d_Law_bound_23 : decode method_16_code 23 = .ok (.astore 5, 2) := by decide +kernel
theorem d_Law_bound_25 : decode method_16_code 25 = .ok (.iconst 3, 1) := by decide +kernel
theorem d_Law_bound_26 : decode method_16_code 26 = .ok (.ireturn, 1) := by decide +kernel
theorem d_Law_bound_27 : decode method_16_code 27 = .ok (.iconst 0, 1) := by decide +kernel
theorem d_Law_bound_28 : decode method_16_code 28 = .ok (.ireturn, 1) := by decide +kernel
noncomputable def f_Law_bound (a1 : Int32) (a2 : Int32) (a3 : Int32) (M : oz_M) : Option (Int32 × oz_M) := oz_b2 (f_Hall_bound a1 a2 a3 M) fun w M1 => oz_el (fun kx => if kx = 0 then (some (1, M1)) else if kx = 1 then (some (2, M1)) else if kx = 2 then (some (3, M1)) else none) (fun v => (oz_in 0 1).bind fun j51 => (some (oz_l M1 74 j51 (Int32.toInt64 v))).bind fun M52 => some (0, M52)) w
set_option maxRecDepth 20000 in
set_option maxHeartbeats 2000000 in
theorem c_Law_bound {l : Launch} {D : va_G} {cs : Nat → ClassId} {b : Nat} {a1 : Int32} {a2 : Int32} {a3 : Int32} {M : oz_M} {vz : Int32} {Mz : oz_M} (hfl : l.stackTraces = false) (hF : f_Law_bound a1 a2 a3 M = some (vz, Mz)) : oz_MetW l D cs b y_Law_bound method_16_code 6 [(0, 12, 15, 27), (0, 12, 19, 19), (0, 12, 23, 13)] 7 [.ref (b + 0), .int a1, .int a2, .int a3, .ref (b + 74)] M vz Mz := by
  refine oz_enterW (by decide) (Nat.le_of_ble_eq_true rfl) (fun G cx cx1 hR hR1 hEx e1 hRm hcs e2 e3 e4 hnL => ?_)
  subst e1; subst e2; subst e3; subst e4
  refine (?_ : oz_R G 0 [(0, .ref (oz_b G + 0)), (1, .int a1), (2, .int a2), (3, .int a3), (4, .ref (oz_b G + 74))] [] M (f_Law_bound a1 a2 a3 M) (fun x => x = (vz, Mz))) _ hF rfl
  unfold f_Law_bound
  refine oz_aload (q := 2) cx d_Law_bound_0 rfl 4 rfl ?_
  refine oz_iconst (q := 3) cx d_Law_bound_2 rfl (v := 0) rfl ?_
  refine oz_aload_n (q := 4) cx d_Law_bound_3 rfl rfl 0 rfl ?_
  refine oz_iload_n (q := 5) cx d_Law_bound_4 rfl rfl 1 rfl ?_
  refine oz_iload_n (q := 6) cx d_Law_bound_5 rfl rfl 2 rfl ?_
  refine oz_iload_n (q := 7) cx d_Law_bound_6 rfl rfl 3 rfl ?_
  refine oz_case (fun v M1 hv => ?_) (fun kx M1 hv => ?_)
  · refine (?_ : oz_R G 7 [(0, .ref (oz_b G + 0)), (1, .int a1), (2, .int a2), (3, .int a3), (4, .ref (oz_b G + 74))] [.int a3, .int a2, .int a1, .ref (oz_b G + 0), .int 0, .ref (oz_b G + 74)] M (oz_b2 (some (v, M1)) fun v M1 => (oz_in 0 1).bind fun j51 => (some (oz_l M1 74 j51 (Int32.toInt64 v))).bind fun M52 => some (0, M52)) (fun x => x = (vz, Mz)))
    refine oz_cVi (kc := 6) (q := 10) cx 0 [.int a1, .int a2, .int a3] 3 0 hRm (by decide) (by decide) (fun _ _ h => by cases h; exact c_Hall_bound hv) ⟨tw_646, tw_647, tw_648, tw_1⟩ tw_649 (by decide +kernel) rfl (by decide) rfl rfl (st := [.int 0, .ref (oz_b G + 74)]) rfl (Nat.le_of_ble_eq_true rfl) d_Law_bound_7 rfl (fun v M1 _ => ?_)
    refine oz_i2l (q := 11) cx d_Law_bound_10 rfl ?_
    refine oz_last (q := 12) cx 74 1 (by decide) (fun _ => rfl) d_Law_bound_11 rfl (fun j51 hj51 => ?_)
    refine oz_nm (fun M52 hM52 => ?_)
    refine oz_goto cx d_Law_bound_12 rfl ?_
    refine oz_iconst (q := 28) cx d_Law_bound_27 rfl (v := 0) rfl ?_
    exact oz_iret cx hR d_Law_bound_28
  · refine oz_ite (fun hk => ?_) (fun _ => ?_)
    · subst hk
      refine oz_caught (kx := 0) cx (ps := []) (rs := [(0, 12, 19, 19), (0, 12, 23, 13)]) (rest := [.int 0, .ref (oz_b G + 74)]) hEx rfl (by decide) (by decide) tw_480 tc_cast0 (fun p hp => by cases hp) (fun H locs ls hP hS hl => oz_trunV (C := "OrderHall") (n := 3) (i := 0) cx (t_Hall_bound hfl hv) hP hS ⟨tw_646, tw_647, tw_648, tw_1⟩ rfl tw_649 (by decide +kernel) rfl (by decide) rfl rfl (oz_roomT hRm (by decide) (by decide)) hcs.1 hcs.2 rfl hl.1 (As := [.int a1, .int a2, .int a3]) rfl (lv_room (Nat.le_of_ble_eq_true rfl)) d_Law_bound_7) (fun xv => ?_)
      refine oz_astore (q := 17) cx1 d_Law_bound_15 rfl (by rw [hnL]; decide) (lv2 := [(5, .ref xv), (0, .ref (oz_b G + 0)), (1, .int a1), (2, .int a2), (3, .int a3), (4, .ref (oz_b G + 74))]) rfl ?_
      refine oz_iconst (q := 18) cx1 d_Law_bound_17 rfl (v := 1) rfl ?_
      exact oz_iret cx1 hR1 d_Law_bound_18
    · skip
      refine oz_ite (fun hk => ?_) (fun _ => ?_)
      · subst hk
        refine oz_caught (kx := 1) cx (ps := [(0, 12, 15, 27)]) (rs := [(0, 12, 23, 13)]) (rest := [.int 0, .ref (oz_b G + 74)]) hEx rfl (by decide) (by decide) tw_437 tc_cast1 (List.forall_mem_cons.mpr ⟨⟨by decide, 0, tw_480, List.mem_of_getElem? (i := 0) rfl⟩, fun _ h => absurd h List.not_mem_nil⟩) (fun H locs ls hP hS hl => oz_trunV (C := "OrderHall") (n := 3) (i := 0) cx (t_Hall_bound hfl hv) hP hS ⟨tw_646, tw_647, tw_648, tw_1⟩ rfl tw_649 (by decide +kernel) rfl (by decide) rfl rfl (oz_roomT hRm (by decide) (by decide)) hcs.1 hcs.2 rfl hl.1 (As := [.int a1, .int a2, .int a3]) rfl (lv_room (Nat.le_of_ble_eq_true rfl)) d_Law_bound_7) (fun xv => ?_)
        refine oz_astore (q := 21) cx1 d_Law_bound_19 rfl (by rw [hnL]; decide) (lv2 := [(5, .ref xv), (0, .ref (oz_b G + 0)), (1, .int a1), (2, .int a2), (3, .int a3), (4, .ref (oz_b G + 74))]) rfl ?_
        refine oz_iconst (q := 22) cx1 d_Law_bound_21 rfl (v := 2) rfl ?_
        exact oz_iret cx1 hR1 d_Law_bound_22
      · skip
        refine oz_ite (fun hk => ?_) (fun _ => ?_)
        · subst hk
          refine oz_caught (kx := 2) cx (ps := [(0, 12, 15, 27), (0, 12, 19, 19)]) (rs := []) (rest := [.int 0, .ref (oz_b G + 74)]) hEx rfl (by decide) (by decide) tw_358 tc_cast2 (List.forall_mem_cons.mpr ⟨⟨by decide, 0, tw_480, List.mem_of_getElem? (i := 1) rfl⟩, List.forall_mem_cons.mpr ⟨⟨by decide, 1, tw_437, List.mem_of_getElem? (i := 2) rfl⟩, fun _ h => absurd h List.not_mem_nil⟩⟩) (fun H locs ls hP hS hl => oz_trunV (C := "OrderHall") (n := 3) (i := 0) cx (t_Hall_bound hfl hv) hP hS ⟨tw_646, tw_647, tw_648, tw_1⟩ rfl tw_649 (by decide +kernel) rfl (by decide) rfl rfl (oz_roomT hRm (by decide) (by decide)) hcs.1 hcs.2 rfl hl.1 (As := [.int a1, .int a2, .int a3]) rfl (lv_room (Nat.le_of_ble_eq_true rfl)) d_Law_bound_7) (fun xv => ?_)
          refine oz_astore (q := 25) cx1 d_Law_bound_23 rfl (by rw [hnL]; decide) (lv2 := [(5, .ref xv), (0, .ref (oz_b G + 0)), (1, .int a1), (2, .int a2), (3, .int a3), (4, .ref (oz_b G + 74))]) rfl ?_
          refine oz_iconst (q := 26) cx1 d_Law_bound_25 rfl (v := 3) rfl ?_
          exact oz_iret cx1 hR1 d_Law_bound_26
        · skip
          exact oz_none
def y_Law_lattice : MethodName := ⟨"OrderHallLaw", "lattice", "(LOrderHall;[J)I"⟩
theorem d_Law_lattice_0 : decode method_17_code 0 = .ok (.aload_n 1, 1) := by decide +kernel
theorem d_Law_lattice_1 : decode method_17_code 1 = .ok (.iconst 0, 1) := by decide +kernel
theorem d_Law_lattice_2 : decode method_17_code 2 = .ok (.aload_n 0, 1) := by decide +kernel
theorem d_Law_lattice_3 : decode method_17_code 3 = .ok (.invokevirtual 63, 3) := by decide +kernel
theorem d_Law_lattice_6 : decode method_17_code 6 = .ok (.i2l, 1) := by decide +kernel
theorem d_Law_lattice_7 : decode method_17_code 7 = .ok (.lastore, 1) := by decide +kernel
theorem d_Law_lattice_8 : decode method_17_code 8 = .ok (.goto 6, 3) := by decide +kernel
theorem d_Law_lattice_11 : decode method_17_code 11 = .ok (.astore_n 2, 1) := by decide +kernel
theorem d_Law_lattice_12 : decode method_17_code 12 = .ok (.iconst 1, 1) := by decide +kernel
theorem d_Law_lattice_13 : decode method_17_code 13 = .ok (.ireturn, 1) := by decide +kernel
theorem d_Law_lattice_14 : decode method_17_code 14 = .ok (.iconst 0, 1) := by decide +kernel
theorem d_Law_lattice_15 : decode method_17_code 15 = .ok (.ireturn, 1) := by decide +kernel
noncomputable def f_Law_lattice (M : oz_M) : Option (Int32 × oz_M) := oz_b2 (f_Hall_lattice M) fun w M1 => oz_el (fun kx => if kx = 0 then (some (1, M1)) else none) (fun v => (oz_in 0 1).bind fun j51 => (some (oz_l M1 74 j51 (Int32.toInt64 v))).bind fun M52 => some (0, M52)) w
set_option maxRecDepth 20000 in
set_option maxHeartbeats 2000000 in
theorem c_Law_lattice {l : Launch} {D : va_G} {cs : Nat → ClassId} {b : Nat} {M : oz_M} {vz : Int32} {Mz : oz_M} (hfl : l.stackTraces = false) (hF : f_Law_lattice M = some (vz, Mz)) : oz_MetW l D cs b y_Law_lattice method_17_code 3 [(0, 8, 11, 27)] 7 [.ref (b + 0), .ref (b + 74)] M vz Mz := by
  refine oz_enterW (by decide) (Nat.le_of_ble_eq_true rfl) (fun G cx cx1 hR hR1 hEx e1 hRm hcs e2 e3 e4 hnL => ?_)
  subst e1; subst e2; subst e3; subst e4
  refine (?_ : oz_R G 0 [(0, .ref (oz_b G + 0)), (1, .ref (oz_b G + 74))] [] M (f_Law_lattice  M) (fun x => x = (vz, Mz))) _ hF rfl
  unfold f_Law_lattice
  refine oz_aload_n (q := 1) cx d_Law_lattice_0 rfl rfl 1 rfl ?_
  refine oz_iconst (q := 2) cx d_Law_lattice_1 rfl (v := 0) rfl ?_
  refine oz_aload_n (q := 3) cx d_Law_lattice_2 rfl rfl 0 rfl ?_
  refine oz_case (fun v M1 hv => ?_) (fun kx M1 hv => ?_)
  · refine (?_ : oz_R G 3 [(0, .ref (oz_b G + 0)), (1, .ref (oz_b G + 74))] [.ref (oz_b G + 0), .int 0, .ref (oz_b G + 74)] M (oz_b2 (some (v, M1)) fun v M1 => (oz_in 0 1).bind fun j51 => (some (oz_l M1 74 j51 (Int32.toInt64 v))).bind fun M52 => some (0, M52)) (fun x => x = (vz, Mz)))
    refine oz_cVi (kc := 6) (q := 6) cx 0 [] 0 0 hRm (by decide) (by decide) (fun _ _ h => by cases h; exact c_Hall_lattice hv) ⟨tw_669, tw_670, tw_671, tw_1⟩ tw_672 (by decide +kernel) rfl (by decide) rfl rfl (st := [.int 0, .ref (oz_b G + 74)]) rfl (Nat.le_of_ble_eq_true rfl) d_Law_lattice_3 rfl (fun v M1 _ => ?_)
    refine oz_i2l (q := 7) cx d_Law_lattice_6 rfl ?_
    refine oz_last (q := 8) cx 74 1 (by decide) (fun _ => rfl) d_Law_lattice_7 rfl (fun j51 hj51 => ?_)
    refine oz_nm (fun M52 hM52 => ?_)
    refine oz_goto cx d_Law_lattice_8 rfl ?_
    refine oz_iconst (q := 15) cx d_Law_lattice_14 rfl (v := 0) rfl ?_
    exact oz_iret cx hR d_Law_lattice_15
  · refine oz_ite (fun hk => ?_) (fun _ => ?_)
    · subst hk
      refine oz_caught (kx := 0) cx (ps := []) (rs := []) (rest := [.int 0, .ref (oz_b G + 74)]) hEx rfl (by decide) (by decide) tw_480 tc_cast0 (fun p hp => by cases hp) (fun H locs ls hP hS hl => oz_trunV (C := "OrderHall") (n := 0) (i := 0) cx (t_Hall_lattice hfl hv) hP hS ⟨tw_669, tw_670, tw_671, tw_1⟩ rfl tw_672 (by decide +kernel) rfl (by decide) rfl rfl (oz_roomT hRm (by decide) (by decide)) hcs.1 hcs.2 rfl hl.1 (As := []) rfl (lv_room (Nat.le_of_ble_eq_true rfl)) d_Law_lattice_3) (fun xv => ?_)
      refine oz_astore_n (q := 12) cx1 d_Law_lattice_11 rfl rfl (by rw [hnL]; decide) (lv2 := [(2, .ref xv), (0, .ref (oz_b G + 0)), (1, .ref (oz_b G + 74))]) rfl ?_
      refine oz_iconst (q := 13) cx1 d_Law_lattice_12 rfl (v := 1) rfl ?_
      exact oz_iret cx1 hR1 d_Law_lattice_13
    · skip
      exact oz_none
def y_Law_sign : MethodName := ⟨"OrderHallLaw", "sign", "(LOrderHall;II[J)I"⟩
theorem d_Law_sign_0 : decode method_18_code 0 = .ok (.aload_n 3, 1) := by decide +kernel
theorem d_Law_sign_1 : decode method_18_code 1 = .ok (.iconst 0, 1) := by decide +kernel
theorem d_Law_sign_2 : decode method_18_code 2 = .ok (.aload_n 0, 1) := by decide +kernel
theorem d_Law_sign_3 : decode method_18_code 3 = .ok (.iload_n 1, 1) := by decide +kernel
theorem d_Law_sign_4 : decode method_18_code 4 = .ok (.iload_n 2, 1) := by decide +kernel
theorem d_Law_sign_5 : decode method_18_code 5 = .ok (.invokevirtual 67, 3) := by decide +kernel
theorem d_Law_sign_8 : decode method_18_code 8 = .ok (.i2l, 1) := by decide +kernel
theorem d_Law_sign_9 : decode method_18_code 9 = .ok (.lastore, 1) := by decide +kernel
theorem d_Law_sign_10 : decode method_18_code 10 = .ok (.goto 11, 3) := by decide +kernel
theorem d_Law_sign_13 : decode method_18_code 13 = .ok (.astore 4, 2) := by decide +kernel
theorem d_Law_sign_15 : decode method_18_code 15 = .ok (.iconst 1, 1) := by decide +kernel
theorem d_Law_sign_16 : decode method_18_code 16 = .ok (.ireturn, 1) := by decide +kernel
theorem d_Law_sign_17 : decode method_18_code 17 = .ok (.astore 4, 2) := by decide +kernel
theorem d_Law_sign_19 : decode method_18_code 19 = .ok (.iconst 2, 1) := by decide +kernel
theorem d_Law_sign_20 : decode method_18_code 20 = .ok (.ireturn, 1) := by decide +kernel
theorem d_Law_sign_21 : decode method_18_code 21 = .ok (.iconst 0, 1) := by decide +kernel
theorem d_Law_sign_22 : decode method_18_code 22 = .ok (.ireturn, 1) := by decide +kernel
noncomputable def f_Law_sign (a1 : Int32) (a2 : Int32) (M : oz_M) : Option (Int32 × oz_M) := oz_b2 (f_Hall_sign a1 a2 M) fun w M1 => oz_el (fun kx => if kx = 0 then (some (1, M1)) else if kx = 1 then (some (2, M1)) else none) (fun v => (oz_in 0 1).bind fun j51 => (some (oz_l M1 74 j51 (Int32.toInt64 v))).bind fun M52 => some (0, M52)) w
set_option maxRecDepth 20000 in
set_option maxHeartbeats 2000000 in
theorem c_Law_sign {l : Launch} {D : va_G} {cs : Nat → ClassId} {b : Nat} {a1 : Int32} {a2 : Int32} {M : oz_M} {vz : Int32} {Mz : oz_M} (hfl : l.stackTraces = false) (hF : f_Law_sign a1 a2 M = some (vz, Mz)) : oz_MetW l D cs b y_Law_sign method_18_code 5 [(0, 10, 13, 27), (0, 10, 17, 19)] 7 [.ref (b + 0), .int a1, .int a2, .ref (b + 74)] M vz Mz := by
  refine oz_enterW (by decide) (Nat.le_of_ble_eq_true rfl) (fun G cx cx1 hR hR1 hEx e1 hRm hcs e2 e3 e4 hnL => ?_)
  subst e1; subst e2; subst e3; subst e4
  refine (?_ : oz_R G 0 [(0, .ref (oz_b G + 0)), (1, .int a1), (2, .int a2), (3, .ref (oz_b G + 74))] [] M (f_Law_sign a1 a2 M) (fun x => x = (vz, Mz))) _ hF rfl
  unfold f_Law_sign
  refine oz_aload_n (q := 1) cx d_Law_sign_0 rfl rfl 3 rfl ?_
  refine oz_iconst (q := 2) cx d_Law_sign_1 rfl (v := 0) rfl ?_
  refine oz_aload_n (q := 3) cx d_Law_sign_2 rfl rfl 0 rfl ?_
  refine oz_iload_n (q := 4) cx d_Law_sign_3 rfl rfl 1 rfl ?_
  refine oz_iload_n (q := 5) cx d_Law_sign_4 rfl rfl 2 rfl ?_
  refine oz_case (fun v M1 hv => ?_) (fun kx M1 hv => ?_)
  · refine (?_ : oz_R G 5 [(0, .ref (oz_b G + 0)), (1, .int a1), (2, .int a2), (3, .ref (oz_b G + 74))] [.int a2, .int a1, .ref (oz_b G + 0), .int 0, .ref (oz_b G + 74)] M (oz_b2 (some (v, M1)) fun v M1 => (oz_in 0 1).bind fun j51 => (some (oz_l M1 74 j51 (Int32.toInt64 v))).bind fun M52 => some (0, M52)) (fun x => x = (vz, Mz)))
    refine oz_cVi (kc := 6) (q := 8) cx 0 [.int a1, .int a2] 2 0 hRm (by decide) (by decide) (fun _ _ h => by cases h; exact c_Hall_sign hv) ⟨tw_686, tw_687, tw_688, tw_1⟩ tw_689 (by decide +kernel) rfl (by decide) rfl rfl (st := [.int 0, .ref (oz_b G + 74)]) rfl (Nat.le_of_ble_eq_true rfl) d_Law_sign_5 rfl (fun v M1 _ => ?_)
    refine oz_i2l (q := 9) cx d_Law_sign_8 rfl ?_
    refine oz_last (q := 10) cx 74 1 (by decide) (fun _ => rfl) d_Law_sign_9 rfl (fun j51 hj51 => ?_)
    refine oz_nm (fun M52 hM52 => ?_)
    refine oz_goto cx d_Law_sign_10 rfl ?_
    refine oz_iconst (q := 22) cx d_Law_sign_21 rfl (v := 0) rfl ?_
    exact oz_iret cx hR d_Law_sign_22
  · refine oz_ite (fun hk => ?_) (fun _ => ?_)
    · subst hk
      refine oz_caught (kx := 0) cx (ps := []) (rs := [(0, 10, 17, 19)]) (rest := [.int 0, .ref (oz_b G + 74)]) hEx rfl (by decide) (by decide) tw_480 tc_cast0 (fun p hp => by cases hp) (fun H locs ls hP hS hl => oz_trunV (C := "OrderHall") (n := 2) (i := 0) cx (t_Hall_sign hfl hv) hP hS ⟨tw_686, tw_687, tw_688, tw_1⟩ rfl tw_689 (by decide +kernel) rfl (by decide) rfl rfl (oz_roomT hRm (by decide) (by decide)) hcs.1 hcs.2 rfl hl.1 (As := [.int a1, .int a2]) rfl (lv_room (Nat.le_of_ble_eq_true rfl)) d_Law_sign_5) (fun xv => ?_)
      refine oz_astore (q := 15) cx1 d_Law_sign_13 rfl (by rw [hnL]; decide) (lv2 := [(4, .ref xv), (0, .ref (oz_b G + 0)), (1, .int a1), (2, .int a2), (3, .ref (oz_b G + 74))]) rfl ?_
      refine oz_iconst (q := 16) cx1 d_Law_sign_15 rfl (v := 1) rfl ?_
      exact oz_iret cx1 hR1 d_Law_sign_16
    · skip
      refine oz_ite (fun hk => ?_) (fun _ => ?_)
      · subst hk
        refine oz_caught (kx := 1) cx (ps := [(0, 10, 13, 27)]) (rs := []) (rest := [.int 0, .ref (oz_b G + 74)]) hEx rfl (by decide) (by decide) tw_437 tc_cast1 (List.forall_mem_cons.mpr ⟨⟨by decide, 0, tw_480, List.mem_of_getElem? (i := 0) rfl⟩, fun _ h => absurd h List.not_mem_nil⟩) (fun H locs ls hP hS hl => oz_trunV (C := "OrderHall") (n := 2) (i := 0) cx (t_Hall_sign hfl hv) hP hS ⟨tw_686, tw_687, tw_688, tw_1⟩ rfl tw_689 (by decide +kernel) rfl (by decide) rfl rfl (oz_roomT hRm (by decide) (by decide)) hcs.1 hcs.2 rfl hl.1 (As := [.int a1, .int a2]) rfl (lv_room (Nat.le_of_ble_eq_true rfl)) d_Law_sign_5) (fun xv => ?_)
        refine oz_astore (q := 19) cx1 d_Law_sign_17 rfl (by rw [hnL]; decide) (lv2 := [(4, .ref xv), (0, .ref (oz_b G + 0)), (1, .int a1), (2, .int a2), (3, .ref (oz_b G + 74))]) rfl ?_
        refine oz_iconst (q := 20) cx1 d_Law_sign_19 rfl (v := 2) rfl ?_
        exact oz_iret cx1 hR1 d_Law_sign_20
      · skip
        exact oz_none
def y_Law_turn : MethodName := ⟨"OrderHallLaw", "turn", "(LOrderHall;)I"⟩
theorem d_Law_turn_0 : decode method_19_code 0 = .ok (.aload_n 0, 1) := by decide +kernel
theorem d_Law_turn_1 : decode method_19_code 1 = .ok (.invokevirtual 70, 3) := by decide +kernel
theorem d_Law_turn_4 : decode method_19_code 4 = .ok (.goto 6, 3) := by decide +kernel
theorem d_Law_turn_7 : decode method_19_code 7 = .ok (.astore_n 1, 1) := by decide +kernel
theorem d_Law_turn_8 : decode method_19_code 8 = .ok (.iconst 1, 1) := by decide +kernel
theorem d_Law_turn_9 : decode method_19_code 9 = .ok (.ireturn, 1) := by decide +kernel
theorem d_Law_turn_10 : decode method_19_code 10 = .ok (.iconst 0, 1) := by decide +kernel
theorem d_Law_turn_11 : decode method_19_code 11 = .ok (.ireturn, 1) := by decide +kernel
noncomputable def f_Law_turn (M : oz_M) : Option (Int32 × oz_M) := oz_b2 (f_Hall_turn M) fun w M1 => oz_el (fun kx => if kx = 0 then (some (1, M1)) else none) (fun v => some (0, M1)) w
set_option maxRecDepth 20000 in
set_option maxHeartbeats 2000000 in
theorem c_Law_turn {l : Launch} {D : va_G} {cs : Nat → ClassId} {b : Nat} {M : oz_M} {vz : Int32} {Mz : oz_M} (hfl : l.stackTraces = false) (hF : f_Law_turn M = some (vz, Mz)) : oz_MetW l D cs b y_Law_turn method_19_code 2 [(0, 4, 7, 27)] 7 [.ref (b + 0)] M vz Mz := by
  refine oz_enterW (by decide) (Nat.le_of_ble_eq_true rfl) (fun G cx cx1 hR hR1 hEx e1 hRm hcs e2 e3 e4 hnL => ?_)
  subst e1; subst e2; subst e3; subst e4
  refine (?_ : oz_R G 0 [(0, .ref (oz_b G + 0))] [] M (f_Law_turn  M) (fun x => x = (vz, Mz))) _ hF rfl
  unfold f_Law_turn
  refine oz_aload_n (q := 1) cx d_Law_turn_0 rfl rfl 0 rfl ?_
  refine oz_case (fun v M1 hv => ?_) (fun kx M1 hv => ?_)
  · refine (?_ : oz_R G 1 [(0, .ref (oz_b G + 0))] [.ref (oz_b G + 0)] M (oz_b2 (some ((), M1)) fun v M1 => some (0, M1)) (fun x => x = (vz, Mz)))
    refine oz_cVv (kc := 6) (q := 4) cx 0 [] 0 0 hRm (by decide) (by decide) (fun _ _ h => by cases h; exact c_Hall_turn hv) ⟨tw_697, tw_698, tw_699, tw_1⟩ tw_700 (by decide +kernel) rfl (by decide) rfl rfl (st := []) rfl (Nat.le_of_ble_eq_true rfl) d_Law_turn_1 rfl (fun v M1 _ => ?_)
    refine oz_goto cx d_Law_turn_4 rfl ?_
    refine oz_iconst (q := 11) cx d_Law_turn_10 rfl (v := 0) rfl ?_
    exact oz_iret cx hR d_Law_turn_11
  · refine oz_ite (fun hk => ?_) (fun _ => ?_)
    · subst hk
      refine oz_caught (kx := 0) cx (ps := []) (rs := []) (rest := []) hEx rfl (by decide) (by decide) tw_480 tc_cast0 (fun p hp => by cases hp) (fun H locs ls hP hS hl => oz_trunV (C := "OrderHall") (n := 0) (i := 0) cx (t_Hall_turn hfl hv) hP hS ⟨tw_697, tw_698, tw_699, tw_1⟩ rfl tw_700 (by decide +kernel) rfl (by decide) rfl rfl (oz_roomT hRm (by decide) (by decide)) hcs.1 hcs.2 rfl hl.1 (As := []) rfl (lv_room (Nat.le_of_ble_eq_true rfl)) d_Law_turn_1) (fun xv => ?_)
      refine oz_astore_n (q := 8) cx1 d_Law_turn_7 rfl rfl (by rw [hnL]; decide) (lv2 := [(1, .ref xv), (0, .ref (oz_b G + 0))]) rfl ?_
      refine oz_iconst (q := 9) cx1 d_Law_turn_8 rfl (v := 1) rfl ?_
      exact oz_iret cx1 hR1 d_Law_turn_9
    · skip
      exact oz_none
def y_Law_keep : MethodName := ⟨"OrderHallLaw", "keep", "(LOrderHall;I[J)I"⟩
theorem d_Law_keep_0 : decode method_20_code 0 = .ok (.aload_n 2, 1) := by decide +kernel
theorem d_Law_keep_1 : decode method_20_code 1 = .ok (.iconst 0, 1) := by decide +kernel
theorem d_Law_keep_2 : decode method_20_code 2 = .ok (.aload_n 0, 1) := by decide +kernel
theorem d_Law_keep_3 : decode method_20_code 3 = .ok (.iload_n 1, 1) := by decide +kernel
theorem d_Law_keep_4 : decode method_20_code 4 = .ok (.invokevirtual 73, 3) := by decide +kernel
theorem d_Law_keep_7 : decode method_20_code 7 = .ok (.i2l, 1) := by decide +kernel
theorem d_Law_keep_8 : decode method_20_code 8 = .ok (.lastore, 1) := by decide +kernel
theorem d_Law_keep_9 : decode method_20_code 9 = .ok (.goto 9, 3) := by decide +kernel
theorem d_Law_keep_12 : decode method_20_code 12 = .ok (.astore_n 3, 1) := by decide +kernel
theorem d_Law_keep_13 : decode method_20_code 13 = .ok (.iconst 1, 1) := by decide +kernel
theorem d_Law_keep_14 : decode method_20_code 14 = .ok (.ireturn, 1) := by decide +kernel
theorem d_Law_keep_15 : decode method_20_code 15 = .ok (.astore_n 3, 1) := by decide +kernel
theorem d_Law_keep_16 : decode method_20_code 16 = .ok (.iconst 2, 1) := by decide +kernel
theorem d_Law_keep_17 : decode method_20_code 17 = .ok (.ireturn, 1) := by decide +kernel
theorem d_Law_keep_18 : decode method_20_code 18 = .ok (.iconst 0, 1) := by decide +kernel
theorem d_Law_keep_19 : decode method_20_code 19 = .ok (.ireturn, 1) := by decide +kernel
noncomputable def f_Law_keep (a1 : Int32) (M : oz_M) : Option (Int32 × oz_M) := oz_b2 (f_Hall_keep a1 M) fun w M1 => oz_el (fun kx => if kx = 0 then (some (1, M1)) else if kx = 2 then (some (2, M1)) else none) (fun v => (oz_in 0 1).bind fun j51 => (some (oz_l M1 74 j51 (Int32.toInt64 v))).bind fun M52 => some (0, M52)) w
set_option maxRecDepth 20000 in
set_option maxHeartbeats 2000000 in
theorem c_Law_keep {l : Launch} {D : va_G} {cs : Nat → ClassId} {b : Nat} {a1 : Int32} {M : oz_M} {vz : Int32} {Mz : oz_M} (hfl : l.stackTraces = false) (hF : f_Law_keep a1 M = some (vz, Mz)) : oz_MetW l D cs b y_Law_keep method_20_code 4 [(0, 9, 12, 27), (0, 9, 15, 13)] 7 [.ref (b + 0), .int a1, .ref (b + 74)] M vz Mz := by
  refine oz_enterW (by decide) (Nat.le_of_ble_eq_true rfl) (fun G cx cx1 hR hR1 hEx e1 hRm hcs e2 e3 e4 hnL => ?_)
  subst e1; subst e2; subst e3; subst e4
  refine (?_ : oz_R G 0 [(0, .ref (oz_b G + 0)), (1, .int a1), (2, .ref (oz_b G + 74))] [] M (f_Law_keep a1 M) (fun x => x = (vz, Mz))) _ hF rfl
  unfold f_Law_keep
  refine oz_aload_n (q := 1) cx d_Law_keep_0 rfl rfl 2 rfl ?_
  refine oz_iconst (q := 2) cx d_Law_keep_1 rfl (v := 0) rfl ?_
  refine oz_aload_n (q := 3) cx d_Law_keep_2 rfl rfl 0 rfl ?_
  refine oz_iload_n (q := 4) cx d_Law_keep_3 rfl rfl 1 rfl ?_
  refine oz_case (fun v M1 hv => ?_) (fun kx M1 hv => ?_)
  · refine (?_ : oz_R G 4 [(0, .ref (oz_b G + 0)), (1, .int a1), (2, .ref (oz_b G + 74))] [.int a1, .ref (oz_b G + 0), .int 0, .ref (oz_b G + 74)] M (oz_b2 (some (v, M1)) fun v M1 => (oz_in 0 1).bind fun j51 => (some (oz_l M1 74 j51 (Int32.toInt64 v))).bind fun M52 => some (0, M52)) (fun x => x = (vz, Mz)))
    refine oz_cVi (kc := 6) (q := 7) cx 0 [.int a1] 1 0 hRm (by decide) (by decide) (fun _ _ h => by cases h; exact c_Hall_keep hv) ⟨tw_708, tw_709, tw_710, tw_1⟩ tw_711 (by decide +kernel) rfl (by decide) rfl rfl (st := [.int 0, .ref (oz_b G + 74)]) rfl (Nat.le_of_ble_eq_true rfl) d_Law_keep_4 rfl (fun v M1 _ => ?_)
    refine oz_i2l (q := 8) cx d_Law_keep_7 rfl ?_
    refine oz_last (q := 9) cx 74 1 (by decide) (fun _ => rfl) d_Law_keep_8 rfl (fun j51 hj51 => ?_)
    refine oz_nm (fun M52 hM52 => ?_)
    refine oz_goto cx d_Law_keep_9 rfl ?_
    refine oz_iconst (q := 19) cx d_Law_keep_18 rfl (v := 0) rfl ?_
    exact oz_iret cx hR d_Law_keep_19
  · refine oz_ite (fun hk => ?_) (fun _ => ?_)
    · subst hk
      refine oz_caught (kx := 0) cx (ps := []) (rs := [(0, 9, 15, 13)]) (rest := [.int 0, .ref (oz_b G + 74)]) hEx rfl (by decide) (by decide) tw_480 tc_cast0 (fun p hp => by cases hp) (fun H locs ls hP hS hl => oz_trunV (C := "OrderHall") (n := 1) (i := 0) cx (t_Hall_keep hfl hv) hP hS ⟨tw_708, tw_709, tw_710, tw_1⟩ rfl tw_711 (by decide +kernel) rfl (by decide) rfl rfl (oz_roomT hRm (by decide) (by decide)) hcs.1 hcs.2 rfl hl.1 (As := [.int a1]) rfl (lv_room (Nat.le_of_ble_eq_true rfl)) d_Law_keep_4) (fun xv => ?_)
      refine oz_astore_n (q := 13) cx1 d_Law_keep_12 rfl rfl (by rw [hnL]; decide) (lv2 := [(3, .ref xv), (0, .ref (oz_b G + 0)), (1, .int a1), (2, .ref (oz_b G + 74))]) rfl ?_
      refine oz_iconst (q := 14) cx1 d_Law_keep_13 rfl (v := 1) rfl ?_
      exact oz_iret cx1 hR1 d_Law_keep_14
    · skip
      refine oz_ite (fun hk => ?_) (fun _ => ?_)
      · subst hk
        refine oz_caught (kx := 2) cx (ps := [(0, 9, 12, 27)]) (rs := []) (rest := [.int 0, .ref (oz_b G + 74)]) hEx rfl (by decide) (by decide) tw_358 tc_cast2 (List.forall_mem_cons.mpr ⟨⟨by decide, 0, tw_480, List.mem_of_getElem? (i := 1) rfl⟩, fun _ h => absurd h List.not_mem_nil⟩) (fun H locs ls hP hS hl => oz_trunV (C := "OrderHall") (n := 1) (i := 0) cx (t_Hall_keep hfl hv) hP hS ⟨tw_708, tw_709, tw_710, tw_1⟩ rfl tw_711 (by decide +kernel) rfl (by decide) rfl rfl (oz_roomT hRm (by decide) (by decide)) hcs.1 hcs.2 rfl hl.1 (As := [.int a1]) rfl (lv_room (Nat.le_of_ble_eq_true rfl)) d_Law_keep_4) (fun xv => ?_)
        refine oz_astore_n (q := 16) cx1 d_Law_keep_15 rfl rfl (by rw [hnL]; decide) (lv2 := [(3, .ref xv), (0, .ref (oz_b G + 0)), (1, .int a1), (2, .ref (oz_b G + 74))]) rfl ?_
        refine oz_iconst (q := 17) cx1 d_Law_keep_16 rfl (v := 2) rfl ?_
        exact oz_iret cx1 hR1 d_Law_keep_17
      · skip
        exact oz_none
def y_Law_check : MethodName := ⟨"OrderHallLaw", "check", "(LOrderHall;[J)I"⟩
theorem d_Law_check_0 : decode method_21_code 0 = .ok (.aload_n 1, 1) := by decide +kernel
theorem d_Law_check_1 : decode method_21_code 1 = .ok (.iconst 0, 1) := by decide +kernel
theorem d_Law_check_2 : decode method_21_code 2 = .ok (.aload_n 0, 1) := by decide +kernel
theorem d_Law_check_3 : decode method_21_code 3 = .ok (.invokevirtual 76, 3) := by decide +kernel
theorem d_Law_check_6 : decode method_21_code 6 = .ok (.i2l, 1) := by decide +kernel
theorem d_Law_check_7 : decode method_21_code 7 = .ok (.lastore, 1) := by decide +kernel
theorem d_Law_check_8 : decode method_21_code 8 = .ok (.goto 6, 3) := by decide +kernel
theorem d_Law_check_11 : decode method_21_code 11 = .ok (.astore_n 2, 1) := by decide +kernel
theorem d_Law_check_12 : decode method_21_code 12 = .ok (.iconst 1, 1) := by decide +kernel
theorem d_Law_check_13 : decode method_21_code 13 = .ok (.ireturn, 1) := by decide +kernel
theorem d_Law_check_14 : decode method_21_code 14 = .ok (.iconst 0, 1) := by decide +kernel
theorem d_Law_check_15 : decode method_21_code 15 = .ok (.ireturn, 1) := by decide +kernel
noncomputable def f_Law_check (M : oz_M) : Option (Int32 × oz_M) := oz_b2 (f_Hall_check M) fun w M1 => oz_el (fun kx => if kx = 0 then (some (1, M1)) else none) (fun v => (oz_in 0 1).bind fun j51 => (some (oz_l M1 74 j51 (Int32.toInt64 v))).bind fun M52 => some (0, M52)) w
set_option maxRecDepth 20000 in
set_option maxHeartbeats 2000000 in
theorem c_Law_check {l : Launch} {D : va_G} {cs : Nat → ClassId} {b : Nat} {M : oz_M} {vz : Int32} {Mz : oz_M} (hfl : l.stackTraces = false) (hF : f_Law_check M = some (vz, Mz)) : oz_MetW l D cs b y_Law_check method_21_code 3 [(0, 8, 11, 27)] 7 [.ref (b + 0), .ref (b + 74)] M vz Mz := by
  refine oz_enterW (by decide) (Nat.le_of_ble_eq_true rfl) (fun G cx cx1 hR hR1 hEx e1 hRm hcs e2 e3 e4 hnL => ?_)
  subst e1; subst e2; subst e3; subst e4
  refine (?_ : oz_R G 0 [(0, .ref (oz_b G + 0)), (1, .ref (oz_b G + 74))] [] M (f_Law_check  M) (fun x => x = (vz, Mz))) _ hF rfl
  unfold f_Law_check
  refine oz_aload_n (q := 1) cx d_Law_check_0 rfl rfl 1 rfl ?_
  refine oz_iconst (q := 2) cx d_Law_check_1 rfl (v := 0) rfl ?_
  refine oz_aload_n (q := 3) cx d_Law_check_2 rfl rfl 0 rfl ?_
  refine oz_case (fun v M1 hv => ?_) (fun kx M1 hv => ?_)
  · refine (?_ : oz_R G 3 [(0, .ref (oz_b G + 0)), (1, .ref (oz_b G + 74))] [.ref (oz_b G + 0), .int 0, .ref (oz_b G + 74)] M (oz_b2 (some (v, M1)) fun v M1 => (oz_in 0 1).bind fun j51 => (some (oz_l M1 74 j51 (Int32.toInt64 v))).bind fun M52 => some (0, M52)) (fun x => x = (vz, Mz)))
    refine oz_cVi (kc := 6) (q := 6) cx 0 [] 0 0 hRm (by decide) (by decide) (fun _ _ h => by cases h; exact c_Hall_check hv) ⟨tw_729, tw_730, tw_731, tw_1⟩ tw_732 (by decide +kernel) rfl (by decide) rfl rfl (st := [.int 0, .ref (oz_b G + 74)]) rfl (Nat.le_of_ble_eq_true rfl) d_Law_check_3 rfl (fun v M1 _ => ?_)
    refine oz_i2l (q := 7) cx d_Law_check_6 rfl ?_
    refine oz_last (q := 8) cx 74 1 (by decide) (fun _ => rfl) d_Law_check_7 rfl (fun j51 hj51 => ?_)
    refine oz_nm (fun M52 hM52 => ?_)
    refine oz_goto cx d_Law_check_8 rfl ?_
    refine oz_iconst (q := 15) cx d_Law_check_14 rfl (v := 0) rfl ?_
    exact oz_iret cx hR d_Law_check_15
  · refine oz_ite (fun hk => ?_) (fun _ => ?_)
    · subst hk
      refine oz_caught (kx := 0) cx (ps := []) (rs := []) (rest := [.int 0, .ref (oz_b G + 74)]) hEx rfl (by decide) (by decide) tw_480 tc_cast0 (fun p hp => by cases hp) (fun H locs ls hP hS hl => oz_trunV (C := "OrderHall") (n := 0) (i := 0) cx (t_Hall_check hfl hv) hP hS ⟨tw_729, tw_730, tw_731, tw_1⟩ rfl tw_732 (by decide +kernel) rfl (by decide) rfl rfl (oz_roomT hRm (by decide) (by decide)) hcs.1 hcs.2 rfl hl.1 (As := []) rfl (lv_room (Nat.le_of_ble_eq_true rfl)) d_Law_check_3) (fun xv => ?_)
      refine oz_astore_n (q := 12) cx1 d_Law_check_11 rfl rfl (by rw [hnL]; decide) (lv2 := [(2, .ref xv), (0, .ref (oz_b G + 0)), (1, .ref (oz_b G + 74))]) rfl ?_
      refine oz_iconst (q := 13) cx1 d_Law_check_12 rfl (v := 1) rfl ?_
      exact oz_iret cx1 hR1 d_Law_check_13
    · skip
      exact oz_none
