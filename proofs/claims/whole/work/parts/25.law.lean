theorem tw_0 : (Jvm.Cond.initialized "OrderHallLaw") ∈ oz_TW := oz_inT 0 (by decide +kernel) rfl
theorem tw_253 : (Jvm.Cond.methodLink "OrderHallLaw" (99 : Nat) ({ cls := "OrderHall", name := "settle", desc := "()I" } : Jvm.MethodName)) ∈ oz_TW := oz_inT 253 (by decide +kernel) rfl
theorem tw_254 : (Jvm.Cond.instanceMethod ({ cls := "OrderHall", name := "settle", desc := "()I" } : Jvm.MethodName)) ∈ oz_TW := oz_inT 254 (by decide +kernel) rfl
theorem tw_255 : (Jvm.Cond.selects "OrderHall" ({ cls := "OrderHall", name := "settle", desc := "()I" } : Jvm.MethodName) ({ cls := "OrderHall", name := "settle", desc := "()I" } : Jvm.MethodName)) ∈ oz_TW := oz_inT 255 (by decide +kernel) rfl
theorem tw_256 : (Jvm.Cond.code ({ cls := "OrderHall", name := "settle", desc := "()I" } : Jvm.MethodName) prog_1_method_5_code (1 : Nat) (Option.some Jvm.ClassFile.FieldType.int)) ∈ oz_TW := oz_inT 256 (by decide +kernel) rfl
theorem tw_325 : (Jvm.Cond.methodLink "OrderHallLaw" (103 : Nat) ({ cls := "OrderHall", name := "cycle", desc := "(I)I" } : Jvm.MethodName)) ∈ oz_TW := oz_inT 325 (by decide +kernel) rfl
theorem tw_326 : (Jvm.Cond.instanceMethod ({ cls := "OrderHall", name := "cycle", desc := "(I)I" } : Jvm.MethodName)) ∈ oz_TW := oz_inT 326 (by decide +kernel) rfl
theorem tw_327 : (Jvm.Cond.selects "OrderHall" ({ cls := "OrderHall", name := "cycle", desc := "(I)I" } : Jvm.MethodName) ({ cls := "OrderHall", name := "cycle", desc := "(I)I" } : Jvm.MethodName)) ∈ oz_TW := oz_inT 327 (by decide +kernel) rfl
theorem tw_328 : (Jvm.Cond.code ({ cls := "OrderHall", name := "cycle", desc := "(I)I" } : Jvm.MethodName) prog_1_method_6_code (2 : Nat) (Option.some Jvm.ClassFile.FieldType.int)) ∈ oz_TW := oz_inT 328 (by decide +kernel) rfl
theorem tw_329 : (Jvm.Cond.methodLink "OrderHallLaw" (142 : Nat) ({ cls := "OrderHall", name := "at", desc := "(I)I" } : Jvm.MethodName)) ∈ oz_TW := oz_inT 329 (by decide +kernel) rfl
theorem tw_330 : (Jvm.Cond.instanceMethod ({ cls := "OrderHall", name := "at", desc := "(I)I" } : Jvm.MethodName)) ∈ oz_TW := oz_inT 330 (by decide +kernel) rfl
theorem tw_331 : (Jvm.Cond.selects "OrderHall" ({ cls := "OrderHall", name := "at", desc := "(I)I" } : Jvm.MethodName) ({ cls := "OrderHall", name := "at", desc := "(I)I" } : Jvm.MethodName)) ∈ oz_TW := oz_inT 331 (by decide +kernel) rfl
theorem tw_332 : (Jvm.Cond.code ({ cls := "OrderHall", name := "at", desc := "(I)I" } : Jvm.MethodName) prog_1_method_17_code (2 : Nat) (Option.some Jvm.ClassFile.FieldType.int)) ∈ oz_TW := oz_inT 332 (by decide +kernel) rfl
theorem tw_333 : (Jvm.Cond.methodLink "OrderHallLaw" (146 : Nat) ({ cls := "OrderHall", name := "exchange", desc := "(I)I" } : Jvm.MethodName)) ∈ oz_TW := oz_inT 333 (by decide +kernel) rfl
theorem tw_334 : (Jvm.Cond.instanceMethod ({ cls := "OrderHall", name := "exchange", desc := "(I)I" } : Jvm.MethodName)) ∈ oz_TW := oz_inT 334 (by decide +kernel) rfl
theorem tw_335 : (Jvm.Cond.selects "OrderHall" ({ cls := "OrderHall", name := "exchange", desc := "(I)I" } : Jvm.MethodName) ({ cls := "OrderHall", name := "exchange", desc := "(I)I" } : Jvm.MethodName)) ∈ oz_TW := oz_inT 335 (by decide +kernel) rfl
theorem tw_336 : (Jvm.Cond.code ({ cls := "OrderHall", name := "exchange", desc := "(I)I" } : Jvm.MethodName) prog_1_method_18_code (2 : Nat) (Option.some Jvm.ClassFile.FieldType.int)) ∈ oz_TW := oz_inT 336 (by decide +kernel) rfl
theorem tw_342 : (Jvm.Cond.methodLink "OrderHallLaw" (150 : Nat) ({ cls := "OrderHall", name := "number", desc := "()J" } : Jvm.MethodName)) ∈ oz_TW := oz_inT 342 (by decide +kernel) rfl
theorem tw_343 : (Jvm.Cond.instanceMethod ({ cls := "OrderHall", name := "number", desc := "()J" } : Jvm.MethodName)) ∈ oz_TW := oz_inT 343 (by decide +kernel) rfl
theorem tw_344 : (Jvm.Cond.selects "OrderHall" ({ cls := "OrderHall", name := "number", desc := "()J" } : Jvm.MethodName) ({ cls := "OrderHall", name := "number", desc := "()J" } : Jvm.MethodName)) ∈ oz_TW := oz_inT 344 (by decide +kernel) rfl
theorem tw_345 : (Jvm.Cond.code ({ cls := "OrderHall", name := "number", desc := "()J" } : Jvm.MethodName) prog_1_method_19_code (1 : Nat) (Option.some Jvm.ClassFile.FieldType.long)) ∈ oz_TW := oz_inT 345 (by decide +kernel) rfl
theorem tw_355 : (Jvm.Cond.methodLink "OrderHallLaw" (83 : Nat) ({ cls := "OrderHallLaw", name := "begin", desc := "(LOrderHall;I)I" } : Jvm.MethodName)) ∈ oz_TW := oz_inT 355 (by decide +kernel) rfl
theorem tw_356 : (Jvm.Cond.static ({ cls := "OrderHallLaw", name := "begin", desc := "(LOrderHall;I)I" } : Jvm.MethodName)) ∈ oz_TW := oz_inT 356 (by decide +kernel) rfl
theorem tw_357 : (Jvm.Cond.codeWith ({ cls := "OrderHallLaw", name := "begin", desc := "(LOrderHall;I)I" } : Jvm.MethodName) method_3_code (3 : Nat) (Option.some Jvm.ClassFile.FieldType.int) [((0 : Nat), (5 : Nat), (8 : Nat), (13 : Nat))]) ∈ oz_TW := oz_inT 357 (by decide +kernel) rfl
theorem tw_434 : (Jvm.Cond.methodLink "OrderHallLaw" (92 : Nat) ({ cls := "OrderHallLaw", name := "arc", desc := "(LOrderHall;II[J)I" } : Jvm.MethodName)) ∈ oz_TW := oz_inT 434 (by decide +kernel) rfl
theorem tw_435 : (Jvm.Cond.static ({ cls := "OrderHallLaw", name := "arc", desc := "(LOrderHall;II[J)I" } : Jvm.MethodName)) ∈ oz_TW := oz_inT 435 (by decide +kernel) rfl
theorem tw_436 : (Jvm.Cond.codeWith ({ cls := "OrderHallLaw", name := "arc", desc := "(LOrderHall;II[J)I" } : Jvm.MethodName) method_4_code (5 : Nat) (Option.some Jvm.ClassFile.FieldType.int) [((0 : Nat), (10 : Nat), (13 : Nat), (19 : Nat))]) ∈ oz_TW := oz_inT 436 (by decide +kernel) rfl
theorem tw_466 : (Jvm.Cond.methodLink "OrderHallLaw" (96 : Nat) ({ cls := "OrderHallLaw", name := "drop", desc := "(LOrderHall;II[J)I" } : Jvm.MethodName)) ∈ oz_TW := oz_inT 466 (by decide +kernel) rfl
theorem tw_467 : (Jvm.Cond.static ({ cls := "OrderHallLaw", name := "drop", desc := "(LOrderHall;II[J)I" } : Jvm.MethodName)) ∈ oz_TW := oz_inT 467 (by decide +kernel) rfl
theorem tw_468 : (Jvm.Cond.codeWith ({ cls := "OrderHallLaw", name := "drop", desc := "(LOrderHall;II[J)I" } : Jvm.MethodName) method_5_code (5 : Nat) (Option.some Jvm.ClassFile.FieldType.int) [((0 : Nat), (10 : Nat), (13 : Nat), (19 : Nat))]) ∈ oz_TW := oz_inT 468 (by decide +kernel) rfl
theorem tw_477 : (Jvm.Cond.methodLink "OrderHallLaw" (107 : Nat) ({ cls := "OrderHallLaw", name := "compare", desc := "(LOrderHall;II[J)I" } : Jvm.MethodName)) ∈ oz_TW := oz_inT 477 (by decide +kernel) rfl
theorem tw_478 : (Jvm.Cond.static ({ cls := "OrderHallLaw", name := "compare", desc := "(LOrderHall;II[J)I" } : Jvm.MethodName)) ∈ oz_TW := oz_inT 478 (by decide +kernel) rfl
theorem tw_479 : (Jvm.Cond.codeWith ({ cls := "OrderHallLaw", name := "compare", desc := "(LOrderHall;II[J)I" } : Jvm.MethodName) method_6_code (5 : Nat) (Option.some Jvm.ClassFile.FieldType.int) [((0 : Nat), (10 : Nat), (13 : Nat), (27 : Nat)), ((0 : Nat), (10 : Nat), (17 : Nat), (19 : Nat))]) ∈ oz_TW := oz_inT 479 (by decide +kernel) rfl
theorem tw_506 : (Jvm.Cond.methodLink "OrderHallLaw" (110 : Nat) ({ cls := "OrderHallLaw", name := "set", desc := "(LOrderHall;II[J)I" } : Jvm.MethodName)) ∈ oz_TW := oz_inT 506 (by decide +kernel) rfl
theorem tw_507 : (Jvm.Cond.static ({ cls := "OrderHallLaw", name := "set", desc := "(LOrderHall;II[J)I" } : Jvm.MethodName)) ∈ oz_TW := oz_inT 507 (by decide +kernel) rfl
theorem tw_508 : (Jvm.Cond.codeWith ({ cls := "OrderHallLaw", name := "set", desc := "(LOrderHall;II[J)I" } : Jvm.MethodName) method_7_code (5 : Nat) (Option.some Jvm.ClassFile.FieldType.int) [((0 : Nat), (10 : Nat), (13 : Nat), (27 : Nat)), ((0 : Nat), (10 : Nat), (17 : Nat), (19 : Nat)), ((0 : Nat), (10 : Nat), (21 : Nat), (13 : Nat))]) ∈ oz_TW := oz_inT 508 (by decide +kernel) rfl
theorem tw_521 : (Jvm.Cond.methodLink "OrderHallLaw" (113 : Nat) ({ cls := "OrderHallLaw", name := "level", desc := "(LOrderHall;II[J)I" } : Jvm.MethodName)) ∈ oz_TW := oz_inT 521 (by decide +kernel) rfl
theorem tw_522 : (Jvm.Cond.static ({ cls := "OrderHallLaw", name := "level", desc := "(LOrderHall;II[J)I" } : Jvm.MethodName)) ∈ oz_TW := oz_inT 522 (by decide +kernel) rfl
theorem tw_523 : (Jvm.Cond.codeWith ({ cls := "OrderHallLaw", name := "level", desc := "(LOrderHall;II[J)I" } : Jvm.MethodName) method_8_code (5 : Nat) (Option.some Jvm.ClassFile.FieldType.int) [((0 : Nat), (10 : Nat), (13 : Nat), (27 : Nat)), ((0 : Nat), (10 : Nat), (17 : Nat), (19 : Nat)), ((0 : Nat), (10 : Nat), (21 : Nat), (13 : Nat))]) ∈ oz_TW := oz_inT 523 (by decide +kernel) rfl
theorem tw_528 : (Jvm.Cond.methodLink "OrderHallLaw" (116 : Nat) ({ cls := "OrderHallLaw", name := "count", desc := "(LOrderHall;I[J)I" } : Jvm.MethodName)) ∈ oz_TW := oz_inT 528 (by decide +kernel) rfl
theorem tw_529 : (Jvm.Cond.static ({ cls := "OrderHallLaw", name := "count", desc := "(LOrderHall;I[J)I" } : Jvm.MethodName)) ∈ oz_TW := oz_inT 529 (by decide +kernel) rfl
theorem tw_530 : (Jvm.Cond.codeWith ({ cls := "OrderHallLaw", name := "count", desc := "(LOrderHall;I[J)I" } : Jvm.MethodName) method_9_code (4 : Nat) (Option.some Jvm.ClassFile.FieldType.int) [((0 : Nat), (9 : Nat), (12 : Nat), (27 : Nat)), ((0 : Nat), (9 : Nat), (15 : Nat), (13 : Nat))]) ∈ oz_TW := oz_inT 530 (by decide +kernel) rfl
theorem tw_575 : (Jvm.Cond.methodLink "OrderHallLaw" (120 : Nat) ({ cls := "OrderHallLaw", name := "antichain", desc := "(LOrderHall;I[J)I" } : Jvm.MethodName)) ∈ oz_TW := oz_inT 575 (by decide +kernel) rfl
theorem tw_576 : (Jvm.Cond.static ({ cls := "OrderHallLaw", name := "antichain", desc := "(LOrderHall;I[J)I" } : Jvm.MethodName)) ∈ oz_TW := oz_inT 576 (by decide +kernel) rfl
theorem tw_577 : (Jvm.Cond.codeWith ({ cls := "OrderHallLaw", name := "antichain", desc := "(LOrderHall;I[J)I" } : Jvm.MethodName) method_10_code (4 : Nat) (Option.some Jvm.ClassFile.FieldType.int) [((0 : Nat), (9 : Nat), (12 : Nat), (27 : Nat)), ((0 : Nat), (9 : Nat), (15 : Nat), (13 : Nat))]) ∈ oz_TW := oz_inT 577 (by decide +kernel) rfl
theorem tw_582 : (Jvm.Cond.methodLink "OrderHallLaw" (123 : Nat) ({ cls := "OrderHallLaw", name := "most", desc := "(LOrderHall;II[J)I" } : Jvm.MethodName)) ∈ oz_TW := oz_inT 582 (by decide +kernel) rfl
theorem tw_583 : (Jvm.Cond.static ({ cls := "OrderHallLaw", name := "most", desc := "(LOrderHall;II[J)I" } : Jvm.MethodName)) ∈ oz_TW := oz_inT 583 (by decide +kernel) rfl
theorem tw_584 : (Jvm.Cond.codeWith ({ cls := "OrderHallLaw", name := "most", desc := "(LOrderHall;II[J)I" } : Jvm.MethodName) method_11_code (5 : Nat) (Option.some Jvm.ClassFile.FieldType.int) [((0 : Nat), (10 : Nat), (13 : Nat), (27 : Nat)), ((0 : Nat), (10 : Nat), (17 : Nat), (13 : Nat))]) ∈ oz_TW := oz_inT 584 (by decide +kernel) rfl
theorem tw_589 : (Jvm.Cond.methodLink "OrderHallLaw" (126 : Nat) ({ cls := "OrderHallLaw", name := "first", desc := "(LOrderHall;II[J)I" } : Jvm.MethodName)) ∈ oz_TW := oz_inT 589 (by decide +kernel) rfl
theorem tw_590 : (Jvm.Cond.static ({ cls := "OrderHallLaw", name := "first", desc := "(LOrderHall;II[J)I" } : Jvm.MethodName)) ∈ oz_TW := oz_inT 590 (by decide +kernel) rfl
theorem tw_591 : (Jvm.Cond.codeWith ({ cls := "OrderHallLaw", name := "first", desc := "(LOrderHall;II[J)I" } : Jvm.MethodName) method_12_code (5 : Nat) (Option.some Jvm.ClassFile.FieldType.int) [((0 : Nat), (10 : Nat), (13 : Nat), (27 : Nat)), ((0 : Nat), (10 : Nat), (17 : Nat), (13 : Nat))]) ∈ oz_TW := oz_inT 591 (by decide +kernel) rfl
theorem tw_596 : (Jvm.Cond.methodLink "OrderHallLaw" (129 : Nat) ({ cls := "OrderHallLaw", name := "chains", desc := "(LOrderHall;I[J)I" } : Jvm.MethodName)) ∈ oz_TW := oz_inT 596 (by decide +kernel) rfl
theorem tw_597 : (Jvm.Cond.static ({ cls := "OrderHallLaw", name := "chains", desc := "(LOrderHall;I[J)I" } : Jvm.MethodName)) ∈ oz_TW := oz_inT 597 (by decide +kernel) rfl
theorem tw_598 : (Jvm.Cond.codeWith ({ cls := "OrderHallLaw", name := "chains", desc := "(LOrderHall;I[J)I" } : Jvm.MethodName) method_13_code (4 : Nat) (Option.some Jvm.ClassFile.FieldType.int) [((0 : Nat), (9 : Nat), (12 : Nat), (27 : Nat)), ((0 : Nat), (9 : Nat), (15 : Nat), (13 : Nat))]) ∈ oz_TW := oz_inT 598 (by decide +kernel) rfl
theorem tw_611 : (Jvm.Cond.methodLink "OrderHallLaw" (132 : Nat) ({ cls := "OrderHallLaw", name := "sequences", desc := "(LOrderHall;[J)I" } : Jvm.MethodName)) ∈ oz_TW := oz_inT 611 (by decide +kernel) rfl
theorem tw_612 : (Jvm.Cond.static ({ cls := "OrderHallLaw", name := "sequences", desc := "(LOrderHall;[J)I" } : Jvm.MethodName)) ∈ oz_TW := oz_inT 612 (by decide +kernel) rfl
theorem tw_613 : (Jvm.Cond.codeWith ({ cls := "OrderHallLaw", name := "sequences", desc := "(LOrderHall;[J)I" } : Jvm.MethodName) method_14_code (3 : Nat) (Option.some Jvm.ClassFile.FieldType.int) [((0 : Nat), (7 : Nat), (10 : Nat), (27 : Nat))]) ∈ oz_TW := oz_inT 613 (by decide +kernel) rfl
theorem tw_631 : (Jvm.Cond.methodLink "OrderHallLaw" (138 : Nat) ({ cls := "OrderHallLaw", name := "take", desc := "(LOrderHall;J)I" } : Jvm.MethodName)) ∈ oz_TW := oz_inT 631 (by decide +kernel) rfl
theorem tw_632 : (Jvm.Cond.static ({ cls := "OrderHallLaw", name := "take", desc := "(LOrderHall;J)I" } : Jvm.MethodName)) ∈ oz_TW := oz_inT 632 (by decide +kernel) rfl
theorem tw_633 : (Jvm.Cond.codeWith ({ cls := "OrderHallLaw", name := "take", desc := "(LOrderHall;J)I" } : Jvm.MethodName) method_15_code (4 : Nat) (Option.some Jvm.ClassFile.FieldType.int) [((0 : Nat), (5 : Nat), (8 : Nat), (27 : Nat)), ((0 : Nat), (5 : Nat), (11 : Nat), (13 : Nat))]) ∈ oz_TW := oz_inT 633 (by decide +kernel) rfl
theorem tw_643 : (Jvm.Cond.methodLink "OrderHallLaw" (154 : Nat) ({ cls := "OrderHallLaw", name := "bound", desc := "(LOrderHall;III[J)I" } : Jvm.MethodName)) ∈ oz_TW := oz_inT 643 (by decide +kernel) rfl
theorem tw_644 : (Jvm.Cond.static ({ cls := "OrderHallLaw", name := "bound", desc := "(LOrderHall;III[J)I" } : Jvm.MethodName)) ∈ oz_TW := oz_inT 644 (by decide +kernel) rfl
theorem tw_645 : (Jvm.Cond.codeWith ({ cls := "OrderHallLaw", name := "bound", desc := "(LOrderHall;III[J)I" } : Jvm.MethodName) method_16_code (6 : Nat) (Option.some Jvm.ClassFile.FieldType.int) [((0 : Nat), (12 : Nat), (15 : Nat), (27 : Nat)), ((0 : Nat), (12 : Nat), (19 : Nat), (19 : Nat)), ((0 : Nat), (12 : Nat), (23 : Nat), (13 : Nat))]) ∈ oz_TW := oz_inT 645 (by decide +kernel) rfl
theorem tw_666 : (Jvm.Cond.methodLink "OrderHallLaw" (158 : Nat) ({ cls := "OrderHallLaw", name := "lattice", desc := "(LOrderHall;[J)I" } : Jvm.MethodName)) ∈ oz_TW := oz_inT 666 (by decide +kernel) rfl
theorem tw_667 : (Jvm.Cond.static ({ cls := "OrderHallLaw", name := "lattice", desc := "(LOrderHall;[J)I" } : Jvm.MethodName)) ∈ oz_TW := oz_inT 667 (by decide +kernel) rfl
theorem tw_668 : (Jvm.Cond.codeWith ({ cls := "OrderHallLaw", name := "lattice", desc := "(LOrderHall;[J)I" } : Jvm.MethodName) method_17_code (3 : Nat) (Option.some Jvm.ClassFile.FieldType.int) [((0 : Nat), (8 : Nat), (11 : Nat), (27 : Nat))]) ∈ oz_TW := oz_inT 668 (by decide +kernel) rfl
theorem tw_683 : (Jvm.Cond.methodLink "OrderHallLaw" (161 : Nat) ({ cls := "OrderHallLaw", name := "sign", desc := "(LOrderHall;II[J)I" } : Jvm.MethodName)) ∈ oz_TW := oz_inT 683 (by decide +kernel) rfl
theorem tw_684 : (Jvm.Cond.static ({ cls := "OrderHallLaw", name := "sign", desc := "(LOrderHall;II[J)I" } : Jvm.MethodName)) ∈ oz_TW := oz_inT 684 (by decide +kernel) rfl
theorem tw_685 : (Jvm.Cond.codeWith ({ cls := "OrderHallLaw", name := "sign", desc := "(LOrderHall;II[J)I" } : Jvm.MethodName) method_18_code (5 : Nat) (Option.some Jvm.ClassFile.FieldType.int) [((0 : Nat), (10 : Nat), (13 : Nat), (27 : Nat)), ((0 : Nat), (10 : Nat), (17 : Nat), (19 : Nat))]) ∈ oz_TW := oz_inT 685 (by decide +kernel) rfl
theorem tw_694 : (Jvm.Cond.methodLink "OrderHallLaw" (164 : Nat) ({ cls := "OrderHallLaw", name := "turn", desc := "(LOrderHall;)I" } : Jvm.MethodName)) ∈ oz_TW := oz_inT 694 (by decide +kernel) rfl
theorem tw_695 : (Jvm.Cond.static ({ cls := "OrderHallLaw", name := "turn", desc := "(LOrderHall;)I" } : Jvm.MethodName)) ∈ oz_TW := oz_inT 695 (by decide +kernel) rfl
theorem tw_696 : (Jvm.Cond.codeWith ({ cls := "OrderHallLaw", name := "turn", desc := "(LOrderHall;)I" } : Jvm.MethodName) method_19_code (2 : Nat) (Option.some Jvm.ClassFile.FieldType.int) [((0 : Nat), (4 : Nat), (7 : Nat), (27 : Nat))]) ∈ oz_TW := oz_inT 696 (by decide +kernel) rfl
theorem tw_705 : (Jvm.Cond.methodLink "OrderHallLaw" (168 : Nat) ({ cls := "OrderHallLaw", name := "keep", desc := "(LOrderHall;I[J)I" } : Jvm.MethodName)) ∈ oz_TW := oz_inT 705 (by decide +kernel) rfl
theorem tw_706 : (Jvm.Cond.static ({ cls := "OrderHallLaw", name := "keep", desc := "(LOrderHall;I[J)I" } : Jvm.MethodName)) ∈ oz_TW := oz_inT 706 (by decide +kernel) rfl
theorem tw_707 : (Jvm.Cond.codeWith ({ cls := "OrderHallLaw", name := "keep", desc := "(LOrderHall;I[J)I" } : Jvm.MethodName) method_20_code (4 : Nat) (Option.some Jvm.ClassFile.FieldType.int) [((0 : Nat), (9 : Nat), (12 : Nat), (27 : Nat)), ((0 : Nat), (9 : Nat), (15 : Nat), (13 : Nat))]) ∈ oz_TW := oz_inT 707 (by decide +kernel) rfl
theorem tw_726 : (Jvm.Cond.methodLink "OrderHallLaw" (171 : Nat) ({ cls := "OrderHallLaw", name := "check", desc := "(LOrderHall;[J)I" } : Jvm.MethodName)) ∈ oz_TW := oz_inT 726 (by decide +kernel) rfl
theorem tw_727 : (Jvm.Cond.static ({ cls := "OrderHallLaw", name := "check", desc := "(LOrderHall;[J)I" } : Jvm.MethodName)) ∈ oz_TW := oz_inT 727 (by decide +kernel) rfl
theorem tw_728 : (Jvm.Cond.codeWith ({ cls := "OrderHallLaw", name := "check", desc := "(LOrderHall;[J)I" } : Jvm.MethodName) method_21_code (3 : Nat) (Option.some Jvm.ClassFile.FieldType.int) [((0 : Nat), (8 : Nat), (11 : Nat), (27 : Nat))]) ∈ oz_TW := oz_inT 728 (by decide +kernel) rfl
theorem tw_839 : (Jvm.Cond.methodLink "OrderHallLaw" (89 : Nat) ({ cls := "OrderHallModel", name := "thrown", desc := "()I" } : Jvm.MethodName)) ∈ oz_TW := oz_inT 839 (by decide +kernel) rfl
theorem tw_840 : (Jvm.Cond.instanceMethod ({ cls := "OrderHallModel", name := "thrown", desc := "()I" } : Jvm.MethodName)) ∈ oz_TW := oz_inT 840 (by decide +kernel) rfl
theorem tw_841 : (Jvm.Cond.selects "OrderHallModel" ({ cls := "OrderHallModel", name := "thrown", desc := "()I" } : Jvm.MethodName) ({ cls := "OrderHallModel", name := "thrown", desc := "()I" } : Jvm.MethodName)) ∈ oz_TW := oz_inT 841 (by decide +kernel) rfl
theorem tw_842 : (Jvm.Cond.code ({ cls := "OrderHallModel", name := "thrown", desc := "()I" } : Jvm.MethodName) prog_10_method_2_code (1 : Nat) (Option.some Jvm.ClassFile.FieldType.int)) ∈ oz_TW := oz_inT 842 (by decide +kernel) rfl
theorem tw_843 : (Jvm.Cond.methodLink "OrderHallLaw" (88 : Nat) ({ cls := "OrderHallModel", name := "begin", desc := "(I)V" } : Jvm.MethodName)) ∈ oz_TW := oz_inT 843 (by decide +kernel) rfl
theorem tw_844 : (Jvm.Cond.instanceMethod ({ cls := "OrderHallModel", name := "begin", desc := "(I)V" } : Jvm.MethodName)) ∈ oz_TW := oz_inT 844 (by decide +kernel) rfl
theorem tw_845 : (Jvm.Cond.selects "OrderHallModel" ({ cls := "OrderHallModel", name := "begin", desc := "(I)V" } : Jvm.MethodName) ({ cls := "OrderHallModel", name := "begin", desc := "(I)V" } : Jvm.MethodName)) ∈ oz_TW := oz_inT 845 (by decide +kernel) rfl
theorem tw_846 : (Jvm.Cond.code ({ cls := "OrderHallModel", name := "begin", desc := "(I)V" } : Jvm.MethodName) prog_10_method_5_code (3 : Nat) (Option.none : Option Jvm.ClassFile.FieldType)) ∈ oz_TW := oz_inT 846 (by decide +kernel) rfl
theorem tw_851 : (Jvm.Cond.methodLink "OrderHallLaw" (95 : Nat) ({ cls := "OrderHallModel", name := "arc", desc := "(II)I" } : Jvm.MethodName)) ∈ oz_TW := oz_inT 851 (by decide +kernel) rfl
theorem tw_852 : (Jvm.Cond.instanceMethod ({ cls := "OrderHallModel", name := "arc", desc := "(II)I" } : Jvm.MethodName)) ∈ oz_TW := oz_inT 852 (by decide +kernel) rfl
theorem tw_853 : (Jvm.Cond.selects "OrderHallModel" ({ cls := "OrderHallModel", name := "arc", desc := "(II)I" } : Jvm.MethodName) ({ cls := "OrderHallModel", name := "arc", desc := "(II)I" } : Jvm.MethodName)) ∈ oz_TW := oz_inT 853 (by decide +kernel) rfl
theorem tw_854 : (Jvm.Cond.code ({ cls := "OrderHallModel", name := "arc", desc := "(II)I" } : Jvm.MethodName) prog_10_method_7_code (3 : Nat) (Option.some Jvm.ClassFile.FieldType.int)) ∈ oz_TW := oz_inT 854 (by decide +kernel) rfl
theorem tw_863 : (Jvm.Cond.methodLink "OrderHallLaw" (98 : Nat) ({ cls := "OrderHallModel", name := "drop", desc := "(II)I" } : Jvm.MethodName)) ∈ oz_TW := oz_inT 863 (by decide +kernel) rfl
theorem tw_864 : (Jvm.Cond.instanceMethod ({ cls := "OrderHallModel", name := "drop", desc := "(II)I" } : Jvm.MethodName)) ∈ oz_TW := oz_inT 864 (by decide +kernel) rfl
theorem tw_865 : (Jvm.Cond.selects "OrderHallModel" ({ cls := "OrderHallModel", name := "drop", desc := "(II)I" } : Jvm.MethodName) ({ cls := "OrderHallModel", name := "drop", desc := "(II)I" } : Jvm.MethodName)) ∈ oz_TW := oz_inT 865 (by decide +kernel) rfl
theorem tw_866 : (Jvm.Cond.code ({ cls := "OrderHallModel", name := "drop", desc := "(II)I" } : Jvm.MethodName) prog_10_method_8_code (3 : Nat) (Option.some Jvm.ClassFile.FieldType.int)) ∈ oz_TW := oz_inT 866 (by decide +kernel) rfl
theorem tw_867 : (Jvm.Cond.methodLink "OrderHallLaw" (102 : Nat) ({ cls := "OrderHallModel", name := "settle", desc := "()I" } : Jvm.MethodName)) ∈ oz_TW := oz_inT 867 (by decide +kernel) rfl
theorem tw_891 : (Jvm.Cond.methodLink "OrderHallLaw" (106 : Nat) ({ cls := "OrderHallModel", name := "cycle", desc := "(I)I" } : Jvm.MethodName)) ∈ oz_TW := oz_inT 891 (by decide +kernel) rfl
theorem tw_892 : (Jvm.Cond.instanceMethod ({ cls := "OrderHallModel", name := "cycle", desc := "(I)I" } : Jvm.MethodName)) ∈ oz_TW := oz_inT 892 (by decide +kernel) rfl
theorem tw_893 : (Jvm.Cond.selects "OrderHallModel" ({ cls := "OrderHallModel", name := "cycle", desc := "(I)I" } : Jvm.MethodName) ({ cls := "OrderHallModel", name := "cycle", desc := "(I)I" } : Jvm.MethodName)) ∈ oz_TW := oz_inT 893 (by decide +kernel) rfl
theorem tw_894 : (Jvm.Cond.code ({ cls := "OrderHallModel", name := "cycle", desc := "(I)I" } : Jvm.MethodName) prog_10_method_16_code (2 : Nat) (Option.some Jvm.ClassFile.FieldType.int)) ∈ oz_TW := oz_inT 894 (by decide +kernel) rfl
theorem tw_895 : (Jvm.Cond.methodLink "OrderHallLaw" (109 : Nat) ({ cls := "OrderHallModel", name := "compare", desc := "(II)I" } : Jvm.MethodName)) ∈ oz_TW := oz_inT 895 (by decide +kernel) rfl
theorem tw_896 : (Jvm.Cond.instanceMethod ({ cls := "OrderHallModel", name := "compare", desc := "(II)I" } : Jvm.MethodName)) ∈ oz_TW := oz_inT 896 (by decide +kernel) rfl
theorem tw_897 : (Jvm.Cond.selects "OrderHallModel" ({ cls := "OrderHallModel", name := "compare", desc := "(II)I" } : Jvm.MethodName) ({ cls := "OrderHallModel", name := "compare", desc := "(II)I" } : Jvm.MethodName)) ∈ oz_TW := oz_inT 897 (by decide +kernel) rfl
theorem tw_898 : (Jvm.Cond.code ({ cls := "OrderHallModel", name := "compare", desc := "(II)I" } : Jvm.MethodName) prog_10_method_17_code (3 : Nat) (Option.some Jvm.ClassFile.FieldType.int)) ∈ oz_TW := oz_inT 898 (by decide +kernel) rfl
theorem tw_899 : (Jvm.Cond.methodLink "OrderHallLaw" (112 : Nat) ({ cls := "OrderHallModel", name := "set", desc := "(II)I" } : Jvm.MethodName)) ∈ oz_TW := oz_inT 899 (by decide +kernel) rfl
theorem tw_900 : (Jvm.Cond.instanceMethod ({ cls := "OrderHallModel", name := "set", desc := "(II)I" } : Jvm.MethodName)) ∈ oz_TW := oz_inT 900 (by decide +kernel) rfl
theorem tw_901 : (Jvm.Cond.selects "OrderHallModel" ({ cls := "OrderHallModel", name := "set", desc := "(II)I" } : Jvm.MethodName) ({ cls := "OrderHallModel", name := "set", desc := "(II)I" } : Jvm.MethodName)) ∈ oz_TW := oz_inT 901 (by decide +kernel) rfl
theorem tw_902 : (Jvm.Cond.code ({ cls := "OrderHallModel", name := "set", desc := "(II)I" } : Jvm.MethodName) prog_10_method_19_code (6 : Nat) (Option.some Jvm.ClassFile.FieldType.int)) ∈ oz_TW := oz_inT 902 (by decide +kernel) rfl
theorem tw_911 : (Jvm.Cond.methodLink "OrderHallLaw" (115 : Nat) ({ cls := "OrderHallModel", name := "level", desc := "(II)I" } : Jvm.MethodName)) ∈ oz_TW := oz_inT 911 (by decide +kernel) rfl
theorem tw_912 : (Jvm.Cond.instanceMethod ({ cls := "OrderHallModel", name := "level", desc := "(II)I" } : Jvm.MethodName)) ∈ oz_TW := oz_inT 912 (by decide +kernel) rfl
theorem tw_913 : (Jvm.Cond.selects "OrderHallModel" ({ cls := "OrderHallModel", name := "level", desc := "(II)I" } : Jvm.MethodName) ({ cls := "OrderHallModel", name := "level", desc := "(II)I" } : Jvm.MethodName)) ∈ oz_TW := oz_inT 913 (by decide +kernel) rfl
theorem tw_914 : (Jvm.Cond.code ({ cls := "OrderHallModel", name := "level", desc := "(II)I" } : Jvm.MethodName) prog_10_method_26_code (5 : Nat) (Option.some Jvm.ClassFile.FieldType.int)) ∈ oz_TW := oz_inT 914 (by decide +kernel) rfl
theorem tw_937 : (Jvm.Cond.methodLink "OrderHallLaw" (119 : Nat) ({ cls := "OrderHallModel", name := "count", desc := "(I)I" } : Jvm.MethodName)) ∈ oz_TW := oz_inT 937 (by decide +kernel) rfl
theorem tw_938 : (Jvm.Cond.instanceMethod ({ cls := "OrderHallModel", name := "count", desc := "(I)I" } : Jvm.MethodName)) ∈ oz_TW := oz_inT 938 (by decide +kernel) rfl
theorem tw_939 : (Jvm.Cond.selects "OrderHallModel" ({ cls := "OrderHallModel", name := "count", desc := "(I)I" } : Jvm.MethodName) ({ cls := "OrderHallModel", name := "count", desc := "(I)I" } : Jvm.MethodName)) ∈ oz_TW := oz_inT 939 (by decide +kernel) rfl
theorem tw_940 : (Jvm.Cond.code ({ cls := "OrderHallModel", name := "count", desc := "(I)I" } : Jvm.MethodName) prog_10_method_28_code (6 : Nat) (Option.some Jvm.ClassFile.FieldType.int)) ∈ oz_TW := oz_inT 940 (by decide +kernel) rfl
theorem tw_945 : (Jvm.Cond.methodLink "OrderHallLaw" (122 : Nat) ({ cls := "OrderHallModel", name := "antichain", desc := "(I)I" } : Jvm.MethodName)) ∈ oz_TW := oz_inT 945 (by decide +kernel) rfl
theorem tw_946 : (Jvm.Cond.instanceMethod ({ cls := "OrderHallModel", name := "antichain", desc := "(I)I" } : Jvm.MethodName)) ∈ oz_TW := oz_inT 946 (by decide +kernel) rfl
theorem tw_947 : (Jvm.Cond.selects "OrderHallModel" ({ cls := "OrderHallModel", name := "antichain", desc := "(I)I" } : Jvm.MethodName) ({ cls := "OrderHallModel", name := "antichain", desc := "(I)I" } : Jvm.MethodName)) ∈ oz_TW := oz_inT 947 (by decide +kernel) rfl
theorem tw_948 : (Jvm.Cond.code ({ cls := "OrderHallModel", name := "antichain", desc := "(I)I" } : Jvm.MethodName) prog_10_method_30_code (5 : Nat) (Option.some Jvm.ClassFile.FieldType.int)) ∈ oz_TW := oz_inT 948 (by decide +kernel) rfl
theorem tw_953 : (Jvm.Cond.methodLink "OrderHallLaw" (125 : Nat) ({ cls := "OrderHallModel", name := "most", desc := "(II)I" } : Jvm.MethodName)) ∈ oz_TW := oz_inT 953 (by decide +kernel) rfl
theorem tw_954 : (Jvm.Cond.instanceMethod ({ cls := "OrderHallModel", name := "most", desc := "(II)I" } : Jvm.MethodName)) ∈ oz_TW := oz_inT 954 (by decide +kernel) rfl
theorem tw_955 : (Jvm.Cond.selects "OrderHallModel" ({ cls := "OrderHallModel", name := "most", desc := "(II)I" } : Jvm.MethodName) ({ cls := "OrderHallModel", name := "most", desc := "(II)I" } : Jvm.MethodName)) ∈ oz_TW := oz_inT 955 (by decide +kernel) rfl
theorem tw_956 : (Jvm.Cond.code ({ cls := "OrderHallModel", name := "most", desc := "(II)I" } : Jvm.MethodName) prog_10_method_34_code (3 : Nat) (Option.some Jvm.ClassFile.FieldType.int)) ∈ oz_TW := oz_inT 956 (by decide +kernel) rfl
theorem tw_969 : (Jvm.Cond.methodLink "OrderHallLaw" (128 : Nat) ({ cls := "OrderHallModel", name := "first", desc := "(II)I" } : Jvm.MethodName)) ∈ oz_TW := oz_inT 969 (by decide +kernel) rfl
theorem tw_970 : (Jvm.Cond.instanceMethod ({ cls := "OrderHallModel", name := "first", desc := "(II)I" } : Jvm.MethodName)) ∈ oz_TW := oz_inT 970 (by decide +kernel) rfl
theorem tw_971 : (Jvm.Cond.selects "OrderHallModel" ({ cls := "OrderHallModel", name := "first", desc := "(II)I" } : Jvm.MethodName) ({ cls := "OrderHallModel", name := "first", desc := "(II)I" } : Jvm.MethodName)) ∈ oz_TW := oz_inT 971 (by decide +kernel) rfl
theorem tw_972 : (Jvm.Cond.code ({ cls := "OrderHallModel", name := "first", desc := "(II)I" } : Jvm.MethodName) prog_10_method_35_code (3 : Nat) (Option.some Jvm.ClassFile.FieldType.int)) ∈ oz_TW := oz_inT 972 (by decide +kernel) rfl
theorem tw_973 : (Jvm.Cond.methodLink "OrderHallLaw" (131 : Nat) ({ cls := "OrderHallModel", name := "chains", desc := "(I)I" } : Jvm.MethodName)) ∈ oz_TW := oz_inT 973 (by decide +kernel) rfl
theorem tw_974 : (Jvm.Cond.instanceMethod ({ cls := "OrderHallModel", name := "chains", desc := "(I)I" } : Jvm.MethodName)) ∈ oz_TW := oz_inT 974 (by decide +kernel) rfl
theorem tw_975 : (Jvm.Cond.selects "OrderHallModel" ({ cls := "OrderHallModel", name := "chains", desc := "(I)I" } : Jvm.MethodName) ({ cls := "OrderHallModel", name := "chains", desc := "(I)I" } : Jvm.MethodName)) ∈ oz_TW := oz_inT 975 (by decide +kernel) rfl
theorem tw_976 : (Jvm.Cond.code ({ cls := "OrderHallModel", name := "chains", desc := "(I)I" } : Jvm.MethodName) prog_10_method_36_code (4 : Nat) (Option.some Jvm.ClassFile.FieldType.int)) ∈ oz_TW := oz_inT 976 (by decide +kernel) rfl
theorem tw_977 : (Jvm.Cond.methodLink "OrderHallLaw" (135 : Nat) ({ cls := "OrderHallModel", name := "sequences", desc := "()J" } : Jvm.MethodName)) ∈ oz_TW := oz_inT 977 (by decide +kernel) rfl
theorem tw_978 : (Jvm.Cond.instanceMethod ({ cls := "OrderHallModel", name := "sequences", desc := "()J" } : Jvm.MethodName)) ∈ oz_TW := oz_inT 978 (by decide +kernel) rfl
theorem tw_979 : (Jvm.Cond.selects "OrderHallModel" ({ cls := "OrderHallModel", name := "sequences", desc := "()J" } : Jvm.MethodName) ({ cls := "OrderHallModel", name := "sequences", desc := "()J" } : Jvm.MethodName)) ∈ oz_TW := oz_inT 979 (by decide +kernel) rfl
theorem tw_980 : (Jvm.Cond.code ({ cls := "OrderHallModel", name := "sequences", desc := "()J" } : Jvm.MethodName) prog_10_method_37_code (1 : Nat) (Option.some Jvm.ClassFile.FieldType.long)) ∈ oz_TW := oz_inT 980 (by decide +kernel) rfl
theorem tw_981 : (Jvm.Cond.methodLink "OrderHallLaw" (141 : Nat) ({ cls := "OrderHallModel", name := "take", desc := "(J)V" } : Jvm.MethodName)) ∈ oz_TW := oz_inT 981 (by decide +kernel) rfl
theorem tw_982 : (Jvm.Cond.instanceMethod ({ cls := "OrderHallModel", name := "take", desc := "(J)V" } : Jvm.MethodName)) ∈ oz_TW := oz_inT 982 (by decide +kernel) rfl
theorem tw_983 : (Jvm.Cond.selects "OrderHallModel" ({ cls := "OrderHallModel", name := "take", desc := "(J)V" } : Jvm.MethodName) ({ cls := "OrderHallModel", name := "take", desc := "(J)V" } : Jvm.MethodName)) ∈ oz_TW := oz_inT 983 (by decide +kernel) rfl
theorem tw_984 : (Jvm.Cond.code ({ cls := "OrderHallModel", name := "take", desc := "(J)V" } : Jvm.MethodName) prog_10_method_38_code (8 : Nat) (Option.none : Option Jvm.ClassFile.FieldType)) ∈ oz_TW := oz_inT 984 (by decide +kernel) rfl
theorem tw_985 : (Jvm.Cond.methodLink "OrderHallLaw" (145 : Nat) ({ cls := "OrderHallModel", name := "at", desc := "(I)I" } : Jvm.MethodName)) ∈ oz_TW := oz_inT 985 (by decide +kernel) rfl
theorem tw_986 : (Jvm.Cond.instanceMethod ({ cls := "OrderHallModel", name := "at", desc := "(I)I" } : Jvm.MethodName)) ∈ oz_TW := oz_inT 986 (by decide +kernel) rfl
theorem tw_987 : (Jvm.Cond.selects "OrderHallModel" ({ cls := "OrderHallModel", name := "at", desc := "(I)I" } : Jvm.MethodName) ({ cls := "OrderHallModel", name := "at", desc := "(I)I" } : Jvm.MethodName)) ∈ oz_TW := oz_inT 987 (by decide +kernel) rfl
theorem tw_988 : (Jvm.Cond.code ({ cls := "OrderHallModel", name := "at", desc := "(I)I" } : Jvm.MethodName) prog_10_method_39_code (2 : Nat) (Option.some Jvm.ClassFile.FieldType.int)) ∈ oz_TW := oz_inT 988 (by decide +kernel) rfl
theorem tw_989 : (Jvm.Cond.methodLink "OrderHallLaw" (149 : Nat) ({ cls := "OrderHallModel", name := "exchange", desc := "(I)I" } : Jvm.MethodName)) ∈ oz_TW := oz_inT 989 (by decide +kernel) rfl
theorem tw_990 : (Jvm.Cond.instanceMethod ({ cls := "OrderHallModel", name := "exchange", desc := "(I)I" } : Jvm.MethodName)) ∈ oz_TW := oz_inT 990 (by decide +kernel) rfl
theorem tw_991 : (Jvm.Cond.selects "OrderHallModel" ({ cls := "OrderHallModel", name := "exchange", desc := "(I)I" } : Jvm.MethodName) ({ cls := "OrderHallModel", name := "exchange", desc := "(I)I" } : Jvm.MethodName)) ∈ oz_TW := oz_inT 991 (by decide +kernel) rfl
theorem tw_992 : (Jvm.Cond.code ({ cls := "OrderHallModel", name := "exchange", desc := "(I)I" } : Jvm.MethodName) prog_10_method_40_code (3 : Nat) (Option.some Jvm.ClassFile.FieldType.int)) ∈ oz_TW := oz_inT 992 (by decide +kernel) rfl
theorem tw_993 : (Jvm.Cond.methodLink "OrderHallLaw" (153 : Nat) ({ cls := "OrderHallModel", name := "number", desc := "()J" } : Jvm.MethodName)) ∈ oz_TW := oz_inT 993 (by decide +kernel) rfl
theorem tw_994 : (Jvm.Cond.instanceMethod ({ cls := "OrderHallModel", name := "number", desc := "()J" } : Jvm.MethodName)) ∈ oz_TW := oz_inT 994 (by decide +kernel) rfl
theorem tw_995 : (Jvm.Cond.selects "OrderHallModel" ({ cls := "OrderHallModel", name := "number", desc := "()J" } : Jvm.MethodName) ({ cls := "OrderHallModel", name := "number", desc := "()J" } : Jvm.MethodName)) ∈ oz_TW := oz_inT 995 (by decide +kernel) rfl
theorem tw_996 : (Jvm.Cond.code ({ cls := "OrderHallModel", name := "number", desc := "()J" } : Jvm.MethodName) prog_10_method_41_code (6 : Nat) (Option.some Jvm.ClassFile.FieldType.long)) ∈ oz_TW := oz_inT 996 (by decide +kernel) rfl
theorem tw_998 : (Jvm.Cond.methodLink "OrderHallLaw" (157 : Nat) ({ cls := "OrderHallModel", name := "bound", desc := "(III)I" } : Jvm.MethodName)) ∈ oz_TW := oz_inT 998 (by decide +kernel) rfl
theorem tw_999 : (Jvm.Cond.instanceMethod ({ cls := "OrderHallModel", name := "bound", desc := "(III)I" } : Jvm.MethodName)) ∈ oz_TW := oz_inT 999 (by decide +kernel) rfl
theorem tw_1000 : (Jvm.Cond.selects "OrderHallModel" ({ cls := "OrderHallModel", name := "bound", desc := "(III)I" } : Jvm.MethodName) ({ cls := "OrderHallModel", name := "bound", desc := "(III)I" } : Jvm.MethodName)) ∈ oz_TW := oz_inT 1000 (by decide +kernel) rfl
theorem tw_1001 : (Jvm.Cond.code ({ cls := "OrderHallModel", name := "bound", desc := "(III)I" } : Jvm.MethodName) prog_10_method_45_code (4 : Nat) (Option.some Jvm.ClassFile.FieldType.int)) ∈ oz_TW := oz_inT 1001 (by decide +kernel) rfl
theorem tw_1014 : (Jvm.Cond.methodLink "OrderHallLaw" (160 : Nat) ({ cls := "OrderHallModel", name := "lattice", desc := "()I" } : Jvm.MethodName)) ∈ oz_TW := oz_inT 1014 (by decide +kernel) rfl
theorem tw_1015 : (Jvm.Cond.instanceMethod ({ cls := "OrderHallModel", name := "lattice", desc := "()I" } : Jvm.MethodName)) ∈ oz_TW := oz_inT 1015 (by decide +kernel) rfl
theorem tw_1016 : (Jvm.Cond.selects "OrderHallModel" ({ cls := "OrderHallModel", name := "lattice", desc := "()I" } : Jvm.MethodName) ({ cls := "OrderHallModel", name := "lattice", desc := "()I" } : Jvm.MethodName)) ∈ oz_TW := oz_inT 1016 (by decide +kernel) rfl
theorem tw_1017 : (Jvm.Cond.code ({ cls := "OrderHallModel", name := "lattice", desc := "()I" } : Jvm.MethodName) prog_10_method_46_code (4 : Nat) (Option.some Jvm.ClassFile.FieldType.int)) ∈ oz_TW := oz_inT 1017 (by decide +kernel) rfl
theorem tw_1018 : (Jvm.Cond.methodLink "OrderHallLaw" (163 : Nat) ({ cls := "OrderHallModel", name := "sign", desc := "(II)I" } : Jvm.MethodName)) ∈ oz_TW := oz_inT 1018 (by decide +kernel) rfl
theorem tw_1019 : (Jvm.Cond.instanceMethod ({ cls := "OrderHallModel", name := "sign", desc := "(II)I" } : Jvm.MethodName)) ∈ oz_TW := oz_inT 1019 (by decide +kernel) rfl
theorem tw_1020 : (Jvm.Cond.selects "OrderHallModel" ({ cls := "OrderHallModel", name := "sign", desc := "(II)I" } : Jvm.MethodName) ({ cls := "OrderHallModel", name := "sign", desc := "(II)I" } : Jvm.MethodName)) ∈ oz_TW := oz_inT 1020 (by decide +kernel) rfl
theorem tw_1021 : (Jvm.Cond.code ({ cls := "OrderHallModel", name := "sign", desc := "(II)I" } : Jvm.MethodName) prog_10_method_47_code (4 : Nat) (Option.some Jvm.ClassFile.FieldType.int)) ∈ oz_TW := oz_inT 1021 (by decide +kernel) rfl
theorem tw_1026 : (Jvm.Cond.methodLink "OrderHallLaw" (167 : Nat) ({ cls := "OrderHallModel", name := "turn", desc := "()V" } : Jvm.MethodName)) ∈ oz_TW := oz_inT 1026 (by decide +kernel) rfl
theorem tw_1027 : (Jvm.Cond.instanceMethod ({ cls := "OrderHallModel", name := "turn", desc := "()V" } : Jvm.MethodName)) ∈ oz_TW := oz_inT 1027 (by decide +kernel) rfl
theorem tw_1028 : (Jvm.Cond.selects "OrderHallModel" ({ cls := "OrderHallModel", name := "turn", desc := "()V" } : Jvm.MethodName) ({ cls := "OrderHallModel", name := "turn", desc := "()V" } : Jvm.MethodName)) ∈ oz_TW := oz_inT 1028 (by decide +kernel) rfl
theorem tw_1029 : (Jvm.Cond.code ({ cls := "OrderHallModel", name := "turn", desc := "()V" } : Jvm.MethodName) prog_10_method_49_code (4 : Nat) (Option.none : Option Jvm.ClassFile.FieldType)) ∈ oz_TW := oz_inT 1029 (by decide +kernel) rfl
theorem tw_1031 : (Jvm.Cond.methodLink "OrderHallLaw" (170 : Nat) ({ cls := "OrderHallModel", name := "keep", desc := "(I)I" } : Jvm.MethodName)) ∈ oz_TW := oz_inT 1031 (by decide +kernel) rfl
theorem tw_1032 : (Jvm.Cond.instanceMethod ({ cls := "OrderHallModel", name := "keep", desc := "(I)I" } : Jvm.MethodName)) ∈ oz_TW := oz_inT 1032 (by decide +kernel) rfl
theorem tw_1033 : (Jvm.Cond.selects "OrderHallModel" ({ cls := "OrderHallModel", name := "keep", desc := "(I)I" } : Jvm.MethodName) ({ cls := "OrderHallModel", name := "keep", desc := "(I)I" } : Jvm.MethodName)) ∈ oz_TW := oz_inT 1033 (by decide +kernel) rfl
theorem tw_1034 : (Jvm.Cond.code ({ cls := "OrderHallModel", name := "keep", desc := "(I)I" } : Jvm.MethodName) prog_10_method_50_code (5 : Nat) (Option.some Jvm.ClassFile.FieldType.int)) ∈ oz_TW := oz_inT 1034 (by decide +kernel) rfl
theorem tw_1035 : (Jvm.Cond.methodLink "OrderHallLaw" (173 : Nat) ({ cls := "OrderHallModel", name := "check", desc := "()I" } : Jvm.MethodName)) ∈ oz_TW := oz_inT 1035 (by decide +kernel) rfl
theorem tw_1036 : (Jvm.Cond.instanceMethod ({ cls := "OrderHallModel", name := "check", desc := "()I" } : Jvm.MethodName)) ∈ oz_TW := oz_inT 1036 (by decide +kernel) rfl
theorem tw_1037 : (Jvm.Cond.selects "OrderHallModel" ({ cls := "OrderHallModel", name := "check", desc := "()I" } : Jvm.MethodName) ({ cls := "OrderHallModel", name := "check", desc := "()I" } : Jvm.MethodName)) ∈ oz_TW := oz_inT 1037 (by decide +kernel) rfl
theorem tw_1038 : (Jvm.Cond.code ({ cls := "OrderHallModel", name := "check", desc := "()I" } : Jvm.MethodName) prog_10_method_51_code (1 : Nat) (Option.some Jvm.ClassFile.FieldType.int)) ∈ oz_TW := oz_inT 1038 (by decide +kernel) rfl
theorem tw_1039 : (Jvm.Cond.constantLong "OrderHallLaw" (136 : Nat) (4294967295 : Int64)) ∈ oz_TW := oz_inT 1039 (by decide +kernel) rfl
theorem d_Law_0 : decode code 0 = .ok (.new 8, 3) := by decide +kernel
theorem d_Law_3 : decode code 3 = .ok (.dup, 1) := by decide +kernel
theorem d_Law_4 : decode code 4 = .ok (.invokespecial 79, 3) := by decide +kernel
theorem d_Law_7 : decode code 7 = .ok (.astore_n 1, 1) := by decide +kernel
theorem d_Law_8 : decode code 8 = .ok (.new 80, 3) := by decide +kernel
theorem d_Law_11 : decode code 11 = .ok (.dup, 1) := by decide +kernel
theorem d_Law_12 : decode code 12 = .ok (.invokespecial 82, 3) := by decide +kernel
theorem d_Law_15 : decode code 15 = .ok (.astore_n 2, 1) := by decide +kernel
theorem d_Law_16 : decode code 16 = .ok (.iconst 1, 1) := by decide +kernel
theorem d_Law_17 : decode code 17 = .ok (.newarray .long, 2) := by decide +kernel
theorem d_Law_19 : decode code 19 = .ok (.astore_n 3, 1) := by decide +kernel
theorem d_Law_20 : decode code 20 = .ok (.iconst 0, 1) := by decide +kernel
theorem d_Law_21 : decode code 21 = .ok (.istore 4, 2) := by decide +kernel
theorem d_Law_23 : decode code 23 = .ok (.iload 4, 2) := by decide +kernel
theorem d_Law_25 : decode code 25 = .ok (.aload_n 0, 1) := by decide +kernel
theorem d_Law_26 : decode code 26 = .ok (.arraylength, 1) := by decide +kernel
theorem d_Law_27 : decode code 27 = .ok (.iconst 4, 1) := by decide +kernel
theorem d_Law_28 : decode code 28 = .ok (.isub, 1) := by decide +kernel
theorem d_Law_29 : decode code 29 = .ok (.if_icmp .gt 1334, 3) := by decide +kernel
theorem d_Law_32 : decode code 32 = .ok (.aload_n 0, 1) := by decide +kernel
theorem d_Law_33 : decode code 33 = .ok (.iload 4, 2) := by decide +kernel
theorem d_Law_35 : decode code 35 = .ok (.iaload, 1) := by decide +kernel
theorem d_Law_36 : decode code 36 = .ok (.bipush 31, 2) := by decide +kernel
theorem d_Law_38 : decode code 38 = .ok (.iand, 1) := by decide +kernel
theorem d_Law_39 : decode code 39 = .ok (.tableswitch 1318 0 23 #[109, 145, 213, 281, 294, 319, 387, 455, 523, 579, 635, 703, 771, 827, 870, 938, 963, 988, 1002, 1082, 1126, 1194, 1218, 1274], 109) := by decide +kernel
theorem d_Law_148 : decode code 148 = .ok (.aload_n 1, 1) := by decide +kernel
theorem d_Law_149 : decode code 149 = .ok (.aload_n 0, 1) := by decide +kernel
theorem d_Law_150 : decode code 150 = .ok (.iload 4, 2) := by decide +kernel
theorem d_Law_152 : decode code 152 = .ok (.iconst 1, 1) := by decide +kernel
theorem d_Law_153 : decode code 153 = .ok (.iadd, 1) := by decide +kernel
theorem d_Law_154 : decode code 154 = .ok (.iaload, 1) := by decide +kernel
theorem d_Law_155 : decode code 155 = .ok (.invokestatic 83, 3) := by decide +kernel
theorem d_Law_158 : decode code 158 = .ok (.istore 5, 2) := by decide +kernel
theorem d_Law_160 : decode code 160 = .ok (.aload_n 2, 1) := by decide +kernel
theorem d_Law_161 : decode code 161 = .ok (.aload_n 0, 1) := by decide +kernel
theorem d_Law_162 : decode code 162 = .ok (.iload 4, 2) := by decide +kernel
theorem d_Law_164 : decode code 164 = .ok (.iconst 1, 1) := by decide +kernel
theorem d_Law_165 : decode code 165 = .ok (.iadd, 1) := by decide +kernel
theorem d_Law_166 : decode code 166 = .ok (.iaload, 1) := by decide +kernel
theorem d_Law_167 : decode code 167 = .ok (.invokevirtual 88, 3) := by decide +kernel
theorem d_Law_170 : decode code 170 = .ok (.aload_n 2, 1) := by decide +kernel
theorem d_Law_171 : decode code 171 = .ok (.invokevirtual 89, 3) := by decide +kernel
theorem d_Law_174 : decode code 174 = .ok (.iload 5, 2) := by decide +kernel
theorem d_Law_176 : decode code 176 = .ok (.if_icmp .eq 5, 3) := by decide +kernel
theorem d_Law_179 : decode code 179 = .ok (.iconst 0, 1) := by decide +kernel
theorem d_Law_180 : decode code 180 = .ok (.ireturn, 1) := by decide +kernel
theorem d_Law_181 : decode code 181 = .ok (.goto 1176, 3) := by decide +kernel
theorem d_Law_184 : decode code 184 = .ok (.aload_n 1, 1) := by decide +kernel
theorem d_Law_185 : decode code 185 = .ok (.aload_n 0, 1) := by decide +kernel
theorem d_Law_186 : decode code 186 = .ok (.iload 4, 2) := by decide +kernel
theorem d_Law_188 : decode code 188 = .ok (.iconst 1, 1) := by decide +kernel
theorem d_Law_189 : decode code 189 = .ok (.iadd, 1) := by decide +kernel
theorem d_Law_190 : decode code 190 = .ok (.iaload, 1) := by decide +kernel
theorem d_Law_191 : decode code 191 = .ok (.aload_n 0, 1) := by decide +kernel
theorem d_Law_192 : decode code 192 = .ok (.iload 4, 2) := by decide +kernel
theorem d_Law_194 : decode code 194 = .ok (.iconst 2, 1) := by decide +kernel
theorem d_Law_195 : decode code 195 = .ok (.iadd, 1) := by decide +kernel
theorem d_Law_196 : decode code 196 = .ok (.iaload, 1) := by decide +kernel
theorem d_Law_197 : decode code 197 = .ok (.aload_n 3, 1) := by decide +kernel
theorem d_Law_198 : decode code 198 = .ok (.invokestatic 92, 3) := by decide +kernel
theorem d_Law_201 : decode code 201 = .ok (.istore 5, 2) := by decide +kernel
theorem d_Law_203 : decode code 203 = .ok (.aload_n 2, 1) := by decide +kernel
theorem d_Law_204 : decode code 204 = .ok (.aload_n 0, 1) := by decide +kernel
theorem d_Law_205 : decode code 205 = .ok (.iload 4, 2) := by decide +kernel
theorem d_Law_207 : decode code 207 = .ok (.iconst 1, 1) := by decide +kernel
theorem d_Law_208 : decode code 208 = .ok (.iadd, 1) := by decide +kernel
theorem d_Law_209 : decode code 209 = .ok (.iaload, 1) := by decide +kernel
theorem d_Law_210 : decode code 210 = .ok (.aload_n 0, 1) := by decide +kernel
theorem d_Law_211 : decode code 211 = .ok (.iload 4, 2) := by decide +kernel
theorem d_Law_213 : decode code 213 = .ok (.iconst 2, 1) := by decide +kernel
theorem d_Law_214 : decode code 214 = .ok (.iadd, 1) := by decide +kernel
theorem d_Law_215 : decode code 215 = .ok (.iaload, 1) := by decide +kernel
theorem d_Law_216 : decode code 216 = .ok (.invokevirtual 95, 3) := by decide +kernel
theorem d_Law_219 : decode code 219 = .ok (.istore 6, 2) := by decide +kernel
theorem d_Law_221 : decode code 221 = .ok (.aload_n 2, 1) := by decide +kernel
theorem d_Law_222 : decode code 222 = .ok (.invokevirtual 89, 3) := by decide +kernel
theorem d_Law_225 : decode code 225 = .ok (.iload 5, 2) := by decide +kernel
theorem d_Law_227 : decode code 227 = .ok (.if_icmp .eq 5, 3) := by decide +kernel
theorem d_Law_230 : decode code 230 = .ok (.iconst 0, 1) := by decide +kernel
theorem d_Law_231 : decode code 231 = .ok (.ireturn, 1) := by decide +kernel
theorem d_Law_232 : decode code 232 = .ok (.iload 5, 2) := by decide +kernel
theorem d_Law_234 : decode code 234 = .ok (.ifCond .ne 15, 3) := by decide +kernel
theorem d_Law_237 : decode code 237 = .ok (.aload_n 3, 1) := by decide +kernel
theorem d_Law_238 : decode code 238 = .ok (.iconst 0, 1) := by decide +kernel
theorem d_Law_239 : decode code 239 = .ok (.laload, 1) := by decide +kernel
theorem d_Law_240 : decode code 240 = .ok (.iload 6, 2) := by decide +kernel
theorem d_Law_242 : decode code 242 = .ok (.i2l, 1) := by decide +kernel
theorem d_Law_243 : decode code 243 = .ok (.lcmp, 1) := by decide +kernel
theorem d_Law_244 : decode code 244 = .ok (.ifCond .eq 5, 3) := by decide +kernel
theorem d_Law_247 : decode code 247 = .ok (.iconst 0, 1) := by decide +kernel
theorem d_Law_248 : decode code 248 = .ok (.ireturn, 1) := by decide +kernel
theorem d_Law_249 : decode code 249 = .ok (.goto 1108, 3) := by decide +kernel
theorem d_Law_252 : decode code 252 = .ok (.aload_n 1, 1) := by decide +kernel
theorem d_Law_253 : decode code 253 = .ok (.aload_n 0, 1) := by decide +kernel
theorem d_Law_254 : decode code 254 = .ok (.iload 4, 2) := by decide +kernel
theorem d_Law_256 : decode code 256 = .ok (.iconst 1, 1) := by decide +kernel
theorem d_Law_257 : decode code 257 = .ok (.iadd, 1) := by decide +kernel
theorem d_Law_258 : decode code 258 = .ok (.iaload, 1) := by decide +kernel
theorem d_Law_259 : decode code 259 = .ok (.aload_n 0, 1) := by decide +kernel
theorem d_Law_260 : decode code 260 = .ok (.iload 4, 2) := by decide +kernel
theorem d_Law_262 : decode code 262 = .ok (.iconst 2, 1) := by decide +kernel
theorem d_Law_263 : decode code 263 = .ok (.iadd, 1) := by decide +kernel
theorem d_Law_264 : decode code 264 = .ok (.iaload, 1) := by decide +kernel
theorem d_Law_265 : decode code 265 = .ok (.aload_n 3, 1) := by decide +kernel
theorem d_Law_266 : decode code 266 = .ok (.invokestatic 96, 3) := by decide +kernel
theorem d_Law_269 : decode code 269 = .ok (.istore 5, 2) := by decide +kernel
theorem d_Law_271 : decode code 271 = .ok (.aload_n 2, 1) := by decide +kernel
theorem d_Law_272 : decode code 272 = .ok (.aload_n 0, 1) := by decide +kernel
theorem d_Law_273 : decode code 273 = .ok (.iload 4, 2) := by decide +kernel
theorem d_Law_275 : decode code 275 = .ok (.iconst 1, 1) := by decide +kernel
theorem d_Law_276 : decode code 276 = .ok (.iadd, 1) := by decide +kernel
theorem d_Law_277 : decode code 277 = .ok (.iaload, 1) := by decide +kernel
theorem d_Law_278 : decode code 278 = .ok (.aload_n 0, 1) := by decide +kernel
theorem d_Law_279 : decode code 279 = .ok (.iload 4, 2) := by decide +kernel
theorem d_Law_281 : decode code 281 = .ok (.iconst 2, 1) := by decide +kernel
theorem d_Law_282 : decode code 282 = .ok (.iadd, 1) := by decide +kernel
theorem d_Law_283 : decode code 283 = .ok (.iaload, 1) := by decide +kernel
theorem d_Law_284 : decode code 284 = .ok (.invokevirtual 98, 3) := by decide +kernel
theorem d_Law_287 : decode code 287 = .ok (.istore 6, 2) := by decide +kernel
theorem d_Law_289 : decode code 289 = .ok (.aload_n 2, 1) := by decide +kernel
theorem d_Law_290 : decode code 290 = .ok (.invokevirtual 89, 3) := by decide +kernel
theorem d_Law_293 : decode code 293 = .ok (.iload 5, 2) := by decide +kernel
theorem d_Law_295 : decode code 295 = .ok (.if_icmp .eq 5, 3) := by decide +kernel
theorem d_Law_298 : decode code 298 = .ok (.iconst 0, 1) := by decide +kernel
theorem d_Law_299 : decode code 299 = .ok (.ireturn, 1) := by decide +kernel
theorem d_Law_300 : decode code 300 = .ok (.iload 5, 2) := by decide +kernel
theorem d_Law_302 : decode code 302 = .ok (.ifCond .ne 15, 3) := by decide +kernel
theorem d_Law_305 : decode code 305 = .ok (.aload_n 3, 1) := by decide +kernel
theorem d_Law_306 : decode code 306 = .ok (.iconst 0, 1) := by decide +kernel
theorem d_Law_307 : decode code 307 = .ok (.laload, 1) := by decide +kernel
theorem d_Law_308 : decode code 308 = .ok (.iload 6, 2) := by decide +kernel
theorem d_Law_310 : decode code 310 = .ok (.i2l, 1) := by decide +kernel
theorem d_Law_311 : decode code 311 = .ok (.lcmp, 1) := by decide +kernel
theorem d_Law_312 : decode code 312 = .ok (.ifCond .eq 5, 3) := by decide +kernel
theorem d_Law_315 : decode code 315 = .ok (.iconst 0, 1) := by decide +kernel
theorem d_Law_316 : decode code 316 = .ok (.ireturn, 1) := by decide +kernel
theorem d_Law_317 : decode code 317 = .ok (.goto 1040, 3) := by decide +kernel
theorem d_Law_320 : decode code 320 = .ok (.aload_n 1, 1) := by decide +kernel
theorem d_Law_321 : decode code 321 = .ok (.invokevirtual 99, 3) := by decide +kernel
theorem d_Law_324 : decode code 324 = .ok (.aload_n 2, 1) := by decide +kernel
theorem d_Law_325 : decode code 325 = .ok (.invokevirtual 102, 3) := by decide +kernel
theorem d_Law_328 : decode code 328 = .ok (.if_icmp .eq 1029, 3) := by decide +kernel
theorem d_Law_331 : decode code 331 = .ok (.iconst 0, 1) := by decide +kernel
theorem d_Law_332 : decode code 332 = .ok (.ireturn, 1) := by decide +kernel
theorem d_Law_333 : decode code 333 = .ok (.aload_n 1, 1) := by decide +kernel
theorem d_Law_334 : decode code 334 = .ok (.aload_n 0, 1) := by decide +kernel
theorem d_Law_335 : decode code 335 = .ok (.iload 4, 2) := by decide +kernel
theorem d_Law_337 : decode code 337 = .ok (.iconst 1, 1) := by decide +kernel
theorem d_Law_338 : decode code 338 = .ok (.iadd, 1) := by decide +kernel
theorem d_Law_339 : decode code 339 = .ok (.iaload, 1) := by decide +kernel
theorem d_Law_340 : decode code 340 = .ok (.invokevirtual 103, 3) := by decide +kernel
theorem d_Law_343 : decode code 343 = .ok (.aload_n 2, 1) := by decide +kernel
theorem d_Law_344 : decode code 344 = .ok (.aload_n 0, 1) := by decide +kernel
theorem d_Law_345 : decode code 345 = .ok (.iload 4, 2) := by decide +kernel
theorem d_Law_347 : decode code 347 = .ok (.iconst 1, 1) := by decide +kernel
theorem d_Law_348 : decode code 348 = .ok (.iadd, 1) := by decide +kernel
theorem d_Law_349 : decode code 349 = .ok (.iaload, 1) := by decide +kernel
theorem d_Law_350 : decode code 350 = .ok (.invokevirtual 106, 3) := by decide +kernel
theorem d_Law_353 : decode code 353 = .ok (.if_icmp .eq 1004, 3) := by decide +kernel
theorem d_Law_356 : decode code 356 = .ok (.iconst 0, 1) := by decide +kernel
theorem d_Law_357 : decode code 357 = .ok (.ireturn, 1) := by decide +kernel
theorem d_Law_358 : decode code 358 = .ok (.aload_n 1, 1) := by decide +kernel
theorem d_Law_359 : decode code 359 = .ok (.aload_n 0, 1) := by decide +kernel
theorem d_Law_360 : decode code 360 = .ok (.iload 4, 2) := by decide +kernel
theorem d_Law_362 : decode code 362 = .ok (.iconst 1, 1) := by decide +kernel
theorem d_Law_363 : decode code 363 = .ok (.iadd, 1) := by decide +kernel
theorem d_Law_364 : decode code 364 = .ok (.iaload, 1) := by decide +kernel
theorem d_Law_365 : decode code 365 = .ok (.aload_n 0, 1) := by decide +kernel
theorem d_Law_366 : decode code 366 = .ok (.iload 4, 2) := by decide +kernel
theorem d_Law_368 : decode code 368 = .ok (.iconst 2, 1) := by decide +kernel
theorem d_Law_369 : decode code 369 = .ok (.iadd, 1) := by decide +kernel
theorem d_Law_370 : decode code 370 = .ok (.iaload, 1) := by decide +kernel
theorem d_Law_371 : decode code 371 = .ok (.aload_n 3, 1) := by decide +kernel
theorem d_Law_372 : decode code 372 = .ok (.invokestatic 107, 3) := by decide +kernel
theorem d_Law_375 : decode code 375 = .ok (.istore 5, 2) := by decide +kernel
theorem d_Law_377 : decode code 377 = .ok (.aload_n 2, 1) := by decide +kernel
theorem d_Law_378 : decode code 378 = .ok (.aload_n 0, 1) := by decide +kernel
theorem d_Law_379 : decode code 379 = .ok (.iload 4, 2) := by decide +kernel
theorem d_Law_381 : decode code 381 = .ok (.iconst 1, 1) := by decide +kernel
theorem d_Law_382 : decode code 382 = .ok (.iadd, 1) := by decide +kernel
theorem d_Law_383 : decode code 383 = .ok (.iaload, 1) := by decide +kernel
theorem d_Law_384 : decode code 384 = .ok (.aload_n 0, 1) := by decide +kernel
theorem d_Law_385 : decode code 385 = .ok (.iload 4, 2) := by decide +kernel
theorem d_Law_387 : decode code 387 = .ok (.iconst 2, 1) := by decide +kernel
theorem d_Law_388 : decode code 388 = .ok (.iadd, 1) := by decide +kernel
theorem d_Law_389 : decode code 389 = .ok (.iaload, 1) := by decide +kernel
theorem d_Law_390 : decode code 390 = .ok (.invokevirtual 109, 3) := by decide +kernel
theorem d_Law_393 : decode code 393 = .ok (.istore 6, 2) := by decide +kernel
theorem d_Law_395 : decode code 395 = .ok (.aload_n 2, 1) := by decide +kernel
theorem d_Law_396 : decode code 396 = .ok (.invokevirtual 89, 3) := by decide +kernel
theorem d_Law_399 : decode code 399 = .ok (.iload 5, 2) := by decide +kernel
theorem d_Law_401 : decode code 401 = .ok (.if_icmp .eq 5, 3) := by decide +kernel
theorem d_Law_404 : decode code 404 = .ok (.iconst 0, 1) := by decide +kernel
theorem d_Law_405 : decode code 405 = .ok (.ireturn, 1) := by decide +kernel
theorem d_Law_406 : decode code 406 = .ok (.iload 5, 2) := by decide +kernel
theorem d_Law_408 : decode code 408 = .ok (.ifCond .ne 15, 3) := by decide +kernel
theorem d_Law_411 : decode code 411 = .ok (.aload_n 3, 1) := by decide +kernel
theorem d_Law_412 : decode code 412 = .ok (.iconst 0, 1) := by decide +kernel
theorem d_Law_413 : decode code 413 = .ok (.laload, 1) := by decide +kernel
theorem d_Law_414 : decode code 414 = .ok (.iload 6, 2) := by decide +kernel
theorem d_Law_416 : decode code 416 = .ok (.i2l, 1) := by decide +kernel
theorem d_Law_417 : decode code 417 = .ok (.lcmp, 1) := by decide +kernel
theorem d_Law_418 : decode code 418 = .ok (.ifCond .eq 5, 3) := by decide +kernel
theorem d_Law_421 : decode code 421 = .ok (.iconst 0, 1) := by decide +kernel
theorem d_Law_422 : decode code 422 = .ok (.ireturn, 1) := by decide +kernel
theorem d_Law_423 : decode code 423 = .ok (.goto 934, 3) := by decide +kernel
theorem d_Law_426 : decode code 426 = .ok (.aload_n 1, 1) := by decide +kernel
theorem d_Law_427 : decode code 427 = .ok (.aload_n 0, 1) := by decide +kernel
theorem d_Law_428 : decode code 428 = .ok (.iload 4, 2) := by decide +kernel
theorem d_Law_430 : decode code 430 = .ok (.iconst 1, 1) := by decide +kernel
theorem d_Law_431 : decode code 431 = .ok (.iadd, 1) := by decide +kernel
theorem d_Law_432 : decode code 432 = .ok (.iaload, 1) := by decide +kernel
theorem d_Law_433 : decode code 433 = .ok (.aload_n 0, 1) := by decide +kernel
theorem d_Law_434 : decode code 434 = .ok (.iload 4, 2) := by decide +kernel
theorem d_Law_436 : decode code 436 = .ok (.iconst 2, 1) := by decide +kernel
theorem d_Law_437 : decode code 437 = .ok (.iadd, 1) := by decide +kernel
theorem d_Law_438 : decode code 438 = .ok (.iaload, 1) := by decide +kernel
theorem d_Law_439 : decode code 439 = .ok (.aload_n 3, 1) := by decide +kernel
theorem d_Law_440 : decode code 440 = .ok (.invokestatic 110, 3) := by decide +kernel
theorem d_Law_443 : decode code 443 = .ok (.istore 5, 2) := by decide +kernel
theorem d_Law_445 : decode code 445 = .ok (.aload_n 2, 1) := by decide +kernel
theorem d_Law_446 : decode code 446 = .ok (.aload_n 0, 1) := by decide +kernel
theorem d_Law_447 : decode code 447 = .ok (.iload 4, 2) := by decide +kernel
theorem d_Law_449 : decode code 449 = .ok (.iconst 1, 1) := by decide +kernel
theorem d_Law_450 : decode code 450 = .ok (.iadd, 1) := by decide +kernel
theorem d_Law_451 : decode code 451 = .ok (.iaload, 1) := by decide +kernel
theorem d_Law_452 : decode code 452 = .ok (.aload_n 0, 1) := by decide +kernel
theorem d_Law_453 : decode code 453 = .ok (.iload 4, 2) := by decide +kernel
theorem d_Law_455 : decode code 455 = .ok (.iconst 2, 1) := by decide +kernel
theorem d_Law_456 : decode code 456 = .ok (.iadd, 1) := by decide +kernel
theorem d_Law_457 : decode code 457 = .ok (.iaload, 1) := by decide +kernel
theorem d_Law_458 : decode code 458 = .ok (.invokevirtual 112, 3) := by decide +kernel
theorem d_Law_461 : decode code 461 = .ok (.istore 6, 2) := by decide +kernel
theorem d_Law_463 : decode code 463 = .ok (.aload_n 2, 1) := by decide +kernel
theorem d_Law_464 : decode code 464 = .ok (.invokevirtual 89, 3) := by decide +kernel
theorem d_Law_467 : decode code 467 = .ok (.iload 5, 2) := by decide +kernel
theorem d_Law_469 : decode code 469 = .ok (.if_icmp .eq 5, 3) := by decide +kernel
theorem d_Law_472 : decode code 472 = .ok (.iconst 0, 1) := by decide +kernel
theorem d_Law_473 : decode code 473 = .ok (.ireturn, 1) := by decide +kernel
theorem d_Law_474 : decode code 474 = .ok (.iload 5, 2) := by decide +kernel
theorem d_Law_476 : decode code 476 = .ok (.ifCond .ne 15, 3) := by decide +kernel
theorem d_Law_479 : decode code 479 = .ok (.aload_n 3, 1) := by decide +kernel
theorem d_Law_480 : decode code 480 = .ok (.iconst 0, 1) := by decide +kernel
theorem d_Law_481 : decode code 481 = .ok (.laload, 1) := by decide +kernel
theorem d_Law_482 : decode code 482 = .ok (.iload 6, 2) := by decide +kernel
theorem d_Law_484 : decode code 484 = .ok (.i2l, 1) := by decide +kernel
theorem d_Law_485 : decode code 485 = .ok (.lcmp, 1) := by decide +kernel
theorem d_Law_486 : decode code 486 = .ok (.ifCond .eq 5, 3) := by decide +kernel
theorem d_Law_489 : decode code 489 = .ok (.iconst 0, 1) := by decide +kernel
theorem d_Law_490 : decode code 490 = .ok (.ireturn, 1) := by decide +kernel
theorem d_Law_491 : decode code 491 = .ok (.goto 866, 3) := by decide +kernel
theorem d_Law_494 : decode code 494 = .ok (.aload_n 1, 1) := by decide +kernel
theorem d_Law_495 : decode code 495 = .ok (.aload_n 0, 1) := by decide +kernel
theorem d_Law_496 : decode code 496 = .ok (.iload 4, 2) := by decide +kernel
theorem d_Law_498 : decode code 498 = .ok (.iconst 1, 1) := by decide +kernel
theorem d_Law_499 : decode code 499 = .ok (.iadd, 1) := by decide +kernel
theorem d_Law_500 : decode code 500 = .ok (.iaload, 1) := by decide +kernel
theorem d_Law_501 : decode code 501 = .ok (.aload_n 0, 1) := by decide +kernel
theorem d_Law_502 : decode code 502 = .ok (.iload 4, 2) := by decide +kernel
theorem d_Law_504 : decode code 504 = .ok (.iconst 2, 1) := by decide +kernel
theorem d_Law_505 : decode code 505 = .ok (.iadd, 1) := by decide +kernel
theorem d_Law_506 : decode code 506 = .ok (.iaload, 1) := by decide +kernel
theorem d_Law_507 : decode code 507 = .ok (.aload_n 3, 1) := by decide +kernel
theorem d_Law_508 : decode code 508 = .ok (.invokestatic 113, 3) := by decide +kernel
theorem d_Law_511 : decode code 511 = .ok (.istore 5, 2) := by decide +kernel
theorem d_Law_513 : decode code 513 = .ok (.aload_n 2, 1) := by decide +kernel
theorem d_Law_514 : decode code 514 = .ok (.aload_n 0, 1) := by decide +kernel
theorem d_Law_515 : decode code 515 = .ok (.iload 4, 2) := by decide +kernel
theorem d_Law_517 : decode code 517 = .ok (.iconst 1, 1) := by decide +kernel
theorem d_Law_518 : decode code 518 = .ok (.iadd, 1) := by decide +kernel
theorem d_Law_519 : decode code 519 = .ok (.iaload, 1) := by decide +kernel
theorem d_Law_520 : decode code 520 = .ok (.aload_n 0, 1) := by decide +kernel
theorem d_Law_521 : decode code 521 = .ok (.iload 4, 2) := by decide +kernel
theorem d_Law_523 : decode code 523 = .ok (.iconst 2, 1) := by decide +kernel
theorem d_Law_524 : decode code 524 = .ok (.iadd, 1) := by decide +kernel
theorem d_Law_525 : decode code 525 = .ok (.iaload, 1) := by decide +kernel
theorem d_Law_526 : decode code 526 = .ok (.invokevirtual 115, 3) := by decide +kernel
theorem d_Law_529 : decode code 529 = .ok (.istore 6, 2) := by decide +kernel
theorem d_Law_531 : decode code 531 = .ok (.aload_n 2, 1) := by decide +kernel
theorem d_Law_532 : decode code 532 = .ok (.invokevirtual 89, 3) := by decide +kernel
theorem d_Law_535 : decode code 535 = .ok (.iload 5, 2) := by decide +kernel
theorem d_Law_537 : decode code 537 = .ok (.if_icmp .eq 5, 3) := by decide +kernel
theorem d_Law_540 : decode code 540 = .ok (.iconst 0, 1) := by decide +kernel
theorem d_Law_541 : decode code 541 = .ok (.ireturn, 1) := by decide +kernel
theorem d_Law_542 : decode code 542 = .ok (.iload 5, 2) := by decide +kernel
theorem d_Law_544 : decode code 544 = .ok (.ifCond .ne 15, 3) := by decide +kernel
theorem d_Law_547 : decode code 547 = .ok (.aload_n 3, 1) := by decide +kernel
theorem d_Law_548 : decode code 548 = .ok (.iconst 0, 1) := by decide +kernel
theorem d_Law_549 : decode code 549 = .ok (.laload, 1) := by decide +kernel
theorem d_Law_550 : decode code 550 = .ok (.iload 6, 2) := by decide +kernel
theorem d_Law_552 : decode code 552 = .ok (.i2l, 1) := by decide +kernel
theorem d_Law_553 : decode code 553 = .ok (.lcmp, 1) := by decide +kernel
theorem d_Law_554 : decode code 554 = .ok (.ifCond .eq 5, 3) := by decide +kernel
theorem d_Law_557 : decode code 557 = .ok (.iconst 0, 1) := by decide +kernel
theorem d_Law_558 : decode code 558 = .ok (.ireturn, 1) := by decide +kernel
theorem d_Law_559 : decode code 559 = .ok (.goto 798, 3) := by decide +kernel
theorem d_Law_562 : decode code 562 = .ok (.aload_n 1, 1) := by decide +kernel
theorem d_Law_563 : decode code 563 = .ok (.aload_n 0, 1) := by decide +kernel
theorem d_Law_564 : decode code 564 = .ok (.iload 4, 2) := by decide +kernel
theorem d_Law_566 : decode code 566 = .ok (.iconst 1, 1) := by decide +kernel
theorem d_Law_567 : decode code 567 = .ok (.iadd, 1) := by decide +kernel
theorem d_Law_568 : decode code 568 = .ok (.iaload, 1) := by decide +kernel
theorem d_Law_569 : decode code 569 = .ok (.aload_n 3, 1) := by decide +kernel
theorem d_Law_570 : decode code 570 = .ok (.invokestatic 116, 3) := by decide +kernel
theorem d_Law_573 : decode code 573 = .ok (.istore 5, 2) := by decide +kernel
theorem d_Law_575 : decode code 575 = .ok (.aload_n 2, 1) := by decide +kernel
theorem d_Law_576 : decode code 576 = .ok (.aload_n 0, 1) := by decide +kernel
theorem d_Law_577 : decode code 577 = .ok (.iload 4, 2) := by decide +kernel
theorem d_Law_579 : decode code 579 = .ok (.iconst 1, 1) := by decide +kernel
theorem d_Law_580 : decode code 580 = .ok (.iadd, 1) := by decide +kernel
theorem d_Law_581 : decode code 581 = .ok (.iaload, 1) := by decide +kernel
theorem d_Law_582 : decode code 582 = .ok (.invokevirtual 119, 3) := by decide +kernel
theorem d_Law_585 : decode code 585 = .ok (.istore 6, 2) := by decide +kernel
theorem d_Law_587 : decode code 587 = .ok (.aload_n 2, 1) := by decide +kernel
theorem d_Law_588 : decode code 588 = .ok (.invokevirtual 89, 3) := by decide +kernel
theorem d_Law_591 : decode code 591 = .ok (.iload 5, 2) := by decide +kernel
theorem d_Law_593 : decode code 593 = .ok (.if_icmp .eq 5, 3) := by decide +kernel
theorem d_Law_596 : decode code 596 = .ok (.iconst 0, 1) := by decide +kernel
theorem d_Law_597 : decode code 597 = .ok (.ireturn, 1) := by decide +kernel
theorem d_Law_598 : decode code 598 = .ok (.iload 5, 2) := by decide +kernel
theorem d_Law_600 : decode code 600 = .ok (.ifCond .ne 15, 3) := by decide +kernel
theorem d_Law_603 : decode code 603 = .ok (.aload_n 3, 1) := by decide +kernel
theorem d_Law_604 : decode code 604 = .ok (.iconst 0, 1) := by decide +kernel
theorem d_Law_605 : decode code 605 = .ok (.laload, 1) := by decide +kernel
theorem d_Law_606 : decode code 606 = .ok (.iload 6, 2) := by decide +kernel
theorem d_Law_608 : decode code 608 = .ok (.i2l, 1) := by decide +kernel
theorem d_Law_609 : decode code 609 = .ok (.lcmp, 1) := by decide +kernel
theorem d_Law_610 : decode code 610 = .ok (.ifCond .eq 5, 3) := by decide +kernel
theorem d_Law_613 : decode code 613 = .ok (.iconst 0, 1) := by decide +kernel
theorem d_Law_614 : decode code 614 = .ok (.ireturn, 1) := by decide +kernel
theorem d_Law_615 : decode code 615 = .ok (.goto 742, 3) := by decide +kernel
theorem d_Law_618 : decode code 618 = .ok (.aload_n 1, 1) := by decide +kernel
theorem d_Law_619 : decode code 619 = .ok (.aload_n 0, 1) := by decide +kernel
theorem d_Law_620 : decode code 620 = .ok (.iload 4, 2) := by decide +kernel
theorem d_Law_622 : decode code 622 = .ok (.iconst 1, 1) := by decide +kernel
theorem d_Law_623 : decode code 623 = .ok (.iadd, 1) := by decide +kernel
theorem d_Law_624 : decode code 624 = .ok (.iaload, 1) := by decide +kernel
theorem d_Law_625 : decode code 625 = .ok (.aload_n 3, 1) := by decide +kernel
theorem d_Law_626 : decode code 626 = .ok (.invokestatic 120, 3) := by decide +kernel
theorem d_Law_629 : decode code 629 = .ok (.istore 5, 2) := by decide +kernel
theorem d_Law_631 : decode code 631 = .ok (.aload_n 2, 1) := by decide +kernel
theorem d_Law_632 : decode code 632 = .ok (.aload_n 0, 1) := by decide +kernel
theorem d_Law_633 : decode code 633 = .ok (.iload 4, 2) := by decide +kernel
theorem d_Law_635 : decode code 635 = .ok (.iconst 1, 1) := by decide +kernel
theorem d_Law_636 : decode code 636 = .ok (.iadd, 1) := by decide +kernel
theorem d_Law_637 : decode code 637 = .ok (.iaload, 1) := by decide +kernel
theorem d_Law_638 : decode code 638 = .ok (.invokevirtual 122, 3) := by decide +kernel
theorem d_Law_641 : decode code 641 = .ok (.istore 6, 2) := by decide +kernel
theorem d_Law_643 : decode code 643 = .ok (.aload_n 2, 1) := by decide +kernel
theorem d_Law_644 : decode code 644 = .ok (.invokevirtual 89, 3) := by decide +kernel
theorem d_Law_647 : decode code 647 = .ok (.iload 5, 2) := by decide +kernel
theorem d_Law_649 : decode code 649 = .ok (.if_icmp .eq 5, 3) := by decide +kernel
theorem d_Law_652 : decode code 652 = .ok (.iconst 0, 1) := by decide +kernel
theorem d_Law_653 : decode code 653 = .ok (.ireturn, 1) := by decide +kernel
theorem d_Law_654 : decode code 654 = .ok (.iload 5, 2) := by decide +kernel
theorem d_Law_656 : decode code 656 = .ok (.ifCond .ne 15, 3) := by decide +kernel
theorem d_Law_659 : decode code 659 = .ok (.aload_n 3, 1) := by decide +kernel
theorem d_Law_660 : decode code 660 = .ok (.iconst 0, 1) := by decide +kernel
theorem d_Law_661 : decode code 661 = .ok (.laload, 1) := by decide +kernel
theorem d_Law_662 : decode code 662 = .ok (.iload 6, 2) := by decide +kernel
theorem d_Law_664 : decode code 664 = .ok (.i2l, 1) := by decide +kernel
theorem d_Law_665 : decode code 665 = .ok (.lcmp, 1) := by decide +kernel
theorem d_Law_666 : decode code 666 = .ok (.ifCond .eq 5, 3) := by decide +kernel
theorem d_Law_669 : decode code 669 = .ok (.iconst 0, 1) := by decide +kernel
theorem d_Law_670 : decode code 670 = .ok (.ireturn, 1) := by decide +kernel
theorem d_Law_671 : decode code 671 = .ok (.goto 686, 3) := by decide +kernel
theorem d_Law_674 : decode code 674 = .ok (.aload_n 1, 1) := by decide +kernel
theorem d_Law_675 : decode code 675 = .ok (.aload_n 0, 1) := by decide +kernel
theorem d_Law_676 : decode code 676 = .ok (.iload 4, 2) := by decide +kernel
theorem d_Law_678 : decode code 678 = .ok (.iconst 1, 1) := by decide +kernel
theorem d_Law_679 : decode code 679 = .ok (.iadd, 1) := by decide +kernel
theorem d_Law_680 : decode code 680 = .ok (.iaload, 1) := by decide +kernel
theorem d_Law_681 : decode code 681 = .ok (.aload_n 0, 1) := by decide +kernel
theorem d_Law_682 : decode code 682 = .ok (.iload 4, 2) := by decide +kernel
theorem d_Law_684 : decode code 684 = .ok (.iconst 2, 1) := by decide +kernel
theorem d_Law_685 : decode code 685 = .ok (.iadd, 1) := by decide +kernel
theorem d_Law_686 : decode code 686 = .ok (.iaload, 1) := by decide +kernel
theorem d_Law_687 : decode code 687 = .ok (.aload_n 3, 1) := by decide +kernel
theorem d_Law_688 : decode code 688 = .ok (.invokestatic 123, 3) := by decide +kernel
theorem d_Law_691 : decode code 691 = .ok (.istore 5, 2) := by decide +kernel
theorem d_Law_693 : decode code 693 = .ok (.aload_n 2, 1) := by decide +kernel
theorem d_Law_694 : decode code 694 = .ok (.aload_n 0, 1) := by decide +kernel
theorem d_Law_695 : decode code 695 = .ok (.iload 4, 2) := by decide +kernel
theorem d_Law_697 : decode code 697 = .ok (.iconst 1, 1) := by decide +kernel
theorem d_Law_698 : decode code 698 = .ok (.iadd, 1) := by decide +kernel
theorem d_Law_699 : decode code 699 = .ok (.iaload, 1) := by decide +kernel
theorem d_Law_700 : decode code 700 = .ok (.aload_n 0, 1) := by decide +kernel
theorem d_Law_701 : decode code 701 = .ok (.iload 4, 2) := by decide +kernel
theorem d_Law_703 : decode code 703 = .ok (.iconst 2, 1) := by decide +kernel
theorem d_Law_704 : decode code 704 = .ok (.iadd, 1) := by decide +kernel
theorem d_Law_705 : decode code 705 = .ok (.iaload, 1) := by decide +kernel
theorem d_Law_706 : decode code 706 = .ok (.invokevirtual 125, 3) := by decide +kernel
theorem d_Law_709 : decode code 709 = .ok (.istore 6, 2) := by decide +kernel
theorem d_Law_711 : decode code 711 = .ok (.aload_n 2, 1) := by decide +kernel
theorem d_Law_712 : decode code 712 = .ok (.invokevirtual 89, 3) := by decide +kernel
theorem d_Law_715 : decode code 715 = .ok (.iload 5, 2) := by decide +kernel
theorem d_Law_717 : decode code 717 = .ok (.if_icmp .eq 5, 3) := by decide +kernel
theorem d_Law_720 : decode code 720 = .ok (.iconst 0, 1) := by decide +kernel
theorem d_Law_721 : decode code 721 = .ok (.ireturn, 1) := by decide +kernel
theorem d_Law_722 : decode code 722 = .ok (.iload 5, 2) := by decide +kernel
theorem d_Law_724 : decode code 724 = .ok (.ifCond .ne 15, 3) := by decide +kernel
theorem d_Law_727 : decode code 727 = .ok (.aload_n 3, 1) := by decide +kernel
theorem d_Law_728 : decode code 728 = .ok (.iconst 0, 1) := by decide +kernel
theorem d_Law_729 : decode code 729 = .ok (.laload, 1) := by decide +kernel
theorem d_Law_730 : decode code 730 = .ok (.iload 6, 2) := by decide +kernel
theorem d_Law_732 : decode code 732 = .ok (.i2l, 1) := by decide +kernel
theorem d_Law_733 : decode code 733 = .ok (.lcmp, 1) := by decide +kernel
theorem d_Law_734 : decode code 734 = .ok (.ifCond .eq 5, 3) := by decide +kernel
theorem d_Law_737 : decode code 737 = .ok (.iconst 0, 1) := by decide +kernel
theorem d_Law_738 : decode code 738 = .ok (.ireturn, 1) := by decide +kernel
theorem d_Law_739 : decode code 739 = .ok (.goto 618, 3) := by decide +kernel
theorem d_Law_742 : decode code 742 = .ok (.aload_n 1, 1) := by decide +kernel
theorem d_Law_743 : decode code 743 = .ok (.aload_n 0, 1) := by decide +kernel
theorem d_Law_744 : decode code 744 = .ok (.iload 4, 2) := by decide +kernel
theorem d_Law_746 : decode code 746 = .ok (.iconst 1, 1) := by decide +kernel
theorem d_Law_747 : decode code 747 = .ok (.iadd, 1) := by decide +kernel
theorem d_Law_748 : decode code 748 = .ok (.iaload, 1) := by decide +kernel
theorem d_Law_749 : decode code 749 = .ok (.aload_n 0, 1) := by decide +kernel
theorem d_Law_750 : decode code 750 = .ok (.iload 4, 2) := by decide +kernel
theorem d_Law_752 : decode code 752 = .ok (.iconst 2, 1) := by decide +kernel
theorem d_Law_753 : decode code 753 = .ok (.iadd, 1) := by decide +kernel
theorem d_Law_754 : decode code 754 = .ok (.iaload, 1) := by decide +kernel
theorem d_Law_755 : decode code 755 = .ok (.aload_n 3, 1) := by decide +kernel
theorem d_Law_756 : decode code 756 = .ok (.invokestatic 126, 3) := by decide +kernel
theorem d_Law_759 : decode code 759 = .ok (.istore 5, 2) := by decide +kernel
theorem d_Law_761 : decode code 761 = .ok (.aload_n 2, 1) := by decide +kernel
theorem d_Law_762 : decode code 762 = .ok (.aload_n 0, 1) := by decide +kernel
theorem d_Law_763 : decode code 763 = .ok (.iload 4, 2) := by decide +kernel
theorem d_Law_765 : decode code 765 = .ok (.iconst 1, 1) := by decide +kernel
theorem d_Law_766 : decode code 766 = .ok (.iadd, 1) := by decide +kernel
theorem d_Law_767 : decode code 767 = .ok (.iaload, 1) := by decide +kernel
theorem d_Law_768 : decode code 768 = .ok (.aload_n 0, 1) := by decide +kernel
theorem d_Law_769 : decode code 769 = .ok (.iload 4, 2) := by decide +kernel
theorem d_Law_771 : decode code 771 = .ok (.iconst 2, 1) := by decide +kernel
theorem d_Law_772 : decode code 772 = .ok (.iadd, 1) := by decide +kernel
theorem d_Law_773 : decode code 773 = .ok (.iaload, 1) := by decide +kernel
theorem d_Law_774 : decode code 774 = .ok (.invokevirtual 128, 3) := by decide +kernel
theorem d_Law_777 : decode code 777 = .ok (.istore 6, 2) := by decide +kernel
theorem d_Law_779 : decode code 779 = .ok (.aload_n 2, 1) := by decide +kernel
theorem d_Law_780 : decode code 780 = .ok (.invokevirtual 89, 3) := by decide +kernel
theorem d_Law_783 : decode code 783 = .ok (.iload 5, 2) := by decide +kernel
theorem d_Law_785 : decode code 785 = .ok (.if_icmp .eq 5, 3) := by decide +kernel
theorem d_Law_788 : decode code 788 = .ok (.iconst 0, 1) := by decide +kernel
theorem d_Law_789 : decode code 789 = .ok (.ireturn, 1) := by decide +kernel
theorem d_Law_790 : decode code 790 = .ok (.iload 5, 2) := by decide +kernel
theorem d_Law_792 : decode code 792 = .ok (.ifCond .ne 15, 3) := by decide +kernel
theorem d_Law_795 : decode code 795 = .ok (.aload_n 3, 1) := by decide +kernel
theorem d_Law_796 : decode code 796 = .ok (.iconst 0, 1) := by decide +kernel
theorem d_Law_797 : decode code 797 = .ok (.laload, 1) := by decide +kernel
theorem d_Law_798 : decode code 798 = .ok (.iload 6, 2) := by decide +kernel
theorem d_Law_800 : decode code 800 = .ok (.i2l, 1) := by decide +kernel
theorem d_Law_801 : decode code 801 = .ok (.lcmp, 1) := by decide +kernel
theorem d_Law_802 : decode code 802 = .ok (.ifCond .eq 5, 3) := by decide +kernel
theorem d_Law_805 : decode code 805 = .ok (.iconst 0, 1) := by decide +kernel
theorem d_Law_806 : decode code 806 = .ok (.ireturn, 1) := by decide +kernel
theorem d_Law_807 : decode code 807 = .ok (.goto 550, 3) := by decide +kernel
theorem d_Law_810 : decode code 810 = .ok (.aload_n 1, 1) := by decide +kernel
theorem d_Law_811 : decode code 811 = .ok (.aload_n 0, 1) := by decide +kernel
theorem d_Law_812 : decode code 812 = .ok (.iload 4, 2) := by decide +kernel
theorem d_Law_814 : decode code 814 = .ok (.iconst 1, 1) := by decide +kernel
theorem d_Law_815 : decode code 815 = .ok (.iadd, 1) := by decide +kernel
theorem d_Law_816 : decode code 816 = .ok (.iaload, 1) := by decide +kernel
theorem d_Law_817 : decode code 817 = .ok (.aload_n 3, 1) := by decide +kernel
theorem d_Law_818 : decode code 818 = .ok (.invokestatic 129, 3) := by decide +kernel
theorem d_Law_821 : decode code 821 = .ok (.istore 5, 2) := by decide +kernel
theorem d_Law_823 : decode code 823 = .ok (.aload_n 2, 1) := by decide +kernel
theorem d_Law_824 : decode code 824 = .ok (.aload_n 0, 1) := by decide +kernel
theorem d_Law_825 : decode code 825 = .ok (.iload 4, 2) := by decide +kernel
theorem d_Law_827 : decode code 827 = .ok (.iconst 1, 1) := by decide +kernel
theorem d_Law_828 : decode code 828 = .ok (.iadd, 1) := by decide +kernel
theorem d_Law_829 : decode code 829 = .ok (.iaload, 1) := by decide +kernel
theorem d_Law_830 : decode code 830 = .ok (.invokevirtual 131, 3) := by decide +kernel
theorem d_Law_833 : decode code 833 = .ok (.istore 6, 2) := by decide +kernel
theorem d_Law_835 : decode code 835 = .ok (.aload_n 2, 1) := by decide +kernel
theorem d_Law_836 : decode code 836 = .ok (.invokevirtual 89, 3) := by decide +kernel
theorem d_Law_839 : decode code 839 = .ok (.iload 5, 2) := by decide +kernel
theorem d_Law_841 : decode code 841 = .ok (.if_icmp .eq 5, 3) := by decide +kernel
theorem d_Law_844 : decode code 844 = .ok (.iconst 0, 1) := by decide +kernel
theorem d_Law_845 : decode code 845 = .ok (.ireturn, 1) := by decide +kernel
theorem d_Law_846 : decode code 846 = .ok (.iload 5, 2) := by decide +kernel
theorem d_Law_848 : decode code 848 = .ok (.ifCond .ne 15, 3) := by decide +kernel
theorem d_Law_851 : decode code 851 = .ok (.aload_n 3, 1) := by decide +kernel
theorem d_Law_852 : decode code 852 = .ok (.iconst 0, 1) := by decide +kernel
theorem d_Law_853 : decode code 853 = .ok (.laload, 1) := by decide +kernel
theorem d_Law_854 : decode code 854 = .ok (.iload 6, 2) := by decide +kernel
theorem d_Law_856 : decode code 856 = .ok (.i2l, 1) := by decide +kernel
theorem d_Law_857 : decode code 857 = .ok (.lcmp, 1) := by decide +kernel
theorem d_Law_858 : decode code 858 = .ok (.ifCond .eq 5, 3) := by decide +kernel
theorem d_Law_861 : decode code 861 = .ok (.iconst 0, 1) := by decide +kernel
theorem d_Law_862 : decode code 862 = .ok (.ireturn, 1) := by decide +kernel
theorem d_Law_863 : decode code 863 = .ok (.goto 494, 3) := by decide +kernel
theorem d_Law_866 : decode code 866 = .ok (.aload_n 1, 1) := by decide +kernel
theorem d_Law_867 : decode code 867 = .ok (.aload_n 3, 1) := by decide +kernel
theorem d_Law_868 : decode code 868 = .ok (.invokestatic 132, 3) := by decide +kernel
theorem d_Law_871 : decode code 871 = .ok (.istore 5, 2) := by decide +kernel
theorem d_Law_873 : decode code 873 = .ok (.aload_n 2, 1) := by decide +kernel
theorem d_Law_874 : decode code 874 = .ok (.invokevirtual 135, 3) := by decide +kernel
theorem d_Law_877 : decode code 877 = .ok (.lstore 6, 2) := by decide +kernel
theorem d_Law_879 : decode code 879 = .ok (.aload_n 2, 1) := by decide +kernel
theorem d_Law_880 : decode code 880 = .ok (.invokevirtual 89, 3) := by decide +kernel
theorem d_Law_883 : decode code 883 = .ok (.iload 5, 2) := by decide +kernel
theorem d_Law_885 : decode code 885 = .ok (.if_icmp .eq 5, 3) := by decide +kernel
theorem d_Law_888 : decode code 888 = .ok (.iconst 0, 1) := by decide +kernel
theorem d_Law_889 : decode code 889 = .ok (.ireturn, 1) := by decide +kernel
theorem d_Law_890 : decode code 890 = .ok (.iload 5, 2) := by decide +kernel
theorem d_Law_892 : decode code 892 = .ok (.ifCond .ne 14, 3) := by decide +kernel
theorem d_Law_895 : decode code 895 = .ok (.aload_n 3, 1) := by decide +kernel
theorem d_Law_896 : decode code 896 = .ok (.iconst 0, 1) := by decide +kernel
theorem d_Law_897 : decode code 897 = .ok (.laload, 1) := by decide +kernel
theorem d_Law_898 : decode code 898 = .ok (.lload 6, 2) := by decide +kernel
theorem d_Law_900 : decode code 900 = .ok (.lcmp, 1) := by decide +kernel
theorem d_Law_901 : decode code 901 = .ok (.ifCond .eq 5, 3) := by decide +kernel
theorem d_Law_904 : decode code 904 = .ok (.iconst 0, 1) := by decide +kernel
theorem d_Law_905 : decode code 905 = .ok (.ireturn, 1) := by decide +kernel
theorem d_Law_906 : decode code 906 = .ok (.goto 451, 3) := by decide +kernel
theorem d_Law_909 : decode code 909 = .ok (.aload_n 1, 1) := by decide +kernel
theorem d_Law_910 : decode code 910 = .ok (.aload_n 0, 1) := by decide +kernel
theorem d_Law_911 : decode code 911 = .ok (.iload 4, 2) := by decide +kernel
theorem d_Law_913 : decode code 913 = .ok (.iconst 1, 1) := by decide +kernel
theorem d_Law_914 : decode code 914 = .ok (.iadd, 1) := by decide +kernel
theorem d_Law_915 : decode code 915 = .ok (.iaload, 1) := by decide +kernel
theorem d_Law_916 : decode code 916 = .ok (.i2l, 1) := by decide +kernel
theorem d_Law_917 : decode code 917 = .ok (.bipush 32, 2) := by decide +kernel
theorem d_Law_919 : decode code 919 = .ok (.lshl, 1) := by decide +kernel
theorem d_Law_920 : decode code 920 = .ok (.aload_n 0, 1) := by decide +kernel
theorem d_Law_921 : decode code 921 = .ok (.iload 4, 2) := by decide +kernel
theorem d_Law_923 : decode code 923 = .ok (.iconst 2, 1) := by decide +kernel
theorem d_Law_924 : decode code 924 = .ok (.iadd, 1) := by decide +kernel
theorem d_Law_925 : decode code 925 = .ok (.iaload, 1) := by decide +kernel
theorem d_Law_926 : decode code 926 = .ok (.i2l, 1) := by decide +kernel
theorem d_Law_927 : decode code 927 = .ok (.ldc2_w 136, 3) := by decide +kernel
theorem d_Law_930 : decode code 930 = .ok (.land, 1) := by decide +kernel
theorem d_Law_931 : decode code 931 = .ok (.lor, 1) := by decide +kernel
theorem d_Law_932 : decode code 932 = .ok (.invokestatic 138, 3) := by decide +kernel
theorem d_Law_935 : decode code 935 = .ok (.istore 5, 2) := by decide +kernel
theorem d_Law_937 : decode code 937 = .ok (.aload_n 2, 1) := by decide +kernel
theorem d_Law_938 : decode code 938 = .ok (.aload_n 0, 1) := by decide +kernel
theorem d_Law_939 : decode code 939 = .ok (.iload 4, 2) := by decide +kernel
theorem d_Law_941 : decode code 941 = .ok (.iconst 1, 1) := by decide +kernel
theorem d_Law_942 : decode code 942 = .ok (.iadd, 1) := by decide +kernel
theorem d_Law_943 : decode code 943 = .ok (.iaload, 1) := by decide +kernel
theorem d_Law_944 : decode code 944 = .ok (.i2l, 1) := by decide +kernel
theorem d_Law_945 : decode code 945 = .ok (.bipush 32, 2) := by decide +kernel
theorem d_Law_947 : decode code 947 = .ok (.lshl, 1) := by decide +kernel
theorem d_Law_948 : decode code 948 = .ok (.aload_n 0, 1) := by decide +kernel
theorem d_Law_949 : decode code 949 = .ok (.iload 4, 2) := by decide +kernel
theorem d_Law_951 : decode code 951 = .ok (.iconst 2, 1) := by decide +kernel
theorem d_Law_952 : decode code 952 = .ok (.iadd, 1) := by decide +kernel
theorem d_Law_953 : decode code 953 = .ok (.iaload, 1) := by decide +kernel
theorem d_Law_954 : decode code 954 = .ok (.i2l, 1) := by decide +kernel
theorem d_Law_955 : decode code 955 = .ok (.ldc2_w 136, 3) := by decide +kernel
theorem d_Law_958 : decode code 958 = .ok (.land, 1) := by decide +kernel
theorem d_Law_959 : decode code 959 = .ok (.lor, 1) := by decide +kernel
theorem d_Law_960 : decode code 960 = .ok (.invokevirtual 141, 3) := by decide +kernel
theorem d_Law_963 : decode code 963 = .ok (.aload_n 2, 1) := by decide +kernel
theorem d_Law_964 : decode code 964 = .ok (.invokevirtual 89, 3) := by decide +kernel
theorem d_Law_967 : decode code 967 = .ok (.iload 5, 2) := by decide +kernel
theorem d_Law_969 : decode code 969 = .ok (.if_icmp .eq 5, 3) := by decide +kernel
theorem d_Law_972 : decode code 972 = .ok (.iconst 0, 1) := by decide +kernel
theorem d_Law_973 : decode code 973 = .ok (.ireturn, 1) := by decide +kernel
theorem d_Law_974 : decode code 974 = .ok (.goto 383, 3) := by decide +kernel
theorem d_Law_977 : decode code 977 = .ok (.aload_n 1, 1) := by decide +kernel
theorem d_Law_978 : decode code 978 = .ok (.aload_n 0, 1) := by decide +kernel
theorem d_Law_979 : decode code 979 = .ok (.iload 4, 2) := by decide +kernel
theorem d_Law_981 : decode code 981 = .ok (.iconst 1, 1) := by decide +kernel
theorem d_Law_982 : decode code 982 = .ok (.iadd, 1) := by decide +kernel
theorem d_Law_983 : decode code 983 = .ok (.iaload, 1) := by decide +kernel
theorem d_Law_984 : decode code 984 = .ok (.invokevirtual 142, 3) := by decide +kernel
theorem d_Law_987 : decode code 987 = .ok (.aload_n 2, 1) := by decide +kernel
theorem d_Law_988 : decode code 988 = .ok (.aload_n 0, 1) := by decide +kernel
theorem d_Law_989 : decode code 989 = .ok (.iload 4, 2) := by decide +kernel
theorem d_Law_991 : decode code 991 = .ok (.iconst 1, 1) := by decide +kernel
theorem d_Law_992 : decode code 992 = .ok (.iadd, 1) := by decide +kernel
theorem d_Law_993 : decode code 993 = .ok (.iaload, 1) := by decide +kernel
theorem d_Law_994 : decode code 994 = .ok (.invokevirtual 145, 3) := by decide +kernel
theorem d_Law_997 : decode code 997 = .ok (.if_icmp .eq 360, 3) := by decide +kernel
theorem d_Law_1000 : decode code 1000 = .ok (.iconst 0, 1) := by decide +kernel
theorem d_Law_1001 : decode code 1001 = .ok (.ireturn, 1) := by decide +kernel
theorem d_Law_1002 : decode code 1002 = .ok (.aload_n 1, 1) := by decide +kernel
theorem d_Law_1003 : decode code 1003 = .ok (.aload_n 0, 1) := by decide +kernel
theorem d_Law_1004 : decode code 1004 = .ok (.iload 4, 2) := by decide +kernel
theorem d_Law_1006 : decode code 1006 = .ok (.iconst 1, 1) := by decide +kernel
theorem d_Law_1007 : decode code 1007 = .ok (.iadd, 1) := by decide +kernel
theorem d_Law_1008 : decode code 1008 = .ok (.iaload, 1) := by decide +kernel
theorem d_Law_1009 : decode code 1009 = .ok (.invokevirtual 146, 3) := by decide +kernel
theorem d_Law_1012 : decode code 1012 = .ok (.aload_n 2, 1) := by decide +kernel
theorem d_Law_1013 : decode code 1013 = .ok (.aload_n 0, 1) := by decide +kernel
theorem d_Law_1014 : decode code 1014 = .ok (.iload 4, 2) := by decide +kernel
theorem d_Law_1016 : decode code 1016 = .ok (.iconst 1, 1) := by decide +kernel
theorem d_Law_1017 : decode code 1017 = .ok (.iadd, 1) := by decide +kernel
theorem d_Law_1018 : decode code 1018 = .ok (.iaload, 1) := by decide +kernel
theorem d_Law_1019 : decode code 1019 = .ok (.invokevirtual 149, 3) := by decide +kernel
theorem d_Law_1022 : decode code 1022 = .ok (.if_icmp .eq 335, 3) := by decide +kernel
theorem d_Law_1025 : decode code 1025 = .ok (.iconst 0, 1) := by decide +kernel
theorem d_Law_1026 : decode code 1026 = .ok (.ireturn, 1) := by decide +kernel
theorem d_Law_1027 : decode code 1027 = .ok (.aload_n 1, 1) := by decide +kernel
theorem d_Law_1028 : decode code 1028 = .ok (.invokevirtual 150, 3) := by decide +kernel
theorem d_Law_1031 : decode code 1031 = .ok (.aload_n 2, 1) := by decide +kernel
theorem d_Law_1032 : decode code 1032 = .ok (.invokevirtual 153, 3) := by decide +kernel
theorem d_Law_1035 : decode code 1035 = .ok (.lcmp, 1) := by decide +kernel
theorem d_Law_1036 : decode code 1036 = .ok (.ifCond .eq 321, 3) := by decide +kernel
theorem d_Law_1039 : decode code 1039 = .ok (.iconst 0, 1) := by decide +kernel
theorem d_Law_1040 : decode code 1040 = .ok (.ireturn, 1) := by decide +kernel
theorem d_Law_1041 : decode code 1041 = .ok (.aload_n 1, 1) := by decide +kernel
theorem d_Law_1042 : decode code 1042 = .ok (.aload_n 0, 1) := by decide +kernel
theorem d_Law_1043 : decode code 1043 = .ok (.iload 4, 2) := by decide +kernel
theorem d_Law_1045 : decode code 1045 = .ok (.iconst 1, 1) := by decide +kernel
theorem d_Law_1046 : decode code 1046 = .ok (.iadd, 1) := by decide +kernel
theorem d_Law_1047 : decode code 1047 = .ok (.iaload, 1) := by decide +kernel
theorem d_Law_1048 : decode code 1048 = .ok (.aload_n 0, 1) := by decide +kernel
theorem d_Law_1049 : decode code 1049 = .ok (.iload 4, 2) := by decide +kernel
theorem d_Law_1051 : decode code 1051 = .ok (.iconst 2, 1) := by decide +kernel
theorem d_Law_1052 : decode code 1052 = .ok (.iadd, 1) := by decide +kernel
theorem d_Law_1053 : decode code 1053 = .ok (.iaload, 1) := by decide +kernel
theorem d_Law_1054 : decode code 1054 = .ok (.aload_n 0, 1) := by decide +kernel
theorem d_Law_1055 : decode code 1055 = .ok (.iload 4, 2) := by decide +kernel
theorem d_Law_1057 : decode code 1057 = .ok (.iconst 3, 1) := by decide +kernel
theorem d_Law_1058 : decode code 1058 = .ok (.iadd, 1) := by decide +kernel
theorem d_Law_1059 : decode code 1059 = .ok (.iaload, 1) := by decide +kernel
theorem d_Law_1060 : decode code 1060 = .ok (.aload_n 3, 1) := by decide +kernel
theorem d_Law_1061 : decode code 1061 = .ok (.invokestatic 154, 3) := by decide +kernel
theorem d_Law_1064 : decode code 1064 = .ok (.istore 5, 2) := by decide +kernel
theorem d_Law_1066 : decode code 1066 = .ok (.aload_n 2, 1) := by decide +kernel
theorem d_Law_1067 : decode code 1067 = .ok (.aload_n 0, 1) := by decide +kernel
theorem d_Law_1068 : decode code 1068 = .ok (.iload 4, 2) := by decide +kernel
theorem d_Law_1070 : decode code 1070 = .ok (.iconst 1, 1) := by decide +kernel
theorem d_Law_1071 : decode code 1071 = .ok (.iadd, 1) := by decide +kernel
theorem d_Law_1072 : decode code 1072 = .ok (.iaload, 1) := by decide +kernel
theorem d_Law_1073 : decode code 1073 = .ok (.aload_n 0, 1) := by decide +kernel
theorem d_Law_1074 : decode code 1074 = .ok (.iload 4, 2) := by decide +kernel
theorem d_Law_1076 : decode code 1076 = .ok (.iconst 2, 1) := by decide +kernel
theorem d_Law_1077 : decode code 1077 = .ok (.iadd, 1) := by decide +kernel
theorem d_Law_1078 : decode code 1078 = .ok (.iaload, 1) := by decide +kernel
theorem d_Law_1079 : decode code 1079 = .ok (.aload_n 0, 1) := by decide +kernel
theorem d_Law_1080 : decode code 1080 = .ok (.iload 4, 2) := by decide +kernel
theorem d_Law_1082 : decode code 1082 = .ok (.iconst 3, 1) := by decide +kernel
theorem d_Law_1083 : decode code 1083 = .ok (.iadd, 1) := by decide +kernel
theorem d_Law_1084 : decode code 1084 = .ok (.iaload, 1) := by decide +kernel
theorem d_Law_1085 : decode code 1085 = .ok (.invokevirtual 157, 3) := by decide +kernel
theorem d_Law_1088 : decode code 1088 = .ok (.istore 6, 2) := by decide +kernel
theorem d_Law_1090 : decode code 1090 = .ok (.aload_n 2, 1) := by decide +kernel
theorem d_Law_1091 : decode code 1091 = .ok (.invokevirtual 89, 3) := by decide +kernel
theorem d_Law_1094 : decode code 1094 = .ok (.iload 5, 2) := by decide +kernel
theorem d_Law_1096 : decode code 1096 = .ok (.if_icmp .eq 5, 3) := by decide +kernel
theorem d_Law_1099 : decode code 1099 = .ok (.iconst 0, 1) := by decide +kernel
theorem d_Law_1100 : decode code 1100 = .ok (.ireturn, 1) := by decide +kernel
theorem d_Law_1101 : decode code 1101 = .ok (.iload 5, 2) := by decide +kernel
theorem d_Law_1103 : decode code 1103 = .ok (.ifCond .ne 15, 3) := by decide +kernel
theorem d_Law_1106 : decode code 1106 = .ok (.aload_n 3, 1) := by decide +kernel
theorem d_Law_1107 : decode code 1107 = .ok (.iconst 0, 1) := by decide +kernel
theorem d_Law_1108 : decode code 1108 = .ok (.laload, 1) := by decide +kernel
theorem d_Law_1109 : decode code 1109 = .ok (.iload 6, 2) := by decide +kernel
theorem d_Law_1111 : decode code 1111 = .ok (.i2l, 1) := by decide +kernel
theorem d_Law_1112 : decode code 1112 = .ok (.lcmp, 1) := by decide +kernel
theorem d_Law_1113 : decode code 1113 = .ok (.ifCond .eq 5, 3) := by decide +kernel
theorem d_Law_1116 : decode code 1116 = .ok (.iconst 0, 1) := by decide +kernel
theorem d_Law_1117 : decode code 1117 = .ok (.ireturn, 1) := by decide +kernel
theorem d_Law_1118 : decode code 1118 = .ok (.goto 239, 3) := by decide +kernel
theorem d_Law_1121 : decode code 1121 = .ok (.aload_n 1, 1) := by decide +kernel
theorem d_Law_1122 : decode code 1122 = .ok (.aload_n 3, 1) := by decide +kernel
theorem d_Law_1123 : decode code 1123 = .ok (.invokestatic 158, 3) := by decide +kernel
theorem d_Law_1126 : decode code 1126 = .ok (.istore 5, 2) := by decide +kernel
theorem d_Law_1128 : decode code 1128 = .ok (.aload_n 2, 1) := by decide +kernel
theorem d_Law_1129 : decode code 1129 = .ok (.invokevirtual 160, 3) := by decide +kernel
theorem d_Law_1132 : decode code 1132 = .ok (.istore 6, 2) := by decide +kernel
theorem d_Law_1134 : decode code 1134 = .ok (.aload_n 2, 1) := by decide +kernel
theorem d_Law_1135 : decode code 1135 = .ok (.invokevirtual 89, 3) := by decide +kernel
theorem d_Law_1138 : decode code 1138 = .ok (.iload 5, 2) := by decide +kernel
theorem d_Law_1140 : decode code 1140 = .ok (.if_icmp .eq 5, 3) := by decide +kernel
theorem d_Law_1143 : decode code 1143 = .ok (.iconst 0, 1) := by decide +kernel
theorem d_Law_1144 : decode code 1144 = .ok (.ireturn, 1) := by decide +kernel
theorem d_Law_1145 : decode code 1145 = .ok (.iload 5, 2) := by decide +kernel
theorem d_Law_1147 : decode code 1147 = .ok (.ifCond .ne 15, 3) := by decide +kernel
theorem d_Law_1150 : decode code 1150 = .ok (.aload_n 3, 1) := by decide +kernel
theorem d_Law_1151 : decode code 1151 = .ok (.iconst 0, 1) := by decide +kernel
theorem d_Law_1152 : decode code 1152 = .ok (.laload, 1) := by decide +kernel
theorem d_Law_1153 : decode code 1153 = .ok (.iload 6, 2) := by decide +kernel
theorem d_Law_1155 : decode code 1155 = .ok (.i2l, 1) := by decide +kernel
theorem d_Law_1156 : decode code 1156 = .ok (.lcmp, 1) := by decide +kernel
theorem d_Law_1157 : decode code 1157 = .ok (.ifCond .eq 5, 3) := by decide +kernel
theorem d_Law_1160 : decode code 1160 = .ok (.iconst 0, 1) := by decide +kernel
theorem d_Law_1161 : decode code 1161 = .ok (.ireturn, 1) := by decide +kernel
theorem d_Law_1162 : decode code 1162 = .ok (.goto 195, 3) := by decide +kernel
theorem d_Law_1165 : decode code 1165 = .ok (.aload_n 1, 1) := by decide +kernel
theorem d_Law_1166 : decode code 1166 = .ok (.aload_n 0, 1) := by decide +kernel
theorem d_Law_1167 : decode code 1167 = .ok (.iload 4, 2) := by decide +kernel
theorem d_Law_1169 : decode code 1169 = .ok (.iconst 1, 1) := by decide +kernel
theorem d_Law_1170 : decode code 1170 = .ok (.iadd, 1) := by decide +kernel
theorem d_Law_1171 : decode code 1171 = .ok (.iaload, 1) := by decide +kernel
theorem d_Law_1172 : decode code 1172 = .ok (.aload_n 0, 1) := by decide +kernel
theorem d_Law_1173 : decode code 1173 = .ok (.iload 4, 2) := by decide +kernel
theorem d_Law_1175 : decode code 1175 = .ok (.iconst 2, 1) := by decide +kernel
theorem d_Law_1176 : decode code 1176 = .ok (.iadd, 1) := by decide +kernel
theorem d_Law_1177 : decode code 1177 = .ok (.iaload, 1) := by decide +kernel
theorem d_Law_1178 : decode code 1178 = .ok (.aload_n 3, 1) := by decide +kernel
theorem d_Law_1179 : decode code 1179 = .ok (.invokestatic 161, 3) := by decide +kernel
theorem d_Law_1182 : decode code 1182 = .ok (.istore 5, 2) := by decide +kernel
theorem d_Law_1184 : decode code 1184 = .ok (.aload_n 2, 1) := by decide +kernel
theorem d_Law_1185 : decode code 1185 = .ok (.aload_n 0, 1) := by decide +kernel
theorem d_Law_1186 : decode code 1186 = .ok (.iload 4, 2) := by decide +kernel
theorem d_Law_1188 : decode code 1188 = .ok (.iconst 1, 1) := by decide +kernel
theorem d_Law_1189 : decode code 1189 = .ok (.iadd, 1) := by decide +kernel
theorem d_Law_1190 : decode code 1190 = .ok (.iaload, 1) := by decide +kernel
theorem d_Law_1191 : decode code 1191 = .ok (.aload_n 0, 1) := by decide +kernel
theorem d_Law_1192 : decode code 1192 = .ok (.iload 4, 2) := by decide +kernel
theorem d_Law_1194 : decode code 1194 = .ok (.iconst 2, 1) := by decide +kernel
theorem d_Law_1195 : decode code 1195 = .ok (.iadd, 1) := by decide +kernel
theorem d_Law_1196 : decode code 1196 = .ok (.iaload, 1) := by decide +kernel
theorem d_Law_1197 : decode code 1197 = .ok (.invokevirtual 163, 3) := by decide +kernel
theorem d_Law_1200 : decode code 1200 = .ok (.istore 6, 2) := by decide +kernel
theorem d_Law_1202 : decode code 1202 = .ok (.aload_n 2, 1) := by decide +kernel
theorem d_Law_1203 : decode code 1203 = .ok (.invokevirtual 89, 3) := by decide +kernel
theorem d_Law_1206 : decode code 1206 = .ok (.iload 5, 2) := by decide +kernel
theorem d_Law_1208 : decode code 1208 = .ok (.if_icmp .eq 5, 3) := by decide +kernel
theorem d_Law_1211 : decode code 1211 = .ok (.iconst 0, 1) := by decide +kernel
theorem d_Law_1212 : decode code 1212 = .ok (.ireturn, 1) := by decide +kernel
theorem d_Law_1213 : decode code 1213 = .ok (.iload 5, 2) := by decide +kernel
theorem d_Law_1215 : decode code 1215 = .ok (.ifCond .ne 15, 3) := by decide +kernel
theorem d_Law_1218 : decode code 1218 = .ok (.aload_n 3, 1) := by decide +kernel
theorem d_Law_1219 : decode code 1219 = .ok (.iconst 0, 1) := by decide +kernel
theorem d_Law_1220 : decode code 1220 = .ok (.laload, 1) := by decide +kernel
theorem d_Law_1221 : decode code 1221 = .ok (.iload 6, 2) := by decide +kernel
theorem d_Law_1223 : decode code 1223 = .ok (.i2l, 1) := by decide +kernel
theorem d_Law_1224 : decode code 1224 = .ok (.lcmp, 1) := by decide +kernel
theorem d_Law_1225 : decode code 1225 = .ok (.ifCond .eq 5, 3) := by decide +kernel
theorem d_Law_1228 : decode code 1228 = .ok (.iconst 0, 1) := by decide +kernel
theorem d_Law_1229 : decode code 1229 = .ok (.ireturn, 1) := by decide +kernel
theorem d_Law_1230 : decode code 1230 = .ok (.goto 127, 3) := by decide +kernel
theorem d_Law_1233 : decode code 1233 = .ok (.aload_n 1, 1) := by decide +kernel
theorem d_Law_1234 : decode code 1234 = .ok (.invokestatic 164, 3) := by decide +kernel
theorem d_Law_1237 : decode code 1237 = .ok (.istore 5, 2) := by decide +kernel
theorem d_Law_1239 : decode code 1239 = .ok (.aload_n 2, 1) := by decide +kernel
theorem d_Law_1240 : decode code 1240 = .ok (.invokevirtual 167, 3) := by decide +kernel
theorem d_Law_1243 : decode code 1243 = .ok (.aload_n 2, 1) := by decide +kernel
theorem d_Law_1244 : decode code 1244 = .ok (.invokevirtual 89, 3) := by decide +kernel
theorem d_Law_1247 : decode code 1247 = .ok (.iload 5, 2) := by decide +kernel
theorem d_Law_1249 : decode code 1249 = .ok (.if_icmp .eq 5, 3) := by decide +kernel
theorem d_Law_1252 : decode code 1252 = .ok (.iconst 0, 1) := by decide +kernel
theorem d_Law_1253 : decode code 1253 = .ok (.ireturn, 1) := by decide +kernel
theorem d_Law_1254 : decode code 1254 = .ok (.goto 103, 3) := by decide +kernel
theorem d_Law_1257 : decode code 1257 = .ok (.aload_n 1, 1) := by decide +kernel
theorem d_Law_1258 : decode code 1258 = .ok (.aload_n 0, 1) := by decide +kernel
theorem d_Law_1259 : decode code 1259 = .ok (.iload 4, 2) := by decide +kernel
theorem d_Law_1261 : decode code 1261 = .ok (.iconst 1, 1) := by decide +kernel
theorem d_Law_1262 : decode code 1262 = .ok (.iadd, 1) := by decide +kernel
theorem d_Law_1263 : decode code 1263 = .ok (.iaload, 1) := by decide +kernel
theorem d_Law_1264 : decode code 1264 = .ok (.aload_n 3, 1) := by decide +kernel
theorem d_Law_1265 : decode code 1265 = .ok (.invokestatic 168, 3) := by decide +kernel
theorem d_Law_1268 : decode code 1268 = .ok (.istore 5, 2) := by decide +kernel
theorem d_Law_1270 : decode code 1270 = .ok (.aload_n 2, 1) := by decide +kernel
theorem d_Law_1271 : decode code 1271 = .ok (.aload_n 0, 1) := by decide +kernel
theorem d_Law_1272 : decode code 1272 = .ok (.iload 4, 2) := by decide +kernel
theorem d_Law_1274 : decode code 1274 = .ok (.iconst 1, 1) := by decide +kernel
theorem d_Law_1275 : decode code 1275 = .ok (.iadd, 1) := by decide +kernel
theorem d_Law_1276 : decode code 1276 = .ok (.iaload, 1) := by decide +kernel
theorem d_Law_1277 : decode code 1277 = .ok (.invokevirtual 170, 3) := by decide +kernel
theorem d_Law_1280 : decode code 1280 = .ok (.istore 6, 2) := by decide +kernel
theorem d_Law_1282 : decode code 1282 = .ok (.aload_n 2, 1) := by decide +kernel
theorem d_Law_1283 : decode code 1283 = .ok (.invokevirtual 89, 3) := by decide +kernel
theorem d_Law_1286 : decode code 1286 = .ok (.iload 5, 2) := by decide +kernel
theorem d_Law_1288 : decode code 1288 = .ok (.if_icmp .eq 5, 3) := by decide +kernel
theorem d_Law_1291 : decode code 1291 = .ok (.iconst 0, 1) := by decide +kernel
theorem d_Law_1292 : decode code 1292 = .ok (.ireturn, 1) := by decide +kernel
theorem d_Law_1293 : decode code 1293 = .ok (.iload 5, 2) := by decide +kernel
theorem d_Law_1295 : decode code 1295 = .ok (.ifCond .ne 15, 3) := by decide +kernel
theorem d_Law_1298 : decode code 1298 = .ok (.aload_n 3, 1) := by decide +kernel
theorem d_Law_1299 : decode code 1299 = .ok (.iconst 0, 1) := by decide +kernel
theorem d_Law_1300 : decode code 1300 = .ok (.laload, 1) := by decide +kernel
theorem d_Law_1301 : decode code 1301 = .ok (.iload 6, 2) := by decide +kernel
theorem d_Law_1303 : decode code 1303 = .ok (.i2l, 1) := by decide +kernel
theorem d_Law_1304 : decode code 1304 = .ok (.lcmp, 1) := by decide +kernel
theorem d_Law_1305 : decode code 1305 = .ok (.ifCond .eq 5, 3) := by decide +kernel
theorem d_Law_1308 : decode code 1308 = .ok (.iconst 0, 1) := by decide +kernel
theorem d_Law_1309 : decode code 1309 = .ok (.ireturn, 1) := by decide +kernel
theorem d_Law_1310 : decode code 1310 = .ok (.goto 47, 3) := by decide +kernel
theorem d_Law_1313 : decode code 1313 = .ok (.aload_n 1, 1) := by decide +kernel
theorem d_Law_1314 : decode code 1314 = .ok (.aload_n 3, 1) := by decide +kernel
theorem d_Law_1315 : decode code 1315 = .ok (.invokestatic 171, 3) := by decide +kernel
theorem d_Law_1318 : decode code 1318 = .ok (.istore 5, 2) := by decide +kernel
theorem d_Law_1320 : decode code 1320 = .ok (.aload_n 2, 1) := by decide +kernel
theorem d_Law_1321 : decode code 1321 = .ok (.invokevirtual 173, 3) := by decide +kernel
theorem d_Law_1324 : decode code 1324 = .ok (.istore 6, 2) := by decide +kernel
theorem d_Law_1326 : decode code 1326 = .ok (.aload_n 2, 1) := by decide +kernel
theorem d_Law_1327 : decode code 1327 = .ok (.invokevirtual 89, 3) := by decide +kernel
theorem d_Law_1330 : decode code 1330 = .ok (.iload 5, 2) := by decide +kernel
theorem d_Law_1332 : decode code 1332 = .ok (.if_icmp .eq 5, 3) := by decide +kernel
theorem d_Law_1335 : decode code 1335 = .ok (.iconst 0, 1) := by decide +kernel
theorem d_Law_1336 : decode code 1336 = .ok (.ireturn, 1) := by decide +kernel
theorem d_Law_1337 : decode code 1337 = .ok (.iload 5, 2) := by decide +kernel
theorem d_Law_1339 : decode code 1339 = .ok (.ifCond .ne 15, 3) := by decide +kernel
theorem d_Law_1342 : decode code 1342 = .ok (.aload_n 3, 1) := by decide +kernel
theorem d_Law_1343 : decode code 1343 = .ok (.iconst 0, 1) := by decide +kernel
theorem d_Law_1344 : decode code 1344 = .ok (.laload, 1) := by decide +kernel
theorem d_Law_1345 : decode code 1345 = .ok (.iload 6, 2) := by decide +kernel
theorem d_Law_1347 : decode code 1347 = .ok (.i2l, 1) := by decide +kernel
theorem d_Law_1348 : decode code 1348 = .ok (.lcmp, 1) := by decide +kernel
theorem d_Law_1349 : decode code 1349 = .ok (.ifCond .eq 5, 3) := by decide +kernel
theorem d_Law_1352 : decode code 1352 = .ok (.iconst 0, 1) := by decide +kernel
theorem d_Law_1353 : decode code 1353 = .ok (.ireturn, 1) := by decide +kernel
theorem d_Law_1354 : decode code 1354 = .ok (.goto 3, 3) := by decide +kernel
theorem d_Law_1357 : decode code 1357 = .ok (.iinc 4 4, 3) := by decide +kernel
theorem d_Law_1360 : decode code 1360 = .ok (.goto (-1337), 3) := by decide +kernel
theorem d_Law_1363 : decode code 1363 = .ok (.iconst 1, 1) := by decide +kernel
theorem d_Law_1364 : decode code 1364 = .ok (.ireturn, 1) := by decide +kernel
noncomputable def f_L0 (p1 p2 p3 : Int32) (M : oz_M) : Option oz_M := oz_b2 (f_Law_begin p1 M) fun v1 M2 => oz_b2 (f_Model_begin p1 M2) fun v3 M4 => (f_Model_thrown M4).bind fun v5 => if v5 = v1 then (some M4) else (none)
noncomputable def f_L1 (p1 p2 p3 : Int32) (M : oz_M) : Option oz_M := oz_b2 (f_Law_arc p1 p2 M) fun v1 M2 => oz_b2 (f_Model_arc p1 p2 M2) fun v3 M4 => (f_Model_thrown M4).bind fun v5 => if v5 = v1 then (if v1 = 0 then ((oz_in 0 1).bind fun j6 => if (lg_cmp (M4.2 74 j6) (Int32.toInt64 v3)) = 0 then (some M4) else (none)) else (some M4)) else (none)
noncomputable def f_L2 (p1 p2 p3 : Int32) (M : oz_M) : Option oz_M := oz_b2 (f_Law_drop p1 p2 M) fun v1 M2 => oz_b2 (f_Model_drop p1 p2 M2) fun v3 M4 => (f_Model_thrown M4).bind fun v5 => if v5 = v1 then (if v1 = 0 then ((oz_in 0 1).bind fun j6 => if (lg_cmp (M4.2 74 j6) (Int32.toInt64 v3)) = 0 then (some M4) else (none)) else (some M4)) else (none)
noncomputable def f_L3 (p1 p2 p3 : Int32) (M : oz_M) : Option oz_M := oz_b2 (f_Hall_settle M) fun v1 M2 => oz_b2 (f_Model_settle M2) fun v3 M4 => if v1 = v3 then (some M4) else (none)
noncomputable def f_L4 (p1 p2 p3 : Int32) (M : oz_M) : Option oz_M := (f_Hall_cycle p1 M).bind fun v1 => oz_b2 (f_Model_cycle p1 M) fun v2 M3 => if v1 = v2 then (some M3) else (none)
noncomputable def f_L5 (p1 p2 p3 : Int32) (M : oz_M) : Option oz_M := oz_b2 (f_Law_compare p1 p2 M) fun v1 M2 => oz_b2 (f_Model_compare p1 p2 M2) fun v3 M4 => (f_Model_thrown M4).bind fun v5 => if v5 = v1 then (if v1 = 0 then ((oz_in 0 1).bind fun j6 => if (lg_cmp (M4.2 74 j6) (Int32.toInt64 v3)) = 0 then (some M4) else (none)) else (some M4)) else (none)
noncomputable def f_L6 (p1 p2 p3 : Int32) (M : oz_M) : Option oz_M := oz_b2 (f_Law_set p1 p2 M) fun v1 M2 => oz_b2 (f_Model_set p1 p2 M2) fun v3 M4 => (f_Model_thrown M4).bind fun v5 => if v5 = v1 then (if v1 = 0 then ((oz_in 0 1).bind fun j6 => if (lg_cmp (M4.2 74 j6) (Int32.toInt64 v3)) = 0 then (some M4) else (none)) else (some M4)) else (none)
noncomputable def f_L7 (p1 p2 p3 : Int32) (M : oz_M) : Option oz_M := oz_b2 (f_Law_level p1 p2 M) fun v1 M2 => oz_b2 (f_Model_level p1 p2 M2) fun v3 M4 => (f_Model_thrown M4).bind fun v5 => if v5 = v1 then (if v1 = 0 then ((oz_in 0 1).bind fun j6 => if (lg_cmp (M4.2 74 j6) (Int32.toInt64 v3)) = 0 then (some M4) else (none)) else (some M4)) else (none)
noncomputable def f_L8 (p1 p2 p3 : Int32) (M : oz_M) : Option oz_M := oz_b2 (f_Law_count p1 M) fun v1 M2 => oz_b2 (f_Model_count p1 M2) fun v3 M4 => (f_Model_thrown M4).bind fun v5 => if v5 = v1 then (if v1 = 0 then ((oz_in 0 1).bind fun j6 => if (lg_cmp (M4.2 74 j6) (Int32.toInt64 v3)) = 0 then (some M4) else (none)) else (some M4)) else (none)
noncomputable def f_L9 (p1 p2 p3 : Int32) (M : oz_M) : Option oz_M := oz_b2 (f_Law_antichain p1 M) fun v1 M2 => oz_b2 (f_Model_antichain p1 M2) fun v3 M4 => (f_Model_thrown M4).bind fun v5 => if v5 = v1 then (if v1 = 0 then ((oz_in 0 1).bind fun j6 => if (lg_cmp (M4.2 74 j6) (Int32.toInt64 v3)) = 0 then (some M4) else (none)) else (some M4)) else (none)
noncomputable def f_L10 (p1 p2 p3 : Int32) (M : oz_M) : Option oz_M := oz_b2 (f_Law_most p1 p2 M) fun v1 M2 => oz_b2 (f_Model_most p1 p2 M2) fun v3 M4 => (f_Model_thrown M4).bind fun v5 => if v5 = v1 then (if v1 = 0 then ((oz_in 0 1).bind fun j6 => if (lg_cmp (M4.2 74 j6) (Int32.toInt64 v3)) = 0 then (some M4) else (none)) else (some M4)) else (none)
noncomputable def f_L11 (p1 p2 p3 : Int32) (M : oz_M) : Option oz_M := oz_b2 (f_Law_first p1 p2 M) fun v1 M2 => oz_b2 (f_Model_first p1 p2 M2) fun v3 M4 => (f_Model_thrown M4).bind fun v5 => if v5 = v1 then (if v1 = 0 then ((oz_in 0 1).bind fun j6 => if (lg_cmp (M4.2 74 j6) (Int32.toInt64 v3)) = 0 then (some M4) else (none)) else (some M4)) else (none)
noncomputable def f_L12 (p1 p2 p3 : Int32) (M : oz_M) : Option oz_M := oz_b2 (f_Law_chains p1 M) fun v1 M2 => oz_b2 (f_Model_chains p1 M2) fun v3 M4 => (f_Model_thrown M4).bind fun v5 => if v5 = v1 then (if v1 = 0 then ((oz_in 0 1).bind fun j6 => if (lg_cmp (M4.2 74 j6) (Int32.toInt64 v3)) = 0 then (some M4) else (none)) else (some M4)) else (none)
noncomputable def f_L13 (p1 p2 p3 : Int32) (M : oz_M) : Option oz_M := oz_b2 (f_Law_sequences M) fun v1 M2 => oz_b2 (f_Model_sequences M2) fun v3 M4 => (f_Model_thrown M4).bind fun v5 => if v5 = v1 then (if v1 = 0 then ((oz_in 0 1).bind fun j6 => if (lg_cmp (M4.2 74 j6) v3) = 0 then (some M4) else (none)) else (some M4)) else (none)
noncomputable def f_L14 (p1 p2 p3 : Int32) (M : oz_M) : Option oz_M := oz_b2 (f_Law_take (((Int32.toInt64 p1) <<< (Int32.toInt64 32 &&& 63)) ||| ((Int32.toInt64 p2) &&& 4294967295)) M) fun v1 M2 => oz_b2 (f_Model_take (((Int32.toInt64 p1) <<< (Int32.toInt64 32 &&& 63)) ||| ((Int32.toInt64 p2) &&& 4294967295)) M2) fun v3 M4 => (f_Model_thrown M4).bind fun v5 => if v5 = v1 then (some M4) else (none)
noncomputable def f_L15 (p1 p2 p3 : Int32) (M : oz_M) : Option oz_M := (f_Hall_at p1 M).bind fun v1 => oz_b2 (f_Model_at p1 M) fun v2 M3 => if v1 = v2 then (some M3) else (none)
noncomputable def f_L16 (p1 p2 p3 : Int32) (M : oz_M) : Option oz_M := oz_b2 (f_Hall_exchange p1 M) fun v1 M2 => oz_b2 (f_Model_exchange p1 M2) fun v3 M4 => if v1 = v3 then (some M4) else (none)
noncomputable def f_L17 (p1 p2 p3 : Int32) (M : oz_M) : Option oz_M := (f_Hall_number M).bind fun v1 => oz_b2 (f_Model_number M) fun v2 M3 => if (lg_cmp v1 v2) = 0 then (some M3) else (none)
noncomputable def f_L18 (p1 p2 p3 : Int32) (M : oz_M) : Option oz_M := oz_b2 (f_Law_bound p1 p2 p3 M) fun v1 M2 => oz_b2 (f_Model_bound p1 p2 p3 M2) fun v3 M4 => (f_Model_thrown M4).bind fun v5 => if v5 = v1 then (if v1 = 0 then ((oz_in 0 1).bind fun j6 => if (lg_cmp (M4.2 74 j6) (Int32.toInt64 v3)) = 0 then (some M4) else (none)) else (some M4)) else (none)
noncomputable def f_L19 (p1 p2 p3 : Int32) (M : oz_M) : Option oz_M := oz_b2 (f_Law_lattice M) fun v1 M2 => oz_b2 (f_Model_lattice M2) fun v3 M4 => (f_Model_thrown M4).bind fun v5 => if v5 = v1 then (if v1 = 0 then ((oz_in 0 1).bind fun j6 => if (lg_cmp (M4.2 74 j6) (Int32.toInt64 v3)) = 0 then (some M4) else (none)) else (some M4)) else (none)
noncomputable def f_L20 (p1 p2 p3 : Int32) (M : oz_M) : Option oz_M := oz_b2 (f_Law_sign p1 p2 M) fun v1 M2 => oz_b2 (f_Model_sign p1 p2 M2) fun v3 M4 => (f_Model_thrown M4).bind fun v5 => if v5 = v1 then (if v1 = 0 then ((oz_in 0 1).bind fun j6 => if (lg_cmp (M4.2 74 j6) (Int32.toInt64 v3)) = 0 then (some M4) else (none)) else (some M4)) else (none)
noncomputable def f_L21 (p1 p2 p3 : Int32) (M : oz_M) : Option oz_M := oz_b2 (f_Law_turn M) fun v1 M2 => oz_b2 (f_Model_turn M2) fun v3 M4 => (f_Model_thrown M4).bind fun v5 => if v5 = v1 then (some M4) else (none)
noncomputable def f_L22 (p1 p2 p3 : Int32) (M : oz_M) : Option oz_M := oz_b2 (f_Law_keep p1 M) fun v1 M2 => oz_b2 (f_Model_keep p1 M2) fun v3 M4 => (f_Model_thrown M4).bind fun v5 => if v5 = v1 then (if v1 = 0 then ((oz_in 0 1).bind fun j6 => if (lg_cmp (M4.2 74 j6) (Int32.toInt64 v3)) = 0 then (some M4) else (none)) else (some M4)) else (none)
noncomputable def f_L23 (p1 p2 p3 : Int32) (M : oz_M) : Option oz_M := oz_b2 (f_Law_check M) fun v1 M2 => oz_b2 (f_Model_check M2) fun v3 M4 => (f_Model_thrown M4).bind fun v5 => if v5 = v1 then (if v1 = 0 then ((oz_in 0 1).bind fun j6 => if (lg_cmp (M4.2 74 j6) (Int32.toInt64 v3)) = 0 then (some M4) else (none)) else (some M4)) else (none)
set_option maxRecDepth 20000 in
set_option maxHeartbeats 2000000 in
theorem w_L0 {G : oz_G} {b0 : Nat} {i p1 p2 p3 : Int32} {M : oz_M} (cx : oz_C G code "OrderHallLaw") (cx1 : oz_C (oz_G1 G) code "OrderHallLaw") (hfl : G.1.2.1.stackTraces = false) (hRm : oz_big G.1.2.2.2.1 10) (hcs : G.2.2.1.1 + 1 ≤ G.1.2.2.2.1.cells ∧ G.2.2.1.2.1 + 6 ≤ G.1.2.2.2.1.slots) (hnL : oz_nL G = 8) (h1 : oz_Scr G b0 (i + 1) p1) (h2 : oz_Scr G b0 (i + 2) p2) (h3 : oz_Scr G b0 (i + 3) p3) : oz_R G 148 [(4, .int i), (3, .ref (oz_b G + 74)), (2, .ref (oz_b G + 62)), (1, .ref (oz_b G + 0)), (0, .ref b0)] [] M (f_L0 p1 p2 p3 M) (fun M1 => oz_Z (oz_G1 G) 1357 [(4, .int i), (3, .ref (oz_b G + 74)), (2, .ref (oz_b G + 62)), (1, .ref (oz_b G + 0)), (0, .ref b0)] [] M1) := by
  unfold f_L0
  refine oz_aload_n (q := 149) cx d_Law_148 rfl rfl 3 rfl ?_
  refine oz_aload_n (q := 150) cx d_Law_149 rfl rfl 4 rfl ?_
  refine oz_iload (q := 152) cx d_Law_150 rfl 0 rfl ?_
  refine oz_iconst (q := 153) cx d_Law_152 rfl (v := 1) rfl ?_
  refine oz_iadd (q := 154) cx d_Law_153 rfl ?_
  refine oz_sld (q := 155) cx h1 d_Law_154 rfl ?_
  refine oz_cW (kc := 6) cx [.ref (oz_b G + 0), .int p1] 2 hRm (by decide) (by decide) hcs (fun _ _ h => c_Law_begin hfl h) ⟨tw_355, tw_356, tw_0⟩ tw_357 (by decide +kernel) rfl (st := []) rfl (Nat.le_of_ble_eq_true rfl) d_Law_155 rfl (fun v1 M2 hv1 => ?_)
  refine oz_istore (q := 160) cx1 d_Law_158 rfl (by rw [hnL]; decide) (lv2 := [(5, .int v1), (4, .int i), (3, .ref (oz_b G + 74)), (2, .ref (oz_b G + 62)), (1, .ref (oz_b G + 0)), (0, .ref b0)]) rfl ?_
  refine oz_aload_n (q := 161) cx1 d_Law_160 rfl rfl 3 rfl ?_
  refine oz_aload_n (q := 162) cx1 d_Law_161 rfl rfl 5 rfl ?_
  refine oz_iload (q := 164) cx1 d_Law_162 rfl 1 rfl ?_
  refine oz_iconst (q := 165) cx1 d_Law_164 rfl (v := 1) rfl ?_
  refine oz_iadd (q := 166) cx1 d_Law_165 rfl ?_
  refine oz_sld (q := 167) cx1 h1 d_Law_166 rfl ?_
  refine oz_cVv (q := 170) cx1 62 [.int p1] 1 8 hRm (by decide) (by decide) (fun _ _ h => c_Model_begin h) ⟨tw_843, tw_844, tw_845, tw_9⟩ tw_846 (by decide +kernel) rfl (by decide) rfl rfl (st := []) rfl (Nat.le_of_ble_eq_true rfl) d_Law_167 rfl (fun v3 M4 hv3 => ?_)
  refine oz_aload_n (q := 171) cx1 d_Law_170 rfl rfl 3 rfl ?_
  refine oz_cVip (q := 174) cx1 62 [] 0 8 hRm (by decide) (by decide) (fun _ h => c_Model_thrown h) ⟨tw_839, tw_840, tw_841, tw_9⟩ tw_842 (by decide +kernel) rfl (by decide) rfl rfl (st := []) rfl (Nat.le_of_ble_eq_true rfl) d_Law_171 rfl (fun v5 hv5 => ?_)
  refine oz_iload (q := 176) cx1 d_Law_174 rfl 0 rfl ?_
  refine oz_icmp_eq (q := 179) cx1 d_Law_176 rfl rfl (fun h6 => ?_) (fun h6 => ?_)
  · refine oz_goto cx1 d_Law_181 rfl ?_
    exact oz_lv [1, 2, 3, 4, 5] rfl (oz_leaf (fun h => h))
  · refine oz_iconst (q := 180) cx1 d_Law_179 rfl (v := 0) rfl ?_
    exact oz_none
set_option maxRecDepth 20000 in
set_option maxHeartbeats 2000000 in
theorem w_L1 {G : oz_G} {b0 : Nat} {i p1 p2 p3 : Int32} {M : oz_M} (cx : oz_C G code "OrderHallLaw") (cx1 : oz_C (oz_G1 G) code "OrderHallLaw") (hfl : G.1.2.1.stackTraces = false) (hRm : oz_big G.1.2.2.2.1 10) (hcs : G.2.2.1.1 + 1 ≤ G.1.2.2.2.1.cells ∧ G.2.2.1.2.1 + 6 ≤ G.1.2.2.2.1.slots) (hnL : oz_nL G = 8) (h1 : oz_Scr G b0 (i + 1) p1) (h2 : oz_Scr G b0 (i + 2) p2) (h3 : oz_Scr G b0 (i + 3) p3) : oz_R G 184 [(4, .int i), (3, .ref (oz_b G + 74)), (2, .ref (oz_b G + 62)), (1, .ref (oz_b G + 0)), (0, .ref b0)] [] M (f_L1 p1 p2 p3 M) (fun M1 => oz_Z (oz_G1 G) 1357 [(4, .int i), (3, .ref (oz_b G + 74)), (2, .ref (oz_b G + 62)), (1, .ref (oz_b G + 0)), (0, .ref b0)] [] M1) := by
  unfold f_L1
  refine oz_aload_n (q := 185) cx d_Law_184 rfl rfl 3 rfl ?_
  refine oz_aload_n (q := 186) cx d_Law_185 rfl rfl 4 rfl ?_
  refine oz_iload (q := 188) cx d_Law_186 rfl 0 rfl ?_
  refine oz_iconst (q := 189) cx d_Law_188 rfl (v := 1) rfl ?_
  refine oz_iadd (q := 190) cx d_Law_189 rfl ?_
  refine oz_sld (q := 191) cx h1 d_Law_190 rfl ?_
  refine oz_aload_n (q := 192) cx d_Law_191 rfl rfl 4 rfl ?_
  refine oz_iload (q := 194) cx d_Law_192 rfl 0 rfl ?_
  refine oz_iconst (q := 195) cx d_Law_194 rfl (v := 2) rfl ?_
  refine oz_iadd (q := 196) cx d_Law_195 rfl ?_
  refine oz_sld (q := 197) cx h2 d_Law_196 rfl ?_
  refine oz_aload_n (q := 198) cx d_Law_197 rfl rfl 1 rfl ?_
  refine oz_cW (kc := 7) cx [.ref (oz_b G + 0), .int p1, .int p2, .ref (oz_b G + 74)] 4 hRm (by decide) (by decide) hcs (fun _ _ h => c_Law_arc hfl h) ⟨tw_434, tw_435, tw_0⟩ tw_436 (by decide +kernel) rfl (st := []) rfl (Nat.le_of_ble_eq_true rfl) d_Law_198 rfl (fun v1 M2 hv1 => ?_)
  refine oz_istore (q := 203) cx1 d_Law_201 rfl (by rw [hnL]; decide) (lv2 := [(5, .int v1), (4, .int i), (3, .ref (oz_b G + 74)), (2, .ref (oz_b G + 62)), (1, .ref (oz_b G + 0)), (0, .ref b0)]) rfl ?_
  refine oz_aload_n (q := 204) cx1 d_Law_203 rfl rfl 3 rfl ?_
  refine oz_aload_n (q := 205) cx1 d_Law_204 rfl rfl 5 rfl ?_
  refine oz_iload (q := 207) cx1 d_Law_205 rfl 1 rfl ?_
  refine oz_iconst (q := 208) cx1 d_Law_207 rfl (v := 1) rfl ?_
  refine oz_iadd (q := 209) cx1 d_Law_208 rfl ?_
  refine oz_sld (q := 210) cx1 h1 d_Law_209 rfl ?_
  refine oz_aload_n (q := 211) cx1 d_Law_210 rfl rfl 5 rfl ?_
  refine oz_iload (q := 213) cx1 d_Law_211 rfl 1 rfl ?_
  refine oz_iconst (q := 214) cx1 d_Law_213 rfl (v := 2) rfl ?_
  refine oz_iadd (q := 215) cx1 d_Law_214 rfl ?_
  refine oz_sld (q := 216) cx1 h2 d_Law_215 rfl ?_
  refine oz_cVi (q := 219) cx1 62 [.int p1, .int p2] 2 8 hRm (by decide) (by decide) (fun _ _ h => c_Model_arc h) ⟨tw_851, tw_852, tw_853, tw_9⟩ tw_854 (by decide +kernel) rfl (by decide) rfl rfl (st := []) rfl (Nat.le_of_ble_eq_true rfl) d_Law_216 rfl (fun v3 M4 hv3 => ?_)
  refine oz_istore (q := 221) cx1 d_Law_219 rfl (by rw [hnL]; decide) (lv2 := [(6, .int v3), (5, .int v1), (4, .int i), (3, .ref (oz_b G + 74)), (2, .ref (oz_b G + 62)), (1, .ref (oz_b G + 0)), (0, .ref b0)]) rfl ?_
  refine oz_aload_n (q := 222) cx1 d_Law_221 rfl rfl 4 rfl ?_
  refine oz_cVip (q := 225) cx1 62 [] 0 8 hRm (by decide) (by decide) (fun _ h => c_Model_thrown h) ⟨tw_839, tw_840, tw_841, tw_9⟩ tw_842 (by decide +kernel) rfl (by decide) rfl rfl (st := []) rfl (Nat.le_of_ble_eq_true rfl) d_Law_222 rfl (fun v5 hv5 => ?_)
  refine oz_iload (q := 227) cx1 d_Law_225 rfl 1 rfl ?_
  refine oz_icmp_eq (q := 230) cx1 d_Law_227 rfl rfl (fun h9 => ?_) (fun h9 => ?_)
  · refine oz_iload (q := 234) cx1 d_Law_232 rfl 1 rfl ?_
    refine oz_if_ne (q := 237) cx1 d_Law_234 rfl rfl (fun h8 => ?_) (fun h8 => ?_)
    · refine oz_goto cx1 d_Law_249 rfl ?_
      exact oz_lv [2, 3, 4, 5, 6] rfl (oz_leaf (fun h => h))
    · refine oz_aload_n (q := 238) cx1 d_Law_237 rfl rfl 3 rfl ?_
      refine oz_iconst (q := 239) cx1 d_Law_238 rfl (v := 0) rfl ?_
      refine oz_lald (q := 240) cx1 74 1 (by decide) rfl d_Law_239 rfl (fun j6 hj6 => ?_)
      refine oz_iload (q := 242) cx1 d_Law_240 rfl 0 rfl ?_
      refine oz_i2l (q := 243) cx1 d_Law_242 rfl ?_
      refine oz_lcmp (q := 244) cx1 d_Law_243 rfl ?_
      refine oz_if_eq (q := 247) cx1 d_Law_244 rfl rfl (fun h7 => ?_) (fun h7 => ?_)
      · refine oz_goto cx1 d_Law_249 rfl ?_
        exact oz_lv [2, 3, 4, 5, 6] rfl (oz_leaf (fun h => h))
      · refine oz_iconst (q := 248) cx1 d_Law_247 rfl (v := 0) rfl ?_
        exact oz_none
  · refine oz_iconst (q := 231) cx1 d_Law_230 rfl (v := 0) rfl ?_
    exact oz_none
set_option maxRecDepth 20000 in
set_option maxHeartbeats 2000000 in
theorem w_L2 {G : oz_G} {b0 : Nat} {i p1 p2 p3 : Int32} {M : oz_M} (cx : oz_C G code "OrderHallLaw") (cx1 : oz_C (oz_G1 G) code "OrderHallLaw") (hfl : G.1.2.1.stackTraces = false) (hRm : oz_big G.1.2.2.2.1 10) (hcs : G.2.2.1.1 + 1 ≤ G.1.2.2.2.1.cells ∧ G.2.2.1.2.1 + 6 ≤ G.1.2.2.2.1.slots) (hnL : oz_nL G = 8) (h1 : oz_Scr G b0 (i + 1) p1) (h2 : oz_Scr G b0 (i + 2) p2) (h3 : oz_Scr G b0 (i + 3) p3) : oz_R G 252 [(4, .int i), (3, .ref (oz_b G + 74)), (2, .ref (oz_b G + 62)), (1, .ref (oz_b G + 0)), (0, .ref b0)] [] M (f_L2 p1 p2 p3 M) (fun M1 => oz_Z (oz_G1 G) 1357 [(4, .int i), (3, .ref (oz_b G + 74)), (2, .ref (oz_b G + 62)), (1, .ref (oz_b G + 0)), (0, .ref b0)] [] M1) := by
  unfold f_L2
  refine oz_aload_n (q := 253) cx d_Law_252 rfl rfl 3 rfl ?_
  refine oz_aload_n (q := 254) cx d_Law_253 rfl rfl 4 rfl ?_
  refine oz_iload (q := 256) cx d_Law_254 rfl 0 rfl ?_
  refine oz_iconst (q := 257) cx d_Law_256 rfl (v := 1) rfl ?_
  refine oz_iadd (q := 258) cx d_Law_257 rfl ?_
  refine oz_sld (q := 259) cx h1 d_Law_258 rfl ?_
  refine oz_aload_n (q := 260) cx d_Law_259 rfl rfl 4 rfl ?_
  refine oz_iload (q := 262) cx d_Law_260 rfl 0 rfl ?_
  refine oz_iconst (q := 263) cx d_Law_262 rfl (v := 2) rfl ?_
  refine oz_iadd (q := 264) cx d_Law_263 rfl ?_
  refine oz_sld (q := 265) cx h2 d_Law_264 rfl ?_
  refine oz_aload_n (q := 266) cx d_Law_265 rfl rfl 1 rfl ?_
  refine oz_cW (kc := 7) cx [.ref (oz_b G + 0), .int p1, .int p2, .ref (oz_b G + 74)] 4 hRm (by decide) (by decide) hcs (fun _ _ h => c_Law_drop hfl h) ⟨tw_466, tw_467, tw_0⟩ tw_468 (by decide +kernel) rfl (st := []) rfl (Nat.le_of_ble_eq_true rfl) d_Law_266 rfl (fun v1 M2 hv1 => ?_)
  refine oz_istore (q := 271) cx1 d_Law_269 rfl (by rw [hnL]; decide) (lv2 := [(5, .int v1), (4, .int i), (3, .ref (oz_b G + 74)), (2, .ref (oz_b G + 62)), (1, .ref (oz_b G + 0)), (0, .ref b0)]) rfl ?_
  refine oz_aload_n (q := 272) cx1 d_Law_271 rfl rfl 3 rfl ?_
  refine oz_aload_n (q := 273) cx1 d_Law_272 rfl rfl 5 rfl ?_
  refine oz_iload (q := 275) cx1 d_Law_273 rfl 1 rfl ?_
  refine oz_iconst (q := 276) cx1 d_Law_275 rfl (v := 1) rfl ?_
  refine oz_iadd (q := 277) cx1 d_Law_276 rfl ?_
  refine oz_sld (q := 278) cx1 h1 d_Law_277 rfl ?_
  refine oz_aload_n (q := 279) cx1 d_Law_278 rfl rfl 5 rfl ?_
  refine oz_iload (q := 281) cx1 d_Law_279 rfl 1 rfl ?_
  refine oz_iconst (q := 282) cx1 d_Law_281 rfl (v := 2) rfl ?_
  refine oz_iadd (q := 283) cx1 d_Law_282 rfl ?_
  refine oz_sld (q := 284) cx1 h2 d_Law_283 rfl ?_
  refine oz_cVi (q := 287) cx1 62 [.int p1, .int p2] 2 8 hRm (by decide) (by decide) (fun _ _ h => c_Model_drop h) ⟨tw_863, tw_864, tw_865, tw_9⟩ tw_866 (by decide +kernel) rfl (by decide) rfl rfl (st := []) rfl (Nat.le_of_ble_eq_true rfl) d_Law_284 rfl (fun v3 M4 hv3 => ?_)
  refine oz_istore (q := 289) cx1 d_Law_287 rfl (by rw [hnL]; decide) (lv2 := [(6, .int v3), (5, .int v1), (4, .int i), (3, .ref (oz_b G + 74)), (2, .ref (oz_b G + 62)), (1, .ref (oz_b G + 0)), (0, .ref b0)]) rfl ?_
  refine oz_aload_n (q := 290) cx1 d_Law_289 rfl rfl 4 rfl ?_
  refine oz_cVip (q := 293) cx1 62 [] 0 8 hRm (by decide) (by decide) (fun _ h => c_Model_thrown h) ⟨tw_839, tw_840, tw_841, tw_9⟩ tw_842 (by decide +kernel) rfl (by decide) rfl rfl (st := []) rfl (Nat.le_of_ble_eq_true rfl) d_Law_290 rfl (fun v5 hv5 => ?_)
  refine oz_iload (q := 295) cx1 d_Law_293 rfl 1 rfl ?_
  refine oz_icmp_eq (q := 298) cx1 d_Law_295 rfl rfl (fun h9 => ?_) (fun h9 => ?_)
  · refine oz_iload (q := 302) cx1 d_Law_300 rfl 1 rfl ?_
    refine oz_if_ne (q := 305) cx1 d_Law_302 rfl rfl (fun h8 => ?_) (fun h8 => ?_)
    · refine oz_goto cx1 d_Law_317 rfl ?_
      exact oz_lv [2, 3, 4, 5, 6] rfl (oz_leaf (fun h => h))
    · refine oz_aload_n (q := 306) cx1 d_Law_305 rfl rfl 3 rfl ?_
      refine oz_iconst (q := 307) cx1 d_Law_306 rfl (v := 0) rfl ?_
      refine oz_lald (q := 308) cx1 74 1 (by decide) rfl d_Law_307 rfl (fun j6 hj6 => ?_)
      refine oz_iload (q := 310) cx1 d_Law_308 rfl 0 rfl ?_
      refine oz_i2l (q := 311) cx1 d_Law_310 rfl ?_
      refine oz_lcmp (q := 312) cx1 d_Law_311 rfl ?_
      refine oz_if_eq (q := 315) cx1 d_Law_312 rfl rfl (fun h7 => ?_) (fun h7 => ?_)
      · refine oz_goto cx1 d_Law_317 rfl ?_
        exact oz_lv [2, 3, 4, 5, 6] rfl (oz_leaf (fun h => h))
      · refine oz_iconst (q := 316) cx1 d_Law_315 rfl (v := 0) rfl ?_
        exact oz_none
  · refine oz_iconst (q := 299) cx1 d_Law_298 rfl (v := 0) rfl ?_
    exact oz_none
set_option maxRecDepth 20000 in
set_option maxHeartbeats 2000000 in
theorem w_L3 {G : oz_G} {b0 : Nat} {i p1 p2 p3 : Int32} {M : oz_M} (cx : oz_C G code "OrderHallLaw") (cx1 : oz_C (oz_G1 G) code "OrderHallLaw") (hfl : G.1.2.1.stackTraces = false) (hRm : oz_big G.1.2.2.2.1 10) (hcs : G.2.2.1.1 + 1 ≤ G.1.2.2.2.1.cells ∧ G.2.2.1.2.1 + 6 ≤ G.1.2.2.2.1.slots) (hnL : oz_nL G = 8) (h1 : oz_Scr G b0 (i + 1) p1) (h2 : oz_Scr G b0 (i + 2) p2) (h3 : oz_Scr G b0 (i + 3) p3) : oz_R G 320 [(4, .int i), (3, .ref (oz_b G + 74)), (2, .ref (oz_b G + 62)), (1, .ref (oz_b G + 0)), (0, .ref b0)] [] M (f_L3 p1 p2 p3 M) (fun M1 => oz_Z (oz_G1 G) 1357 [(4, .int i), (3, .ref (oz_b G + 74)), (2, .ref (oz_b G + 62)), (1, .ref (oz_b G + 0)), (0, .ref b0)] [] M1) := by
  unfold f_L3
  refine oz_aload_n (q := 321) cx d_Law_320 rfl rfl 3 rfl ?_
  refine oz_cVi (q := 324) cx 0 [] 0 0 hRm (by decide) (by decide) (fun _ _ h => c_Hall_settle h) ⟨tw_253, tw_254, tw_255, tw_1⟩ tw_256 (by decide +kernel) rfl (by decide) rfl rfl (st := []) rfl (Nat.le_of_ble_eq_true rfl) d_Law_321 rfl (fun v1 M2 hv1 => ?_)
  refine oz_aload_n (q := 325) cx d_Law_324 rfl rfl 2 rfl ?_
  refine oz_cVi (q := 328) cx 62 [] 0 8 hRm (by decide) (by decide) (fun _ _ h => c_Model_settle h) ⟨tw_867, tw_868, tw_869, tw_9⟩ tw_870 (by decide +kernel) rfl (by decide) rfl rfl (st := [.int v1]) rfl (Nat.le_of_ble_eq_true rfl) d_Law_325 rfl (fun v3 M4 hv3 => ?_)
  refine oz_icmp_eq (q := 331) cx d_Law_328 rfl rfl (fun h5 => ?_) (fun h5 => ?_)
  · exact oz_lv [0, 1, 2, 3, 4] rfl (oz_leaf (fun h => oz_wide h))
  · refine oz_iconst (q := 332) cx d_Law_331 rfl (v := 0) rfl ?_
    exact oz_none
set_option maxRecDepth 20000 in
set_option maxHeartbeats 2000000 in
theorem w_L4 {G : oz_G} {b0 : Nat} {i p1 p2 p3 : Int32} {M : oz_M} (cx : oz_C G code "OrderHallLaw") (cx1 : oz_C (oz_G1 G) code "OrderHallLaw") (hfl : G.1.2.1.stackTraces = false) (hRm : oz_big G.1.2.2.2.1 10) (hcs : G.2.2.1.1 + 1 ≤ G.1.2.2.2.1.cells ∧ G.2.2.1.2.1 + 6 ≤ G.1.2.2.2.1.slots) (hnL : oz_nL G = 8) (h1 : oz_Scr G b0 (i + 1) p1) (h2 : oz_Scr G b0 (i + 2) p2) (h3 : oz_Scr G b0 (i + 3) p3) : oz_R G 333 [(4, .int i), (3, .ref (oz_b G + 74)), (2, .ref (oz_b G + 62)), (1, .ref (oz_b G + 0)), (0, .ref b0)] [] M (f_L4 p1 p2 p3 M) (fun M1 => oz_Z (oz_G1 G) 1357 [(4, .int i), (3, .ref (oz_b G + 74)), (2, .ref (oz_b G + 62)), (1, .ref (oz_b G + 0)), (0, .ref b0)] [] M1) := by
  unfold f_L4
  refine oz_aload_n (q := 334) cx d_Law_333 rfl rfl 3 rfl ?_
  refine oz_aload_n (q := 335) cx d_Law_334 rfl rfl 4 rfl ?_
  refine oz_iload (q := 337) cx d_Law_335 rfl 0 rfl ?_
  refine oz_iconst (q := 338) cx d_Law_337 rfl (v := 1) rfl ?_
  refine oz_iadd (q := 339) cx d_Law_338 rfl ?_
  refine oz_sld (q := 340) cx h1 d_Law_339 rfl ?_
  refine oz_cVip (q := 343) cx 0 [.int p1] 1 0 hRm (by decide) (by decide) (fun _ h => c_Hall_cycle h) ⟨tw_325, tw_326, tw_327, tw_1⟩ tw_328 (by decide +kernel) rfl (by decide) rfl rfl (st := []) rfl (Nat.le_of_ble_eq_true rfl) d_Law_340 rfl (fun v1 hv1 => ?_)
  refine oz_aload_n (q := 344) cx d_Law_343 rfl rfl 2 rfl ?_
  refine oz_aload_n (q := 345) cx d_Law_344 rfl rfl 4 rfl ?_
  refine oz_iload (q := 347) cx d_Law_345 rfl 0 rfl ?_
  refine oz_iconst (q := 348) cx d_Law_347 rfl (v := 1) rfl ?_
  refine oz_iadd (q := 349) cx d_Law_348 rfl ?_
  refine oz_sld (q := 350) cx h1 d_Law_349 rfl ?_
  refine oz_cVi (q := 353) cx 62 [.int p1] 1 8 hRm (by decide) (by decide) (fun _ _ h => c_Model_cycle h) ⟨tw_891, tw_892, tw_893, tw_9⟩ tw_894 (by decide +kernel) rfl (by decide) rfl rfl (st := [.int v1]) rfl (Nat.le_of_ble_eq_true rfl) d_Law_350 rfl (fun v2 M3 hv2 => ?_)
  refine oz_icmp_eq (q := 356) cx d_Law_353 rfl rfl (fun h4 => ?_) (fun h4 => ?_)
  · exact oz_lv [0, 1, 2, 3, 4] rfl (oz_leaf (fun h => oz_wide h))
  · refine oz_iconst (q := 357) cx d_Law_356 rfl (v := 0) rfl ?_
    exact oz_none
set_option maxRecDepth 20000 in
set_option maxHeartbeats 2000000 in
theorem w_L5 {G : oz_G} {b0 : Nat} {i p1 p2 p3 : Int32} {M : oz_M} (cx : oz_C G code "OrderHallLaw") (cx1 : oz_C (oz_G1 G) code "OrderHallLaw") (hfl : G.1.2.1.stackTraces = false) (hRm : oz_big G.1.2.2.2.1 10) (hcs : G.2.2.1.1 + 1 ≤ G.1.2.2.2.1.cells ∧ G.2.2.1.2.1 + 6 ≤ G.1.2.2.2.1.slots) (hnL : oz_nL G = 8) (h1 : oz_Scr G b0 (i + 1) p1) (h2 : oz_Scr G b0 (i + 2) p2) (h3 : oz_Scr G b0 (i + 3) p3) : oz_R G 358 [(4, .int i), (3, .ref (oz_b G + 74)), (2, .ref (oz_b G + 62)), (1, .ref (oz_b G + 0)), (0, .ref b0)] [] M (f_L5 p1 p2 p3 M) (fun M1 => oz_Z (oz_G1 G) 1357 [(4, .int i), (3, .ref (oz_b G + 74)), (2, .ref (oz_b G + 62)), (1, .ref (oz_b G + 0)), (0, .ref b0)] [] M1) := by
  unfold f_L5
  refine oz_aload_n (q := 359) cx d_Law_358 rfl rfl 3 rfl ?_
  refine oz_aload_n (q := 360) cx d_Law_359 rfl rfl 4 rfl ?_
  refine oz_iload (q := 362) cx d_Law_360 rfl 0 rfl ?_
  refine oz_iconst (q := 363) cx d_Law_362 rfl (v := 1) rfl ?_
  refine oz_iadd (q := 364) cx d_Law_363 rfl ?_
  refine oz_sld (q := 365) cx h1 d_Law_364 rfl ?_
  refine oz_aload_n (q := 366) cx d_Law_365 rfl rfl 4 rfl ?_
  refine oz_iload (q := 368) cx d_Law_366 rfl 0 rfl ?_
  refine oz_iconst (q := 369) cx d_Law_368 rfl (v := 2) rfl ?_
  refine oz_iadd (q := 370) cx d_Law_369 rfl ?_
  refine oz_sld (q := 371) cx h2 d_Law_370 rfl ?_
  refine oz_aload_n (q := 372) cx d_Law_371 rfl rfl 1 rfl ?_
  refine oz_cW (kc := 7) cx [.ref (oz_b G + 0), .int p1, .int p2, .ref (oz_b G + 74)] 4 hRm (by decide) (by decide) hcs (fun _ _ h => c_Law_compare hfl h) ⟨tw_477, tw_478, tw_0⟩ tw_479 (by decide +kernel) rfl (st := []) rfl (Nat.le_of_ble_eq_true rfl) d_Law_372 rfl (fun v1 M2 hv1 => ?_)
  refine oz_istore (q := 377) cx1 d_Law_375 rfl (by rw [hnL]; decide) (lv2 := [(5, .int v1), (4, .int i), (3, .ref (oz_b G + 74)), (2, .ref (oz_b G + 62)), (1, .ref (oz_b G + 0)), (0, .ref b0)]) rfl ?_
  refine oz_aload_n (q := 378) cx1 d_Law_377 rfl rfl 3 rfl ?_
  refine oz_aload_n (q := 379) cx1 d_Law_378 rfl rfl 5 rfl ?_
  refine oz_iload (q := 381) cx1 d_Law_379 rfl 1 rfl ?_
  refine oz_iconst (q := 382) cx1 d_Law_381 rfl (v := 1) rfl ?_
  refine oz_iadd (q := 383) cx1 d_Law_382 rfl ?_
  refine oz_sld (q := 384) cx1 h1 d_Law_383 rfl ?_
  refine oz_aload_n (q := 385) cx1 d_Law_384 rfl rfl 5 rfl ?_
  refine oz_iload (q := 387) cx1 d_Law_385 rfl 1 rfl ?_
  refine oz_iconst (q := 388) cx1 d_Law_387 rfl (v := 2) rfl ?_
  refine oz_iadd (q := 389) cx1 d_Law_388 rfl ?_
  refine oz_sld (q := 390) cx1 h2 d_Law_389 rfl ?_
  refine oz_cVi (q := 393) cx1 62 [.int p1, .int p2] 2 8 hRm (by decide) (by decide) (fun _ _ h => c_Model_compare h) ⟨tw_895, tw_896, tw_897, tw_9⟩ tw_898 (by decide +kernel) rfl (by decide) rfl rfl (st := []) rfl (Nat.le_of_ble_eq_true rfl) d_Law_390 rfl (fun v3 M4 hv3 => ?_)
  refine oz_istore (q := 395) cx1 d_Law_393 rfl (by rw [hnL]; decide) (lv2 := [(6, .int v3), (5, .int v1), (4, .int i), (3, .ref (oz_b G + 74)), (2, .ref (oz_b G + 62)), (1, .ref (oz_b G + 0)), (0, .ref b0)]) rfl ?_
  refine oz_aload_n (q := 396) cx1 d_Law_395 rfl rfl 4 rfl ?_
  refine oz_cVip (q := 399) cx1 62 [] 0 8 hRm (by decide) (by decide) (fun _ h => c_Model_thrown h) ⟨tw_839, tw_840, tw_841, tw_9⟩ tw_842 (by decide +kernel) rfl (by decide) rfl rfl (st := []) rfl (Nat.le_of_ble_eq_true rfl) d_Law_396 rfl (fun v5 hv5 => ?_)
  refine oz_iload (q := 401) cx1 d_Law_399 rfl 1 rfl ?_
  refine oz_icmp_eq (q := 404) cx1 d_Law_401 rfl rfl (fun h9 => ?_) (fun h9 => ?_)
  · refine oz_iload (q := 408) cx1 d_Law_406 rfl 1 rfl ?_
    refine oz_if_ne (q := 411) cx1 d_Law_408 rfl rfl (fun h8 => ?_) (fun h8 => ?_)
    · refine oz_goto cx1 d_Law_423 rfl ?_
      exact oz_lv [2, 3, 4, 5, 6] rfl (oz_leaf (fun h => h))
    · refine oz_aload_n (q := 412) cx1 d_Law_411 rfl rfl 3 rfl ?_
      refine oz_iconst (q := 413) cx1 d_Law_412 rfl (v := 0) rfl ?_
      refine oz_lald (q := 414) cx1 74 1 (by decide) rfl d_Law_413 rfl (fun j6 hj6 => ?_)
      refine oz_iload (q := 416) cx1 d_Law_414 rfl 0 rfl ?_
      refine oz_i2l (q := 417) cx1 d_Law_416 rfl ?_
      refine oz_lcmp (q := 418) cx1 d_Law_417 rfl ?_
      refine oz_if_eq (q := 421) cx1 d_Law_418 rfl rfl (fun h7 => ?_) (fun h7 => ?_)
      · refine oz_goto cx1 d_Law_423 rfl ?_
        exact oz_lv [2, 3, 4, 5, 6] rfl (oz_leaf (fun h => h))
      · refine oz_iconst (q := 422) cx1 d_Law_421 rfl (v := 0) rfl ?_
        exact oz_none
  · refine oz_iconst (q := 405) cx1 d_Law_404 rfl (v := 0) rfl ?_
    exact oz_none
set_option maxRecDepth 20000 in
set_option maxHeartbeats 2000000 in
theorem w_L6 {G : oz_G} {b0 : Nat} {i p1 p2 p3 : Int32} {M : oz_M} (cx : oz_C G code "OrderHallLaw") (cx1 : oz_C (oz_G1 G) code "OrderHallLaw") (hfl : G.1.2.1.stackTraces = false) (hRm : oz_big G.1.2.2.2.1 10) (hcs : G.2.2.1.1 + 1 ≤ G.1.2.2.2.1.cells ∧ G.2.2.1.2.1 + 6 ≤ G.1.2.2.2.1.slots) (hnL : oz_nL G = 8) (h1 : oz_Scr G b0 (i + 1) p1) (h2 : oz_Scr G b0 (i + 2) p2) (h3 : oz_Scr G b0 (i + 3) p3) : oz_R G 426 [(4, .int i), (3, .ref (oz_b G + 74)), (2, .ref (oz_b G + 62)), (1, .ref (oz_b G + 0)), (0, .ref b0)] [] M (f_L6 p1 p2 p3 M) (fun M1 => oz_Z (oz_G1 G) 1357 [(4, .int i), (3, .ref (oz_b G + 74)), (2, .ref (oz_b G + 62)), (1, .ref (oz_b G + 0)), (0, .ref b0)] [] M1) := by
  unfold f_L6
  refine oz_aload_n (q := 427) cx d_Law_426 rfl rfl 3 rfl ?_
  refine oz_aload_n (q := 428) cx d_Law_427 rfl rfl 4 rfl ?_
  refine oz_iload (q := 430) cx d_Law_428 rfl 0 rfl ?_
  refine oz_iconst (q := 431) cx d_Law_430 rfl (v := 1) rfl ?_
  refine oz_iadd (q := 432) cx d_Law_431 rfl ?_
  refine oz_sld (q := 433) cx h1 d_Law_432 rfl ?_
  refine oz_aload_n (q := 434) cx d_Law_433 rfl rfl 4 rfl ?_
  refine oz_iload (q := 436) cx d_Law_434 rfl 0 rfl ?_
  refine oz_iconst (q := 437) cx d_Law_436 rfl (v := 2) rfl ?_
  refine oz_iadd (q := 438) cx d_Law_437 rfl ?_
  refine oz_sld (q := 439) cx h2 d_Law_438 rfl ?_
  refine oz_aload_n (q := 440) cx d_Law_439 rfl rfl 1 rfl ?_
  refine oz_cW (kc := 7) cx [.ref (oz_b G + 0), .int p1, .int p2, .ref (oz_b G + 74)] 4 hRm (by decide) (by decide) hcs (fun _ _ h => c_Law_set hfl h) ⟨tw_506, tw_507, tw_0⟩ tw_508 (by decide +kernel) rfl (st := []) rfl (Nat.le_of_ble_eq_true rfl) d_Law_440 rfl (fun v1 M2 hv1 => ?_)
  refine oz_istore (q := 445) cx1 d_Law_443 rfl (by rw [hnL]; decide) (lv2 := [(5, .int v1), (4, .int i), (3, .ref (oz_b G + 74)), (2, .ref (oz_b G + 62)), (1, .ref (oz_b G + 0)), (0, .ref b0)]) rfl ?_
  refine oz_aload_n (q := 446) cx1 d_Law_445 rfl rfl 3 rfl ?_
  refine oz_aload_n (q := 447) cx1 d_Law_446 rfl rfl 5 rfl ?_
  refine oz_iload (q := 449) cx1 d_Law_447 rfl 1 rfl ?_
  refine oz_iconst (q := 450) cx1 d_Law_449 rfl (v := 1) rfl ?_
  refine oz_iadd (q := 451) cx1 d_Law_450 rfl ?_
  refine oz_sld (q := 452) cx1 h1 d_Law_451 rfl ?_
  refine oz_aload_n (q := 453) cx1 d_Law_452 rfl rfl 5 rfl ?_
  refine oz_iload (q := 455) cx1 d_Law_453 rfl 1 rfl ?_
  refine oz_iconst (q := 456) cx1 d_Law_455 rfl (v := 2) rfl ?_
  refine oz_iadd (q := 457) cx1 d_Law_456 rfl ?_
  refine oz_sld (q := 458) cx1 h2 d_Law_457 rfl ?_
  refine oz_cVi (q := 461) cx1 62 [.int p1, .int p2] 2 8 hRm (by decide) (by decide) (fun _ _ h => c_Model_set h) ⟨tw_899, tw_900, tw_901, tw_9⟩ tw_902 (by decide +kernel) rfl (by decide) rfl rfl (st := []) rfl (Nat.le_of_ble_eq_true rfl) d_Law_458 rfl (fun v3 M4 hv3 => ?_)
  refine oz_istore (q := 463) cx1 d_Law_461 rfl (by rw [hnL]; decide) (lv2 := [(6, .int v3), (5, .int v1), (4, .int i), (3, .ref (oz_b G + 74)), (2, .ref (oz_b G + 62)), (1, .ref (oz_b G + 0)), (0, .ref b0)]) rfl ?_
  refine oz_aload_n (q := 464) cx1 d_Law_463 rfl rfl 4 rfl ?_
  refine oz_cVip (q := 467) cx1 62 [] 0 8 hRm (by decide) (by decide) (fun _ h => c_Model_thrown h) ⟨tw_839, tw_840, tw_841, tw_9⟩ tw_842 (by decide +kernel) rfl (by decide) rfl rfl (st := []) rfl (Nat.le_of_ble_eq_true rfl) d_Law_464 rfl (fun v5 hv5 => ?_)
  refine oz_iload (q := 469) cx1 d_Law_467 rfl 1 rfl ?_
  refine oz_icmp_eq (q := 472) cx1 d_Law_469 rfl rfl (fun h9 => ?_) (fun h9 => ?_)
  · refine oz_iload (q := 476) cx1 d_Law_474 rfl 1 rfl ?_
    refine oz_if_ne (q := 479) cx1 d_Law_476 rfl rfl (fun h8 => ?_) (fun h8 => ?_)
    · refine oz_goto cx1 d_Law_491 rfl ?_
      exact oz_lv [2, 3, 4, 5, 6] rfl (oz_leaf (fun h => h))
    · refine oz_aload_n (q := 480) cx1 d_Law_479 rfl rfl 3 rfl ?_
      refine oz_iconst (q := 481) cx1 d_Law_480 rfl (v := 0) rfl ?_
      refine oz_lald (q := 482) cx1 74 1 (by decide) rfl d_Law_481 rfl (fun j6 hj6 => ?_)
      refine oz_iload (q := 484) cx1 d_Law_482 rfl 0 rfl ?_
      refine oz_i2l (q := 485) cx1 d_Law_484 rfl ?_
      refine oz_lcmp (q := 486) cx1 d_Law_485 rfl ?_
      refine oz_if_eq (q := 489) cx1 d_Law_486 rfl rfl (fun h7 => ?_) (fun h7 => ?_)
      · refine oz_goto cx1 d_Law_491 rfl ?_
        exact oz_lv [2, 3, 4, 5, 6] rfl (oz_leaf (fun h => h))
      · refine oz_iconst (q := 490) cx1 d_Law_489 rfl (v := 0) rfl ?_
        exact oz_none
  · refine oz_iconst (q := 473) cx1 d_Law_472 rfl (v := 0) rfl ?_
    exact oz_none
set_option maxRecDepth 20000 in
set_option maxHeartbeats 2000000 in
theorem w_L7 {G : oz_G} {b0 : Nat} {i p1 p2 p3 : Int32} {M : oz_M} (cx : oz_C G code "OrderHallLaw") (cx1 : oz_C (oz_G1 G) code "OrderHallLaw") (hfl : G.1.2.1.stackTraces = false) (hRm : oz_big G.1.2.2.2.1 10) (hcs : G.2.2.1.1 + 1 ≤ G.1.2.2.2.1.cells ∧ G.2.2.1.2.1 + 6 ≤ G.1.2.2.2.1.slots) (hnL : oz_nL G = 8) (h1 : oz_Scr G b0 (i + 1) p1) (h2 : oz_Scr G b0 (i + 2) p2) (h3 : oz_Scr G b0 (i + 3) p3) : oz_R G 494 [(4, .int i), (3, .ref (oz_b G + 74)), (2, .ref (oz_b G + 62)), (1, .ref (oz_b G + 0)), (0, .ref b0)] [] M (f_L7 p1 p2 p3 M) (fun M1 => oz_Z (oz_G1 G) 1357 [(4, .int i), (3, .ref (oz_b G + 74)), (2, .ref (oz_b G + 62)), (1, .ref (oz_b G + 0)), (0, .ref b0)] [] M1) := by
  unfold f_L7
  refine oz_aload_n (q := 495) cx d_Law_494 rfl rfl 3 rfl ?_
  refine oz_aload_n (q := 496) cx d_Law_495 rfl rfl 4 rfl ?_
  refine oz_iload (q := 498) cx d_Law_496 rfl 0 rfl ?_
  refine oz_iconst (q := 499) cx d_Law_498 rfl (v := 1) rfl ?_
  refine oz_iadd (q := 500) cx d_Law_499 rfl ?_
  refine oz_sld (q := 501) cx h1 d_Law_500 rfl ?_
  refine oz_aload_n (q := 502) cx d_Law_501 rfl rfl 4 rfl ?_
  refine oz_iload (q := 504) cx d_Law_502 rfl 0 rfl ?_
  refine oz_iconst (q := 505) cx d_Law_504 rfl (v := 2) rfl ?_
  refine oz_iadd (q := 506) cx d_Law_505 rfl ?_
  refine oz_sld (q := 507) cx h2 d_Law_506 rfl ?_
  refine oz_aload_n (q := 508) cx d_Law_507 rfl rfl 1 rfl ?_
  refine oz_cW (kc := 7) cx [.ref (oz_b G + 0), .int p1, .int p2, .ref (oz_b G + 74)] 4 hRm (by decide) (by decide) hcs (fun _ _ h => c_Law_level hfl h) ⟨tw_521, tw_522, tw_0⟩ tw_523 (by decide +kernel) rfl (st := []) rfl (Nat.le_of_ble_eq_true rfl) d_Law_508 rfl (fun v1 M2 hv1 => ?_)
  refine oz_istore (q := 513) cx1 d_Law_511 rfl (by rw [hnL]; decide) (lv2 := [(5, .int v1), (4, .int i), (3, .ref (oz_b G + 74)), (2, .ref (oz_b G + 62)), (1, .ref (oz_b G + 0)), (0, .ref b0)]) rfl ?_
  refine oz_aload_n (q := 514) cx1 d_Law_513 rfl rfl 3 rfl ?_
  refine oz_aload_n (q := 515) cx1 d_Law_514 rfl rfl 5 rfl ?_
  refine oz_iload (q := 517) cx1 d_Law_515 rfl 1 rfl ?_
  refine oz_iconst (q := 518) cx1 d_Law_517 rfl (v := 1) rfl ?_
  refine oz_iadd (q := 519) cx1 d_Law_518 rfl ?_
  refine oz_sld (q := 520) cx1 h1 d_Law_519 rfl ?_
  refine oz_aload_n (q := 521) cx1 d_Law_520 rfl rfl 5 rfl ?_
  refine oz_iload (q := 523) cx1 d_Law_521 rfl 1 rfl ?_
  refine oz_iconst (q := 524) cx1 d_Law_523 rfl (v := 2) rfl ?_
  refine oz_iadd (q := 525) cx1 d_Law_524 rfl ?_
  refine oz_sld (q := 526) cx1 h2 d_Law_525 rfl ?_
  refine oz_cVi (q := 529) cx1 62 [.int p1, .int p2] 2 8 hRm (by decide) (by decide) (fun _ _ h => c_Model_level h) ⟨tw_911, tw_912, tw_913, tw_9⟩ tw_914 (by decide +kernel) rfl (by decide) rfl rfl (st := []) rfl (Nat.le_of_ble_eq_true rfl) d_Law_526 rfl (fun v3 M4 hv3 => ?_)
  refine oz_istore (q := 531) cx1 d_Law_529 rfl (by rw [hnL]; decide) (lv2 := [(6, .int v3), (5, .int v1), (4, .int i), (3, .ref (oz_b G + 74)), (2, .ref (oz_b G + 62)), (1, .ref (oz_b G + 0)), (0, .ref b0)]) rfl ?_
  refine oz_aload_n (q := 532) cx1 d_Law_531 rfl rfl 4 rfl ?_
  refine oz_cVip (q := 535) cx1 62 [] 0 8 hRm (by decide) (by decide) (fun _ h => c_Model_thrown h) ⟨tw_839, tw_840, tw_841, tw_9⟩ tw_842 (by decide +kernel) rfl (by decide) rfl rfl (st := []) rfl (Nat.le_of_ble_eq_true rfl) d_Law_532 rfl (fun v5 hv5 => ?_)
  refine oz_iload (q := 537) cx1 d_Law_535 rfl 1 rfl ?_
  refine oz_icmp_eq (q := 540) cx1 d_Law_537 rfl rfl (fun h9 => ?_) (fun h9 => ?_)
  · refine oz_iload (q := 544) cx1 d_Law_542 rfl 1 rfl ?_
    refine oz_if_ne (q := 547) cx1 d_Law_544 rfl rfl (fun h8 => ?_) (fun h8 => ?_)
    · refine oz_goto cx1 d_Law_559 rfl ?_
      exact oz_lv [2, 3, 4, 5, 6] rfl (oz_leaf (fun h => h))
    · refine oz_aload_n (q := 548) cx1 d_Law_547 rfl rfl 3 rfl ?_
      refine oz_iconst (q := 549) cx1 d_Law_548 rfl (v := 0) rfl ?_
      refine oz_lald (q := 550) cx1 74 1 (by decide) rfl d_Law_549 rfl (fun j6 hj6 => ?_)
      refine oz_iload (q := 552) cx1 d_Law_550 rfl 0 rfl ?_
      refine oz_i2l (q := 553) cx1 d_Law_552 rfl ?_
      refine oz_lcmp (q := 554) cx1 d_Law_553 rfl ?_
      refine oz_if_eq (q := 557) cx1 d_Law_554 rfl rfl (fun h7 => ?_) (fun h7 => ?_)
      · refine oz_goto cx1 d_Law_559 rfl ?_
        exact oz_lv [2, 3, 4, 5, 6] rfl (oz_leaf (fun h => h))
      · refine oz_iconst (q := 558) cx1 d_Law_557 rfl (v := 0) rfl ?_
        exact oz_none
  · refine oz_iconst (q := 541) cx1 d_Law_540 rfl (v := 0) rfl ?_
    exact oz_none
set_option maxRecDepth 20000 in
set_option maxHeartbeats 2000000 in
theorem w_L8 {G : oz_G} {b0 : Nat} {i p1 p2 p3 : Int32} {M : oz_M} (cx : oz_C G code "OrderHallLaw") (cx1 : oz_C (oz_G1 G) code "OrderHallLaw") (hfl : G.1.2.1.stackTraces = false) (hRm : oz_big G.1.2.2.2.1 10) (hcs : G.2.2.1.1 + 1 ≤ G.1.2.2.2.1.cells ∧ G.2.2.1.2.1 + 6 ≤ G.1.2.2.2.1.slots) (hnL : oz_nL G = 8) (h1 : oz_Scr G b0 (i + 1) p1) (h2 : oz_Scr G b0 (i + 2) p2) (h3 : oz_Scr G b0 (i + 3) p3) : oz_R G 562 [(4, .int i), (3, .ref (oz_b G + 74)), (2, .ref (oz_b G + 62)), (1, .ref (oz_b G + 0)), (0, .ref b0)] [] M (f_L8 p1 p2 p3 M) (fun M1 => oz_Z (oz_G1 G) 1357 [(4, .int i), (3, .ref (oz_b G + 74)), (2, .ref (oz_b G + 62)), (1, .ref (oz_b G + 0)), (0, .ref b0)] [] M1) := by
  unfold f_L8
  refine oz_aload_n (q := 563) cx d_Law_562 rfl rfl 3 rfl ?_
  refine oz_aload_n (q := 564) cx d_Law_563 rfl rfl 4 rfl ?_
  refine oz_iload (q := 566) cx d_Law_564 rfl 0 rfl ?_
  refine oz_iconst (q := 567) cx d_Law_566 rfl (v := 1) rfl ?_
  refine oz_iadd (q := 568) cx d_Law_567 rfl ?_
  refine oz_sld (q := 569) cx h1 d_Law_568 rfl ?_
  refine oz_aload_n (q := 570) cx d_Law_569 rfl rfl 1 rfl ?_
  refine oz_cW (kc := 7) cx [.ref (oz_b G + 0), .int p1, .ref (oz_b G + 74)] 3 hRm (by decide) (by decide) hcs (fun _ _ h => c_Law_count hfl h) ⟨tw_528, tw_529, tw_0⟩ tw_530 (by decide +kernel) rfl (st := []) rfl (Nat.le_of_ble_eq_true rfl) d_Law_570 rfl (fun v1 M2 hv1 => ?_)
  refine oz_istore (q := 575) cx1 d_Law_573 rfl (by rw [hnL]; decide) (lv2 := [(5, .int v1), (4, .int i), (3, .ref (oz_b G + 74)), (2, .ref (oz_b G + 62)), (1, .ref (oz_b G + 0)), (0, .ref b0)]) rfl ?_
  refine oz_aload_n (q := 576) cx1 d_Law_575 rfl rfl 3 rfl ?_
  refine oz_aload_n (q := 577) cx1 d_Law_576 rfl rfl 5 rfl ?_
  refine oz_iload (q := 579) cx1 d_Law_577 rfl 1 rfl ?_
  refine oz_iconst (q := 580) cx1 d_Law_579 rfl (v := 1) rfl ?_
  refine oz_iadd (q := 581) cx1 d_Law_580 rfl ?_
  refine oz_sld (q := 582) cx1 h1 d_Law_581 rfl ?_
  refine oz_cVi (q := 585) cx1 62 [.int p1] 1 8 hRm (by decide) (by decide) (fun _ _ h => c_Model_count h) ⟨tw_937, tw_938, tw_939, tw_9⟩ tw_940 (by decide +kernel) rfl (by decide) rfl rfl (st := []) rfl (Nat.le_of_ble_eq_true rfl) d_Law_582 rfl (fun v3 M4 hv3 => ?_)
  refine oz_istore (q := 587) cx1 d_Law_585 rfl (by rw [hnL]; decide) (lv2 := [(6, .int v3), (5, .int v1), (4, .int i), (3, .ref (oz_b G + 74)), (2, .ref (oz_b G + 62)), (1, .ref (oz_b G + 0)), (0, .ref b0)]) rfl ?_
  refine oz_aload_n (q := 588) cx1 d_Law_587 rfl rfl 4 rfl ?_
  refine oz_cVip (q := 591) cx1 62 [] 0 8 hRm (by decide) (by decide) (fun _ h => c_Model_thrown h) ⟨tw_839, tw_840, tw_841, tw_9⟩ tw_842 (by decide +kernel) rfl (by decide) rfl rfl (st := []) rfl (Nat.le_of_ble_eq_true rfl) d_Law_588 rfl (fun v5 hv5 => ?_)
  refine oz_iload (q := 593) cx1 d_Law_591 rfl 1 rfl ?_
  refine oz_icmp_eq (q := 596) cx1 d_Law_593 rfl rfl (fun h9 => ?_) (fun h9 => ?_)
  · refine oz_iload (q := 600) cx1 d_Law_598 rfl 1 rfl ?_
    refine oz_if_ne (q := 603) cx1 d_Law_600 rfl rfl (fun h8 => ?_) (fun h8 => ?_)
    · refine oz_goto cx1 d_Law_615 rfl ?_
      exact oz_lv [2, 3, 4, 5, 6] rfl (oz_leaf (fun h => h))
    · refine oz_aload_n (q := 604) cx1 d_Law_603 rfl rfl 3 rfl ?_
      refine oz_iconst (q := 605) cx1 d_Law_604 rfl (v := 0) rfl ?_
      refine oz_lald (q := 606) cx1 74 1 (by decide) rfl d_Law_605 rfl (fun j6 hj6 => ?_)
      refine oz_iload (q := 608) cx1 d_Law_606 rfl 0 rfl ?_
      refine oz_i2l (q := 609) cx1 d_Law_608 rfl ?_
      refine oz_lcmp (q := 610) cx1 d_Law_609 rfl ?_
      refine oz_if_eq (q := 613) cx1 d_Law_610 rfl rfl (fun h7 => ?_) (fun h7 => ?_)
      · refine oz_goto cx1 d_Law_615 rfl ?_
        exact oz_lv [2, 3, 4, 5, 6] rfl (oz_leaf (fun h => h))
      · refine oz_iconst (q := 614) cx1 d_Law_613 rfl (v := 0) rfl ?_
        exact oz_none
  · refine oz_iconst (q := 597) cx1 d_Law_596 rfl (v := 0) rfl ?_
    exact oz_none
set_option maxRecDepth 20000 in
set_option maxHeartbeats 2000000 in
theorem w_L9 {G : oz_G} {b0 : Nat} {i p1 p2 p3 : Int32} {M : oz_M} (cx : oz_C G code "OrderHallLaw") (cx1 : oz_C (oz_G1 G) code "OrderHallLaw") (hfl : G.1.2.1.stackTraces = false) (hRm : oz_big G.1.2.2.2.1 10) (hcs : G.2.2.1.1 + 1 ≤ G.1.2.2.2.1.cells ∧ G.2.2.1.2.1 + 6 ≤ G.1.2.2.2.1.slots) (hnL : oz_nL G = 8) (h1 : oz_Scr G b0 (i + 1) p1) (h2 : oz_Scr G b0 (i + 2) p2) (h3 : oz_Scr G b0 (i + 3) p3) : oz_R G 618 [(4, .int i), (3, .ref (oz_b G + 74)), (2, .ref (oz_b G + 62)), (1, .ref (oz_b G + 0)), (0, .ref b0)] [] M (f_L9 p1 p2 p3 M) (fun M1 => oz_Z (oz_G1 G) 1357 [(4, .int i), (3, .ref (oz_b G + 74)), (2, .ref (oz_b G + 62)), (1, .ref (oz_b G + 0)), (0, .ref b0)] [] M1) := by
  unfold f_L9
  refine oz_aload_n (q := 619) cx d_Law_618 rfl rfl 3 rfl ?_
  refine oz_aload_n (q := 620) cx d_Law_619 rfl rfl 4 rfl ?_
  refine oz_iload (q := 622) cx d_Law_620 rfl 0 rfl ?_
  refine oz_iconst (q := 623) cx d_Law_622 rfl (v := 1) rfl ?_
  refine oz_iadd (q := 624) cx d_Law_623 rfl ?_
  refine oz_sld (q := 625) cx h1 d_Law_624 rfl ?_
  refine oz_aload_n (q := 626) cx d_Law_625 rfl rfl 1 rfl ?_
  refine oz_cW (kc := 7) cx [.ref (oz_b G + 0), .int p1, .ref (oz_b G + 74)] 3 hRm (by decide) (by decide) hcs (fun _ _ h => c_Law_antichain hfl h) ⟨tw_575, tw_576, tw_0⟩ tw_577 (by decide +kernel) rfl (st := []) rfl (Nat.le_of_ble_eq_true rfl) d_Law_626 rfl (fun v1 M2 hv1 => ?_)
  refine oz_istore (q := 631) cx1 d_Law_629 rfl (by rw [hnL]; decide) (lv2 := [(5, .int v1), (4, .int i), (3, .ref (oz_b G + 74)), (2, .ref (oz_b G + 62)), (1, .ref (oz_b G + 0)), (0, .ref b0)]) rfl ?_
  refine oz_aload_n (q := 632) cx1 d_Law_631 rfl rfl 3 rfl ?_
  refine oz_aload_n (q := 633) cx1 d_Law_632 rfl rfl 5 rfl ?_
  refine oz_iload (q := 635) cx1 d_Law_633 rfl 1 rfl ?_
  refine oz_iconst (q := 636) cx1 d_Law_635 rfl (v := 1) rfl ?_
  refine oz_iadd (q := 637) cx1 d_Law_636 rfl ?_
  refine oz_sld (q := 638) cx1 h1 d_Law_637 rfl ?_
  refine oz_cVi (q := 641) cx1 62 [.int p1] 1 8 hRm (by decide) (by decide) (fun _ _ h => c_Model_antichain h) ⟨tw_945, tw_946, tw_947, tw_9⟩ tw_948 (by decide +kernel) rfl (by decide) rfl rfl (st := []) rfl (Nat.le_of_ble_eq_true rfl) d_Law_638 rfl (fun v3 M4 hv3 => ?_)
  refine oz_istore (q := 643) cx1 d_Law_641 rfl (by rw [hnL]; decide) (lv2 := [(6, .int v3), (5, .int v1), (4, .int i), (3, .ref (oz_b G + 74)), (2, .ref (oz_b G + 62)), (1, .ref (oz_b G + 0)), (0, .ref b0)]) rfl ?_
  refine oz_aload_n (q := 644) cx1 d_Law_643 rfl rfl 4 rfl ?_
  refine oz_cVip (q := 647) cx1 62 [] 0 8 hRm (by decide) (by decide) (fun _ h => c_Model_thrown h) ⟨tw_839, tw_840, tw_841, tw_9⟩ tw_842 (by decide +kernel) rfl (by decide) rfl rfl (st := []) rfl (Nat.le_of_ble_eq_true rfl) d_Law_644 rfl (fun v5 hv5 => ?_)
  refine oz_iload (q := 649) cx1 d_Law_647 rfl 1 rfl ?_
  refine oz_icmp_eq (q := 652) cx1 d_Law_649 rfl rfl (fun h9 => ?_) (fun h9 => ?_)
  · refine oz_iload (q := 656) cx1 d_Law_654 rfl 1 rfl ?_
    refine oz_if_ne (q := 659) cx1 d_Law_656 rfl rfl (fun h8 => ?_) (fun h8 => ?_)
    · refine oz_goto cx1 d_Law_671 rfl ?_
      exact oz_lv [2, 3, 4, 5, 6] rfl (oz_leaf (fun h => h))
    · refine oz_aload_n (q := 660) cx1 d_Law_659 rfl rfl 3 rfl ?_
      refine oz_iconst (q := 661) cx1 d_Law_660 rfl (v := 0) rfl ?_
      refine oz_lald (q := 662) cx1 74 1 (by decide) rfl d_Law_661 rfl (fun j6 hj6 => ?_)
      refine oz_iload (q := 664) cx1 d_Law_662 rfl 0 rfl ?_
      refine oz_i2l (q := 665) cx1 d_Law_664 rfl ?_
      refine oz_lcmp (q := 666) cx1 d_Law_665 rfl ?_
      refine oz_if_eq (q := 669) cx1 d_Law_666 rfl rfl (fun h7 => ?_) (fun h7 => ?_)
      · refine oz_goto cx1 d_Law_671 rfl ?_
        exact oz_lv [2, 3, 4, 5, 6] rfl (oz_leaf (fun h => h))
      · refine oz_iconst (q := 670) cx1 d_Law_669 rfl (v := 0) rfl ?_
        exact oz_none
  · refine oz_iconst (q := 653) cx1 d_Law_652 rfl (v := 0) rfl ?_
    exact oz_none
set_option maxRecDepth 20000 in
set_option maxHeartbeats 2000000 in
theorem w_L10 {G : oz_G} {b0 : Nat} {i p1 p2 p3 : Int32} {M : oz_M} (cx : oz_C G code "OrderHallLaw") (cx1 : oz_C (oz_G1 G) code "OrderHallLaw") (hfl : G.1.2.1.stackTraces = false) (hRm : oz_big G.1.2.2.2.1 10) (hcs : G.2.2.1.1 + 1 ≤ G.1.2.2.2.1.cells ∧ G.2.2.1.2.1 + 6 ≤ G.1.2.2.2.1.slots) (hnL : oz_nL G = 8) (h1 : oz_Scr G b0 (i + 1) p1) (h2 : oz_Scr G b0 (i + 2) p2) (h3 : oz_Scr G b0 (i + 3) p3) : oz_R G 674 [(4, .int i), (3, .ref (oz_b G + 74)), (2, .ref (oz_b G + 62)), (1, .ref (oz_b G + 0)), (0, .ref b0)] [] M (f_L10 p1 p2 p3 M) (fun M1 => oz_Z (oz_G1 G) 1357 [(4, .int i), (3, .ref (oz_b G + 74)), (2, .ref (oz_b G + 62)), (1, .ref (oz_b G + 0)), (0, .ref b0)] [] M1) := by
  unfold f_L10
  refine oz_aload_n (q := 675) cx d_Law_674 rfl rfl 3 rfl ?_
  refine oz_aload_n (q := 676) cx d_Law_675 rfl rfl 4 rfl ?_
  refine oz_iload (q := 678) cx d_Law_676 rfl 0 rfl ?_
  refine oz_iconst (q := 679) cx d_Law_678 rfl (v := 1) rfl ?_
  refine oz_iadd (q := 680) cx d_Law_679 rfl ?_
  refine oz_sld (q := 681) cx h1 d_Law_680 rfl ?_
  refine oz_aload_n (q := 682) cx d_Law_681 rfl rfl 4 rfl ?_
  refine oz_iload (q := 684) cx d_Law_682 rfl 0 rfl ?_
  refine oz_iconst (q := 685) cx d_Law_684 rfl (v := 2) rfl ?_
  refine oz_iadd (q := 686) cx d_Law_685 rfl ?_
  refine oz_sld (q := 687) cx h2 d_Law_686 rfl ?_
  refine oz_aload_n (q := 688) cx d_Law_687 rfl rfl 1 rfl ?_
  refine oz_cW (kc := 7) cx [.ref (oz_b G + 0), .int p1, .int p2, .ref (oz_b G + 74)] 4 hRm (by decide) (by decide) hcs (fun _ _ h => c_Law_most hfl h) ⟨tw_582, tw_583, tw_0⟩ tw_584 (by decide +kernel) rfl (st := []) rfl (Nat.le_of_ble_eq_true rfl) d_Law_688 rfl (fun v1 M2 hv1 => ?_)
  refine oz_istore (q := 693) cx1 d_Law_691 rfl (by rw [hnL]; decide) (lv2 := [(5, .int v1), (4, .int i), (3, .ref (oz_b G + 74)), (2, .ref (oz_b G + 62)), (1, .ref (oz_b G + 0)), (0, .ref b0)]) rfl ?_
  refine oz_aload_n (q := 694) cx1 d_Law_693 rfl rfl 3 rfl ?_
  refine oz_aload_n (q := 695) cx1 d_Law_694 rfl rfl 5 rfl ?_
  refine oz_iload (q := 697) cx1 d_Law_695 rfl 1 rfl ?_
  refine oz_iconst (q := 698) cx1 d_Law_697 rfl (v := 1) rfl ?_
  refine oz_iadd (q := 699) cx1 d_Law_698 rfl ?_
  refine oz_sld (q := 700) cx1 h1 d_Law_699 rfl ?_
  refine oz_aload_n (q := 701) cx1 d_Law_700 rfl rfl 5 rfl ?_
  refine oz_iload (q := 703) cx1 d_Law_701 rfl 1 rfl ?_
  refine oz_iconst (q := 704) cx1 d_Law_703 rfl (v := 2) rfl ?_
  refine oz_iadd (q := 705) cx1 d_Law_704 rfl ?_
  refine oz_sld (q := 706) cx1 h2 d_Law_705 rfl ?_
  refine oz_cVi (q := 709) cx1 62 [.int p1, .int p2] 2 8 hRm (by decide) (by decide) (fun _ _ h => c_Model_most h) ⟨tw_953, tw_954, tw_955, tw_9⟩ tw_956 (by decide +kernel) rfl (by decide) rfl rfl (st := []) rfl (Nat.le_of_ble_eq_true rfl) d_Law_706 rfl (fun v3 M4 hv3 => ?_)
  refine oz_istore (q := 711) cx1 d_Law_709 rfl (by rw [hnL]; decide) (lv2 := [(6, .int v3), (5, .int v1), (4, .int i), (3, .ref (oz_b G + 74)), (2, .ref (oz_b G + 62)), (1, .ref (oz_b G + 0)), (0, .ref b0)]) rfl ?_
  refine oz_aload_n (q := 712) cx1 d_Law_711 rfl rfl 4 rfl ?_
  refine oz_cVip (q := 715) cx1 62 [] 0 8 hRm (by decide) (by decide) (fun _ h => c_Model_thrown h) ⟨tw_839, tw_840, tw_841, tw_9⟩ tw_842 (by decide +kernel) rfl (by decide) rfl rfl (st := []) rfl (Nat.le_of_ble_eq_true rfl) d_Law_712 rfl (fun v5 hv5 => ?_)
  refine oz_iload (q := 717) cx1 d_Law_715 rfl 1 rfl ?_
  refine oz_icmp_eq (q := 720) cx1 d_Law_717 rfl rfl (fun h9 => ?_) (fun h9 => ?_)
  · refine oz_iload (q := 724) cx1 d_Law_722 rfl 1 rfl ?_
    refine oz_if_ne (q := 727) cx1 d_Law_724 rfl rfl (fun h8 => ?_) (fun h8 => ?_)
    · refine oz_goto cx1 d_Law_739 rfl ?_
      exact oz_lv [2, 3, 4, 5, 6] rfl (oz_leaf (fun h => h))
    · refine oz_aload_n (q := 728) cx1 d_Law_727 rfl rfl 3 rfl ?_
      refine oz_iconst (q := 729) cx1 d_Law_728 rfl (v := 0) rfl ?_
      refine oz_lald (q := 730) cx1 74 1 (by decide) rfl d_Law_729 rfl (fun j6 hj6 => ?_)
      refine oz_iload (q := 732) cx1 d_Law_730 rfl 0 rfl ?_
      refine oz_i2l (q := 733) cx1 d_Law_732 rfl ?_
      refine oz_lcmp (q := 734) cx1 d_Law_733 rfl ?_
      refine oz_if_eq (q := 737) cx1 d_Law_734 rfl rfl (fun h7 => ?_) (fun h7 => ?_)
      · refine oz_goto cx1 d_Law_739 rfl ?_
        exact oz_lv [2, 3, 4, 5, 6] rfl (oz_leaf (fun h => h))
      · refine oz_iconst (q := 738) cx1 d_Law_737 rfl (v := 0) rfl ?_
        exact oz_none
  · refine oz_iconst (q := 721) cx1 d_Law_720 rfl (v := 0) rfl ?_
    exact oz_none
set_option maxRecDepth 20000 in
set_option maxHeartbeats 2000000 in
theorem w_L11 {G : oz_G} {b0 : Nat} {i p1 p2 p3 : Int32} {M : oz_M} (cx : oz_C G code "OrderHallLaw") (cx1 : oz_C (oz_G1 G) code "OrderHallLaw") (hfl : G.1.2.1.stackTraces = false) (hRm : oz_big G.1.2.2.2.1 10) (hcs : G.2.2.1.1 + 1 ≤ G.1.2.2.2.1.cells ∧ G.2.2.1.2.1 + 6 ≤ G.1.2.2.2.1.slots) (hnL : oz_nL G = 8) (h1 : oz_Scr G b0 (i + 1) p1) (h2 : oz_Scr G b0 (i + 2) p2) (h3 : oz_Scr G b0 (i + 3) p3) : oz_R G 742 [(4, .int i), (3, .ref (oz_b G + 74)), (2, .ref (oz_b G + 62)), (1, .ref (oz_b G + 0)), (0, .ref b0)] [] M (f_L11 p1 p2 p3 M) (fun M1 => oz_Z (oz_G1 G) 1357 [(4, .int i), (3, .ref (oz_b G + 74)), (2, .ref (oz_b G + 62)), (1, .ref (oz_b G + 0)), (0, .ref b0)] [] M1) := by
  unfold f_L11
  refine oz_aload_n (q := 743) cx d_Law_742 rfl rfl 3 rfl ?_
  refine oz_aload_n (q := 744) cx d_Law_743 rfl rfl 4 rfl ?_
  refine oz_iload (q := 746) cx d_Law_744 rfl 0 rfl ?_
  refine oz_iconst (q := 747) cx d_Law_746 rfl (v := 1) rfl ?_
  refine oz_iadd (q := 748) cx d_Law_747 rfl ?_
  refine oz_sld (q := 749) cx h1 d_Law_748 rfl ?_
  refine oz_aload_n (q := 750) cx d_Law_749 rfl rfl 4 rfl ?_
  refine oz_iload (q := 752) cx d_Law_750 rfl 0 rfl ?_
  refine oz_iconst (q := 753) cx d_Law_752 rfl (v := 2) rfl ?_
  refine oz_iadd (q := 754) cx d_Law_753 rfl ?_
  refine oz_sld (q := 755) cx h2 d_Law_754 rfl ?_
  refine oz_aload_n (q := 756) cx d_Law_755 rfl rfl 1 rfl ?_
  refine oz_cW (kc := 7) cx [.ref (oz_b G + 0), .int p1, .int p2, .ref (oz_b G + 74)] 4 hRm (by decide) (by decide) hcs (fun _ _ h => c_Law_first hfl h) ⟨tw_589, tw_590, tw_0⟩ tw_591 (by decide +kernel) rfl (st := []) rfl (Nat.le_of_ble_eq_true rfl) d_Law_756 rfl (fun v1 M2 hv1 => ?_)
  refine oz_istore (q := 761) cx1 d_Law_759 rfl (by rw [hnL]; decide) (lv2 := [(5, .int v1), (4, .int i), (3, .ref (oz_b G + 74)), (2, .ref (oz_b G + 62)), (1, .ref (oz_b G + 0)), (0, .ref b0)]) rfl ?_
  refine oz_aload_n (q := 762) cx1 d_Law_761 rfl rfl 3 rfl ?_
  refine oz_aload_n (q := 763) cx1 d_Law_762 rfl rfl 5 rfl ?_
  refine oz_iload (q := 765) cx1 d_Law_763 rfl 1 rfl ?_
  refine oz_iconst (q := 766) cx1 d_Law_765 rfl (v := 1) rfl ?_
  refine oz_iadd (q := 767) cx1 d_Law_766 rfl ?_
  refine oz_sld (q := 768) cx1 h1 d_Law_767 rfl ?_
  refine oz_aload_n (q := 769) cx1 d_Law_768 rfl rfl 5 rfl ?_
  refine oz_iload (q := 771) cx1 d_Law_769 rfl 1 rfl ?_
  refine oz_iconst (q := 772) cx1 d_Law_771 rfl (v := 2) rfl ?_
  refine oz_iadd (q := 773) cx1 d_Law_772 rfl ?_
  refine oz_sld (q := 774) cx1 h2 d_Law_773 rfl ?_
  refine oz_cVi (q := 777) cx1 62 [.int p1, .int p2] 2 8 hRm (by decide) (by decide) (fun _ _ h => c_Model_first h) ⟨tw_969, tw_970, tw_971, tw_9⟩ tw_972 (by decide +kernel) rfl (by decide) rfl rfl (st := []) rfl (Nat.le_of_ble_eq_true rfl) d_Law_774 rfl (fun v3 M4 hv3 => ?_)
  refine oz_istore (q := 779) cx1 d_Law_777 rfl (by rw [hnL]; decide) (lv2 := [(6, .int v3), (5, .int v1), (4, .int i), (3, .ref (oz_b G + 74)), (2, .ref (oz_b G + 62)), (1, .ref (oz_b G + 0)), (0, .ref b0)]) rfl ?_
  refine oz_aload_n (q := 780) cx1 d_Law_779 rfl rfl 4 rfl ?_
  refine oz_cVip (q := 783) cx1 62 [] 0 8 hRm (by decide) (by decide) (fun _ h => c_Model_thrown h) ⟨tw_839, tw_840, tw_841, tw_9⟩ tw_842 (by decide +kernel) rfl (by decide) rfl rfl (st := []) rfl (Nat.le_of_ble_eq_true rfl) d_Law_780 rfl (fun v5 hv5 => ?_)
  refine oz_iload (q := 785) cx1 d_Law_783 rfl 1 rfl ?_
  refine oz_icmp_eq (q := 788) cx1 d_Law_785 rfl rfl (fun h9 => ?_) (fun h9 => ?_)
  · refine oz_iload (q := 792) cx1 d_Law_790 rfl 1 rfl ?_
    refine oz_if_ne (q := 795) cx1 d_Law_792 rfl rfl (fun h8 => ?_) (fun h8 => ?_)
    · refine oz_goto cx1 d_Law_807 rfl ?_
      exact oz_lv [2, 3, 4, 5, 6] rfl (oz_leaf (fun h => h))
    · refine oz_aload_n (q := 796) cx1 d_Law_795 rfl rfl 3 rfl ?_
      refine oz_iconst (q := 797) cx1 d_Law_796 rfl (v := 0) rfl ?_
      refine oz_lald (q := 798) cx1 74 1 (by decide) rfl d_Law_797 rfl (fun j6 hj6 => ?_)
      refine oz_iload (q := 800) cx1 d_Law_798 rfl 0 rfl ?_
      refine oz_i2l (q := 801) cx1 d_Law_800 rfl ?_
      refine oz_lcmp (q := 802) cx1 d_Law_801 rfl ?_
      refine oz_if_eq (q := 805) cx1 d_Law_802 rfl rfl (fun h7 => ?_) (fun h7 => ?_)
      · refine oz_goto cx1 d_Law_807 rfl ?_
        exact oz_lv [2, 3, 4, 5, 6] rfl (oz_leaf (fun h => h))
      · refine oz_iconst (q := 806) cx1 d_Law_805 rfl (v := 0) rfl ?_
        exact oz_none
  · refine oz_iconst (q := 789) cx1 d_Law_788 rfl (v := 0) rfl ?_
    exact oz_none
set_option maxRecDepth 20000 in
set_option maxHeartbeats 2000000 in
theorem w_L12 {G : oz_G} {b0 : Nat} {i p1 p2 p3 : Int32} {M : oz_M} (cx : oz_C G code "OrderHallLaw") (cx1 : oz_C (oz_G1 G) code "OrderHallLaw") (hfl : G.1.2.1.stackTraces = false) (hRm : oz_big G.1.2.2.2.1 10) (hcs : G.2.2.1.1 + 1 ≤ G.1.2.2.2.1.cells ∧ G.2.2.1.2.1 + 6 ≤ G.1.2.2.2.1.slots) (hnL : oz_nL G = 8) (h1 : oz_Scr G b0 (i + 1) p1) (h2 : oz_Scr G b0 (i + 2) p2) (h3 : oz_Scr G b0 (i + 3) p3) : oz_R G 810 [(4, .int i), (3, .ref (oz_b G + 74)), (2, .ref (oz_b G + 62)), (1, .ref (oz_b G + 0)), (0, .ref b0)] [] M (f_L12 p1 p2 p3 M) (fun M1 => oz_Z (oz_G1 G) 1357 [(4, .int i), (3, .ref (oz_b G + 74)), (2, .ref (oz_b G + 62)), (1, .ref (oz_b G + 0)), (0, .ref b0)] [] M1) := by
  unfold f_L12
  refine oz_aload_n (q := 811) cx d_Law_810 rfl rfl 3 rfl ?_
  refine oz_aload_n (q := 812) cx d_Law_811 rfl rfl 4 rfl ?_
  refine oz_iload (q := 814) cx d_Law_812 rfl 0 rfl ?_
  refine oz_iconst (q := 815) cx d_Law_814 rfl (v := 1) rfl ?_
  refine oz_iadd (q := 816) cx d_Law_815 rfl ?_
  refine oz_sld (q := 817) cx h1 d_Law_816 rfl ?_
  refine oz_aload_n (q := 818) cx d_Law_817 rfl rfl 1 rfl ?_
  refine oz_cW (kc := 7) cx [.ref (oz_b G + 0), .int p1, .ref (oz_b G + 74)] 3 hRm (by decide) (by decide) hcs (fun _ _ h => c_Law_chains hfl h) ⟨tw_596, tw_597, tw_0⟩ tw_598 (by decide +kernel) rfl (st := []) rfl (Nat.le_of_ble_eq_true rfl) d_Law_818 rfl (fun v1 M2 hv1 => ?_)
  refine oz_istore (q := 823) cx1 d_Law_821 rfl (by rw [hnL]; decide) (lv2 := [(5, .int v1), (4, .int i), (3, .ref (oz_b G + 74)), (2, .ref (oz_b G + 62)), (1, .ref (oz_b G + 0)), (0, .ref b0)]) rfl ?_
  refine oz_aload_n (q := 824) cx1 d_Law_823 rfl rfl 3 rfl ?_
  refine oz_aload_n (q := 825) cx1 d_Law_824 rfl rfl 5 rfl ?_
  refine oz_iload (q := 827) cx1 d_Law_825 rfl 1 rfl ?_
  refine oz_iconst (q := 828) cx1 d_Law_827 rfl (v := 1) rfl ?_
  refine oz_iadd (q := 829) cx1 d_Law_828 rfl ?_
  refine oz_sld (q := 830) cx1 h1 d_Law_829 rfl ?_
  refine oz_cVi (q := 833) cx1 62 [.int p1] 1 8 hRm (by decide) (by decide) (fun _ _ h => c_Model_chains h) ⟨tw_973, tw_974, tw_975, tw_9⟩ tw_976 (by decide +kernel) rfl (by decide) rfl rfl (st := []) rfl (Nat.le_of_ble_eq_true rfl) d_Law_830 rfl (fun v3 M4 hv3 => ?_)
  refine oz_istore (q := 835) cx1 d_Law_833 rfl (by rw [hnL]; decide) (lv2 := [(6, .int v3), (5, .int v1), (4, .int i), (3, .ref (oz_b G + 74)), (2, .ref (oz_b G + 62)), (1, .ref (oz_b G + 0)), (0, .ref b0)]) rfl ?_
  refine oz_aload_n (q := 836) cx1 d_Law_835 rfl rfl 4 rfl ?_
  refine oz_cVip (q := 839) cx1 62 [] 0 8 hRm (by decide) (by decide) (fun _ h => c_Model_thrown h) ⟨tw_839, tw_840, tw_841, tw_9⟩ tw_842 (by decide +kernel) rfl (by decide) rfl rfl (st := []) rfl (Nat.le_of_ble_eq_true rfl) d_Law_836 rfl (fun v5 hv5 => ?_)
  refine oz_iload (q := 841) cx1 d_Law_839 rfl 1 rfl ?_
  refine oz_icmp_eq (q := 844) cx1 d_Law_841 rfl rfl (fun h9 => ?_) (fun h9 => ?_)
  · refine oz_iload (q := 848) cx1 d_Law_846 rfl 1 rfl ?_
    refine oz_if_ne (q := 851) cx1 d_Law_848 rfl rfl (fun h8 => ?_) (fun h8 => ?_)
    · refine oz_goto cx1 d_Law_863 rfl ?_
      exact oz_lv [2, 3, 4, 5, 6] rfl (oz_leaf (fun h => h))
    · refine oz_aload_n (q := 852) cx1 d_Law_851 rfl rfl 3 rfl ?_
      refine oz_iconst (q := 853) cx1 d_Law_852 rfl (v := 0) rfl ?_
      refine oz_lald (q := 854) cx1 74 1 (by decide) rfl d_Law_853 rfl (fun j6 hj6 => ?_)
      refine oz_iload (q := 856) cx1 d_Law_854 rfl 0 rfl ?_
      refine oz_i2l (q := 857) cx1 d_Law_856 rfl ?_
      refine oz_lcmp (q := 858) cx1 d_Law_857 rfl ?_
      refine oz_if_eq (q := 861) cx1 d_Law_858 rfl rfl (fun h7 => ?_) (fun h7 => ?_)
      · refine oz_goto cx1 d_Law_863 rfl ?_
        exact oz_lv [2, 3, 4, 5, 6] rfl (oz_leaf (fun h => h))
      · refine oz_iconst (q := 862) cx1 d_Law_861 rfl (v := 0) rfl ?_
        exact oz_none
  · refine oz_iconst (q := 845) cx1 d_Law_844 rfl (v := 0) rfl ?_
    exact oz_none
set_option maxRecDepth 20000 in
set_option maxHeartbeats 2000000 in
theorem w_L13 {G : oz_G} {b0 : Nat} {i p1 p2 p3 : Int32} {M : oz_M} (cx : oz_C G code "OrderHallLaw") (cx1 : oz_C (oz_G1 G) code "OrderHallLaw") (hfl : G.1.2.1.stackTraces = false) (hRm : oz_big G.1.2.2.2.1 10) (hcs : G.2.2.1.1 + 1 ≤ G.1.2.2.2.1.cells ∧ G.2.2.1.2.1 + 6 ≤ G.1.2.2.2.1.slots) (hnL : oz_nL G = 8) (h1 : oz_Scr G b0 (i + 1) p1) (h2 : oz_Scr G b0 (i + 2) p2) (h3 : oz_Scr G b0 (i + 3) p3) : oz_R G 866 [(4, .int i), (3, .ref (oz_b G + 74)), (2, .ref (oz_b G + 62)), (1, .ref (oz_b G + 0)), (0, .ref b0)] [] M (f_L13 p1 p2 p3 M) (fun M1 => oz_Z (oz_G1 G) 1357 [(4, .int i), (3, .ref (oz_b G + 74)), (2, .ref (oz_b G + 62)), (1, .ref (oz_b G + 0)), (0, .ref b0)] [] M1) := by
  unfold f_L13
  refine oz_aload_n (q := 867) cx d_Law_866 rfl rfl 3 rfl ?_
  refine oz_aload_n (q := 868) cx d_Law_867 rfl rfl 1 rfl ?_
  refine oz_cW (kc := 7) cx [.ref (oz_b G + 0), .ref (oz_b G + 74)] 2 hRm (by decide) (by decide) hcs (fun _ _ h => c_Law_sequences hfl h) ⟨tw_611, tw_612, tw_0⟩ tw_613 (by decide +kernel) rfl (st := []) rfl (Nat.le_of_ble_eq_true rfl) d_Law_868 rfl (fun v1 M2 hv1 => ?_)
  refine oz_istore (q := 873) cx1 d_Law_871 rfl (by rw [hnL]; decide) (lv2 := [(5, .int v1), (4, .int i), (3, .ref (oz_b G + 74)), (2, .ref (oz_b G + 62)), (1, .ref (oz_b G + 0)), (0, .ref b0)]) rfl ?_
  refine oz_aload_n (q := 874) cx1 d_Law_873 rfl rfl 3 rfl ?_
  refine oz_cVl (q := 877) cx1 62 [] 0 8 hRm (by decide) (by decide) (fun _ _ h => c_Model_sequences h) ⟨tw_977, tw_978, tw_979, tw_9⟩ tw_980 (by decide +kernel) rfl (by decide) rfl rfl (st := []) rfl (Nat.le_of_ble_eq_true rfl) d_Law_874 rfl (fun v3 M4 hv3 => ?_)
  refine oz_lstore (q := 879) cx1 d_Law_877 rfl (by rw [hnL]; decide) (lv2 := [(6, .long v3), (5, .int v1), (4, .int i), (3, .ref (oz_b G + 74)), (2, .ref (oz_b G + 62)), (1, .ref (oz_b G + 0)), (0, .ref b0)]) rfl ?_
  refine oz_aload_n (q := 880) cx1 d_Law_879 rfl rfl 4 rfl ?_
  refine oz_cVip (q := 883) cx1 62 [] 0 8 hRm (by decide) (by decide) (fun _ h => c_Model_thrown h) ⟨tw_839, tw_840, tw_841, tw_9⟩ tw_842 (by decide +kernel) rfl (by decide) rfl rfl (st := []) rfl (Nat.le_of_ble_eq_true rfl) d_Law_880 rfl (fun v5 hv5 => ?_)
  refine oz_iload (q := 885) cx1 d_Law_883 rfl 1 rfl ?_
  refine oz_icmp_eq (q := 888) cx1 d_Law_885 rfl rfl (fun h9 => ?_) (fun h9 => ?_)
  · refine oz_iload (q := 892) cx1 d_Law_890 rfl 1 rfl ?_
    refine oz_if_ne (q := 895) cx1 d_Law_892 rfl rfl (fun h8 => ?_) (fun h8 => ?_)
    · refine oz_goto cx1 d_Law_906 rfl ?_
      exact oz_lv [2, 3, 4, 5, 6] rfl (oz_leaf (fun h => h))
    · refine oz_aload_n (q := 896) cx1 d_Law_895 rfl rfl 3 rfl ?_
      refine oz_iconst (q := 897) cx1 d_Law_896 rfl (v := 0) rfl ?_
      refine oz_lald (q := 898) cx1 74 1 (by decide) rfl d_Law_897 rfl (fun j6 hj6 => ?_)
      refine oz_lload (q := 900) cx1 d_Law_898 rfl 0 rfl ?_
      refine oz_lcmp (q := 901) cx1 d_Law_900 rfl ?_
      refine oz_if_eq (q := 904) cx1 d_Law_901 rfl rfl (fun h7 => ?_) (fun h7 => ?_)
      · refine oz_goto cx1 d_Law_906 rfl ?_
        exact oz_lv [2, 3, 4, 5, 6] rfl (oz_leaf (fun h => h))
      · refine oz_iconst (q := 905) cx1 d_Law_904 rfl (v := 0) rfl ?_
        exact oz_none
  · refine oz_iconst (q := 889) cx1 d_Law_888 rfl (v := 0) rfl ?_
    exact oz_none
set_option maxRecDepth 20000 in
set_option maxHeartbeats 2000000 in
theorem w_L14 {G : oz_G} {b0 : Nat} {i p1 p2 p3 : Int32} {M : oz_M} (cx : oz_C G code "OrderHallLaw") (cx1 : oz_C (oz_G1 G) code "OrderHallLaw") (hfl : G.1.2.1.stackTraces = false) (hRm : oz_big G.1.2.2.2.1 10) (hcs : G.2.2.1.1 + 1 ≤ G.1.2.2.2.1.cells ∧ G.2.2.1.2.1 + 6 ≤ G.1.2.2.2.1.slots) (hnL : oz_nL G = 8) (h1 : oz_Scr G b0 (i + 1) p1) (h2 : oz_Scr G b0 (i + 2) p2) (h3 : oz_Scr G b0 (i + 3) p3) : oz_R G 909 [(4, .int i), (3, .ref (oz_b G + 74)), (2, .ref (oz_b G + 62)), (1, .ref (oz_b G + 0)), (0, .ref b0)] [] M (f_L14 p1 p2 p3 M) (fun M1 => oz_Z (oz_G1 G) 1357 [(4, .int i), (3, .ref (oz_b G + 74)), (2, .ref (oz_b G + 62)), (1, .ref (oz_b G + 0)), (0, .ref b0)] [] M1) := by
  unfold f_L14
  refine oz_aload_n (q := 910) cx d_Law_909 rfl rfl 3 rfl ?_
  refine oz_aload_n (q := 911) cx d_Law_910 rfl rfl 4 rfl ?_
  refine oz_iload (q := 913) cx d_Law_911 rfl 0 rfl ?_
  refine oz_iconst (q := 914) cx d_Law_913 rfl (v := 1) rfl ?_
  refine oz_iadd (q := 915) cx d_Law_914 rfl ?_
  refine oz_sld (q := 916) cx h1 d_Law_915 rfl ?_
  refine oz_i2l (q := 917) cx d_Law_916 rfl ?_
  refine oz_bipush (q := 919) cx d_Law_917 rfl (v := 32) rfl ?_
  refine oz_lshl (q := 920) cx d_Law_919 rfl ?_
  refine oz_aload_n (q := 921) cx d_Law_920 rfl rfl 4 rfl ?_
  refine oz_iload (q := 923) cx d_Law_921 rfl 0 rfl ?_
  refine oz_iconst (q := 924) cx d_Law_923 rfl (v := 2) rfl ?_
  refine oz_iadd (q := 925) cx d_Law_924 rfl ?_
  refine oz_sld (q := 926) cx h2 d_Law_925 rfl ?_
  refine oz_i2l (q := 927) cx d_Law_926 rfl ?_
  refine oz_ldc2_w (q := 930) cx (v := 4294967295) tw_1039 d_Law_927 rfl ?_
  refine oz_land (q := 931) cx d_Law_930 rfl ?_
  refine oz_lor (q := 932) cx d_Law_931 rfl ?_
  refine oz_cW (kc := 7) cx [.ref (oz_b G + 0), .long (((Int32.toInt64 p1) <<< (Int32.toInt64 32 &&& 63)) ||| ((Int32.toInt64 p2) &&& 4294967295))] 2 hRm (by decide) (by decide) hcs (fun _ _ h => c_Law_take hfl h) ⟨tw_631, tw_632, tw_0⟩ tw_633 (by decide +kernel) rfl (st := []) rfl (Nat.le_of_ble_eq_true rfl) d_Law_932 rfl (fun v1 M2 hv1 => ?_)
  refine oz_istore (q := 937) cx1 d_Law_935 rfl (by rw [hnL]; decide) (lv2 := [(5, .int v1), (4, .int i), (3, .ref (oz_b G + 74)), (2, .ref (oz_b G + 62)), (1, .ref (oz_b G + 0)), (0, .ref b0)]) rfl ?_
  refine oz_aload_n (q := 938) cx1 d_Law_937 rfl rfl 3 rfl ?_
  refine oz_aload_n (q := 939) cx1 d_Law_938 rfl rfl 5 rfl ?_
  refine oz_iload (q := 941) cx1 d_Law_939 rfl 1 rfl ?_
  refine oz_iconst (q := 942) cx1 d_Law_941 rfl (v := 1) rfl ?_
  refine oz_iadd (q := 943) cx1 d_Law_942 rfl ?_
  refine oz_sld (q := 944) cx1 h1 d_Law_943 rfl ?_
  refine oz_i2l (q := 945) cx1 d_Law_944 rfl ?_
  refine oz_bipush (q := 947) cx1 d_Law_945 rfl (v := 32) rfl ?_
  refine oz_lshl (q := 948) cx1 d_Law_947 rfl ?_
  refine oz_aload_n (q := 949) cx1 d_Law_948 rfl rfl 5 rfl ?_
  refine oz_iload (q := 951) cx1 d_Law_949 rfl 1 rfl ?_
  refine oz_iconst (q := 952) cx1 d_Law_951 rfl (v := 2) rfl ?_
  refine oz_iadd (q := 953) cx1 d_Law_952 rfl ?_
  refine oz_sld (q := 954) cx1 h2 d_Law_953 rfl ?_
  refine oz_i2l (q := 955) cx1 d_Law_954 rfl ?_
  refine oz_ldc2_w (q := 958) cx1 (v := 4294967295) tw_1039 d_Law_955 rfl ?_
  refine oz_land (q := 959) cx1 d_Law_958 rfl ?_
  refine oz_lor (q := 960) cx1 d_Law_959 rfl ?_
  refine oz_cVv (q := 963) cx1 62 [.long (((Int32.toInt64 p1) <<< (Int32.toInt64 32 &&& 63)) ||| ((Int32.toInt64 p2) &&& 4294967295))] 1 8 hRm (by decide) (by decide) (fun _ _ h => c_Model_take h) ⟨tw_981, tw_982, tw_983, tw_9⟩ tw_984 (by decide +kernel) rfl (by decide) rfl rfl (st := []) rfl (Nat.le_of_ble_eq_true rfl) d_Law_960 rfl (fun v3 M4 hv3 => ?_)
  refine oz_aload_n (q := 964) cx1 d_Law_963 rfl rfl 3 rfl ?_
  refine oz_cVip (q := 967) cx1 62 [] 0 8 hRm (by decide) (by decide) (fun _ h => c_Model_thrown h) ⟨tw_839, tw_840, tw_841, tw_9⟩ tw_842 (by decide +kernel) rfl (by decide) rfl rfl (st := []) rfl (Nat.le_of_ble_eq_true rfl) d_Law_964 rfl (fun v5 hv5 => ?_)
  refine oz_iload (q := 969) cx1 d_Law_967 rfl 0 rfl ?_
  refine oz_icmp_eq (q := 972) cx1 d_Law_969 rfl rfl (fun h6 => ?_) (fun h6 => ?_)
  · refine oz_goto cx1 d_Law_974 rfl ?_
    exact oz_lv [1, 2, 3, 4, 5] rfl (oz_leaf (fun h => h))
  · refine oz_iconst (q := 973) cx1 d_Law_972 rfl (v := 0) rfl ?_
    exact oz_none
set_option maxRecDepth 20000 in
set_option maxHeartbeats 2000000 in
theorem w_L15 {G : oz_G} {b0 : Nat} {i p1 p2 p3 : Int32} {M : oz_M} (cx : oz_C G code "OrderHallLaw") (cx1 : oz_C (oz_G1 G) code "OrderHallLaw") (hfl : G.1.2.1.stackTraces = false) (hRm : oz_big G.1.2.2.2.1 10) (hcs : G.2.2.1.1 + 1 ≤ G.1.2.2.2.1.cells ∧ G.2.2.1.2.1 + 6 ≤ G.1.2.2.2.1.slots) (hnL : oz_nL G = 8) (h1 : oz_Scr G b0 (i + 1) p1) (h2 : oz_Scr G b0 (i + 2) p2) (h3 : oz_Scr G b0 (i + 3) p3) : oz_R G 977 [(4, .int i), (3, .ref (oz_b G + 74)), (2, .ref (oz_b G + 62)), (1, .ref (oz_b G + 0)), (0, .ref b0)] [] M (f_L15 p1 p2 p3 M) (fun M1 => oz_Z (oz_G1 G) 1357 [(4, .int i), (3, .ref (oz_b G + 74)), (2, .ref (oz_b G + 62)), (1, .ref (oz_b G + 0)), (0, .ref b0)] [] M1) := by
  unfold f_L15
  refine oz_aload_n (q := 978) cx d_Law_977 rfl rfl 3 rfl ?_
  refine oz_aload_n (q := 979) cx d_Law_978 rfl rfl 4 rfl ?_
  refine oz_iload (q := 981) cx d_Law_979 rfl 0 rfl ?_
  refine oz_iconst (q := 982) cx d_Law_981 rfl (v := 1) rfl ?_
  refine oz_iadd (q := 983) cx d_Law_982 rfl ?_
  refine oz_sld (q := 984) cx h1 d_Law_983 rfl ?_
  refine oz_cVip (q := 987) cx 0 [.int p1] 1 0 hRm (by decide) (by decide) (fun _ h => c_Hall_at h) ⟨tw_329, tw_330, tw_331, tw_1⟩ tw_332 (by decide +kernel) rfl (by decide) rfl rfl (st := []) rfl (Nat.le_of_ble_eq_true rfl) d_Law_984 rfl (fun v1 hv1 => ?_)
  refine oz_aload_n (q := 988) cx d_Law_987 rfl rfl 2 rfl ?_
  refine oz_aload_n (q := 989) cx d_Law_988 rfl rfl 4 rfl ?_
  refine oz_iload (q := 991) cx d_Law_989 rfl 0 rfl ?_
  refine oz_iconst (q := 992) cx d_Law_991 rfl (v := 1) rfl ?_
  refine oz_iadd (q := 993) cx d_Law_992 rfl ?_
  refine oz_sld (q := 994) cx h1 d_Law_993 rfl ?_
  refine oz_cVi (q := 997) cx 62 [.int p1] 1 8 hRm (by decide) (by decide) (fun _ _ h => c_Model_at h) ⟨tw_985, tw_986, tw_987, tw_9⟩ tw_988 (by decide +kernel) rfl (by decide) rfl rfl (st := [.int v1]) rfl (Nat.le_of_ble_eq_true rfl) d_Law_994 rfl (fun v2 M3 hv2 => ?_)
  refine oz_icmp_eq (q := 1000) cx d_Law_997 rfl rfl (fun h4 => ?_) (fun h4 => ?_)
  · exact oz_lv [0, 1, 2, 3, 4] rfl (oz_leaf (fun h => oz_wide h))
  · refine oz_iconst (q := 1001) cx d_Law_1000 rfl (v := 0) rfl ?_
    exact oz_none
set_option maxRecDepth 20000 in
set_option maxHeartbeats 2000000 in
theorem w_L16 {G : oz_G} {b0 : Nat} {i p1 p2 p3 : Int32} {M : oz_M} (cx : oz_C G code "OrderHallLaw") (cx1 : oz_C (oz_G1 G) code "OrderHallLaw") (hfl : G.1.2.1.stackTraces = false) (hRm : oz_big G.1.2.2.2.1 10) (hcs : G.2.2.1.1 + 1 ≤ G.1.2.2.2.1.cells ∧ G.2.2.1.2.1 + 6 ≤ G.1.2.2.2.1.slots) (hnL : oz_nL G = 8) (h1 : oz_Scr G b0 (i + 1) p1) (h2 : oz_Scr G b0 (i + 2) p2) (h3 : oz_Scr G b0 (i + 3) p3) : oz_R G 1002 [(4, .int i), (3, .ref (oz_b G + 74)), (2, .ref (oz_b G + 62)), (1, .ref (oz_b G + 0)), (0, .ref b0)] [] M (f_L16 p1 p2 p3 M) (fun M1 => oz_Z (oz_G1 G) 1357 [(4, .int i), (3, .ref (oz_b G + 74)), (2, .ref (oz_b G + 62)), (1, .ref (oz_b G + 0)), (0, .ref b0)] [] M1) := by
  unfold f_L16
  refine oz_aload_n (q := 1003) cx d_Law_1002 rfl rfl 3 rfl ?_
  refine oz_aload_n (q := 1004) cx d_Law_1003 rfl rfl 4 rfl ?_
  refine oz_iload (q := 1006) cx d_Law_1004 rfl 0 rfl ?_
  refine oz_iconst (q := 1007) cx d_Law_1006 rfl (v := 1) rfl ?_
  refine oz_iadd (q := 1008) cx d_Law_1007 rfl ?_
  refine oz_sld (q := 1009) cx h1 d_Law_1008 rfl ?_
  refine oz_cVi (q := 1012) cx 0 [.int p1] 1 0 hRm (by decide) (by decide) (fun _ _ h => c_Hall_exchange h) ⟨tw_333, tw_334, tw_335, tw_1⟩ tw_336 (by decide +kernel) rfl (by decide) rfl rfl (st := []) rfl (Nat.le_of_ble_eq_true rfl) d_Law_1009 rfl (fun v1 M2 hv1 => ?_)
  refine oz_aload_n (q := 1013) cx d_Law_1012 rfl rfl 2 rfl ?_
  refine oz_aload_n (q := 1014) cx d_Law_1013 rfl rfl 4 rfl ?_
  refine oz_iload (q := 1016) cx d_Law_1014 rfl 0 rfl ?_
  refine oz_iconst (q := 1017) cx d_Law_1016 rfl (v := 1) rfl ?_
  refine oz_iadd (q := 1018) cx d_Law_1017 rfl ?_
  refine oz_sld (q := 1019) cx h1 d_Law_1018 rfl ?_
  refine oz_cVi (q := 1022) cx 62 [.int p1] 1 8 hRm (by decide) (by decide) (fun _ _ h => c_Model_exchange h) ⟨tw_989, tw_990, tw_991, tw_9⟩ tw_992 (by decide +kernel) rfl (by decide) rfl rfl (st := [.int v1]) rfl (Nat.le_of_ble_eq_true rfl) d_Law_1019 rfl (fun v3 M4 hv3 => ?_)
  refine oz_icmp_eq (q := 1025) cx d_Law_1022 rfl rfl (fun h5 => ?_) (fun h5 => ?_)
  · exact oz_lv [0, 1, 2, 3, 4] rfl (oz_leaf (fun h => oz_wide h))
  · refine oz_iconst (q := 1026) cx d_Law_1025 rfl (v := 0) rfl ?_
    exact oz_none
set_option maxRecDepth 20000 in
set_option maxHeartbeats 2000000 in
theorem w_L17 {G : oz_G} {b0 : Nat} {i p1 p2 p3 : Int32} {M : oz_M} (cx : oz_C G code "OrderHallLaw") (cx1 : oz_C (oz_G1 G) code "OrderHallLaw") (hfl : G.1.2.1.stackTraces = false) (hRm : oz_big G.1.2.2.2.1 10) (hcs : G.2.2.1.1 + 1 ≤ G.1.2.2.2.1.cells ∧ G.2.2.1.2.1 + 6 ≤ G.1.2.2.2.1.slots) (hnL : oz_nL G = 8) (h1 : oz_Scr G b0 (i + 1) p1) (h2 : oz_Scr G b0 (i + 2) p2) (h3 : oz_Scr G b0 (i + 3) p3) : oz_R G 1027 [(4, .int i), (3, .ref (oz_b G + 74)), (2, .ref (oz_b G + 62)), (1, .ref (oz_b G + 0)), (0, .ref b0)] [] M (f_L17 p1 p2 p3 M) (fun M1 => oz_Z (oz_G1 G) 1357 [(4, .int i), (3, .ref (oz_b G + 74)), (2, .ref (oz_b G + 62)), (1, .ref (oz_b G + 0)), (0, .ref b0)] [] M1) := by
  unfold f_L17
  refine oz_aload_n (q := 1028) cx d_Law_1027 rfl rfl 3 rfl ?_
  refine oz_cVlp (q := 1031) cx 0 [] 0 0 hRm (by decide) (by decide) (fun _ h => c_Hall_number h) ⟨tw_342, tw_343, tw_344, tw_1⟩ tw_345 (by decide +kernel) rfl (by decide) rfl rfl (st := []) rfl (Nat.le_of_ble_eq_true rfl) d_Law_1028 rfl (fun v1 hv1 => ?_)
  refine oz_aload_n (q := 1032) cx d_Law_1031 rfl rfl 2 rfl ?_
  refine oz_cVl (q := 1035) cx 62 [] 0 8 hRm (by decide) (by decide) (fun _ _ h => c_Model_number h) ⟨tw_993, tw_994, tw_995, tw_9⟩ tw_996 (by decide +kernel) rfl (by decide) rfl rfl (st := [.long v1]) rfl (Nat.le_of_ble_eq_true rfl) d_Law_1032 rfl (fun v2 M3 hv2 => ?_)
  refine oz_lcmp (q := 1036) cx d_Law_1035 rfl ?_
  refine oz_if_eq (q := 1039) cx d_Law_1036 rfl rfl (fun h4 => ?_) (fun h4 => ?_)
  · exact oz_lv [0, 1, 2, 3, 4] rfl (oz_leaf (fun h => oz_wide h))
  · refine oz_iconst (q := 1040) cx d_Law_1039 rfl (v := 0) rfl ?_
    exact oz_none
set_option maxRecDepth 20000 in
set_option maxHeartbeats 2000000 in
theorem w_L18 {G : oz_G} {b0 : Nat} {i p1 p2 p3 : Int32} {M : oz_M} (cx : oz_C G code "OrderHallLaw") (cx1 : oz_C (oz_G1 G) code "OrderHallLaw") (hfl : G.1.2.1.stackTraces = false) (hRm : oz_big G.1.2.2.2.1 10) (hcs : G.2.2.1.1 + 1 ≤ G.1.2.2.2.1.cells ∧ G.2.2.1.2.1 + 6 ≤ G.1.2.2.2.1.slots) (hnL : oz_nL G = 8) (h1 : oz_Scr G b0 (i + 1) p1) (h2 : oz_Scr G b0 (i + 2) p2) (h3 : oz_Scr G b0 (i + 3) p3) : oz_R G 1041 [(4, .int i), (3, .ref (oz_b G + 74)), (2, .ref (oz_b G + 62)), (1, .ref (oz_b G + 0)), (0, .ref b0)] [] M (f_L18 p1 p2 p3 M) (fun M1 => oz_Z (oz_G1 G) 1357 [(4, .int i), (3, .ref (oz_b G + 74)), (2, .ref (oz_b G + 62)), (1, .ref (oz_b G + 0)), (0, .ref b0)] [] M1) := by
  unfold f_L18
  refine oz_aload_n (q := 1042) cx d_Law_1041 rfl rfl 3 rfl ?_
  refine oz_aload_n (q := 1043) cx d_Law_1042 rfl rfl 4 rfl ?_
  refine oz_iload (q := 1045) cx d_Law_1043 rfl 0 rfl ?_
  refine oz_iconst (q := 1046) cx d_Law_1045 rfl (v := 1) rfl ?_
  refine oz_iadd (q := 1047) cx d_Law_1046 rfl ?_
  refine oz_sld (q := 1048) cx h1 d_Law_1047 rfl ?_
  refine oz_aload_n (q := 1049) cx d_Law_1048 rfl rfl 4 rfl ?_
  refine oz_iload (q := 1051) cx d_Law_1049 rfl 0 rfl ?_
  refine oz_iconst (q := 1052) cx d_Law_1051 rfl (v := 2) rfl ?_
  refine oz_iadd (q := 1053) cx d_Law_1052 rfl ?_
  refine oz_sld (q := 1054) cx h2 d_Law_1053 rfl ?_
  refine oz_aload_n (q := 1055) cx d_Law_1054 rfl rfl 4 rfl ?_
  refine oz_iload (q := 1057) cx d_Law_1055 rfl 0 rfl ?_
  refine oz_iconst (q := 1058) cx d_Law_1057 rfl (v := 3) rfl ?_
  refine oz_iadd (q := 1059) cx d_Law_1058 rfl ?_
  refine oz_sld (q := 1060) cx h3 d_Law_1059 rfl ?_
  refine oz_aload_n (q := 1061) cx d_Law_1060 rfl rfl 1 rfl ?_
  refine oz_cW (kc := 7) cx [.ref (oz_b G + 0), .int p1, .int p2, .int p3, .ref (oz_b G + 74)] 5 hRm (by decide) (by decide) hcs (fun _ _ h => c_Law_bound hfl h) ⟨tw_643, tw_644, tw_0⟩ tw_645 (by decide +kernel) rfl (st := []) rfl (Nat.le_of_ble_eq_true rfl) d_Law_1061 rfl (fun v1 M2 hv1 => ?_)
  refine oz_istore (q := 1066) cx1 d_Law_1064 rfl (by rw [hnL]; decide) (lv2 := [(5, .int v1), (4, .int i), (3, .ref (oz_b G + 74)), (2, .ref (oz_b G + 62)), (1, .ref (oz_b G + 0)), (0, .ref b0)]) rfl ?_
  refine oz_aload_n (q := 1067) cx1 d_Law_1066 rfl rfl 3 rfl ?_
  refine oz_aload_n (q := 1068) cx1 d_Law_1067 rfl rfl 5 rfl ?_
  refine oz_iload (q := 1070) cx1 d_Law_1068 rfl 1 rfl ?_
  refine oz_iconst (q := 1071) cx1 d_Law_1070 rfl (v := 1) rfl ?_
  refine oz_iadd (q := 1072) cx1 d_Law_1071 rfl ?_
  refine oz_sld (q := 1073) cx1 h1 d_Law_1072 rfl ?_
  refine oz_aload_n (q := 1074) cx1 d_Law_1073 rfl rfl 5 rfl ?_
  refine oz_iload (q := 1076) cx1 d_Law_1074 rfl 1 rfl ?_
  refine oz_iconst (q := 1077) cx1 d_Law_1076 rfl (v := 2) rfl ?_
  refine oz_iadd (q := 1078) cx1 d_Law_1077 rfl ?_
  refine oz_sld (q := 1079) cx1 h2 d_Law_1078 rfl ?_
  refine oz_aload_n (q := 1080) cx1 d_Law_1079 rfl rfl 5 rfl ?_
  refine oz_iload (q := 1082) cx1 d_Law_1080 rfl 1 rfl ?_
  refine oz_iconst (q := 1083) cx1 d_Law_1082 rfl (v := 3) rfl ?_
  refine oz_iadd (q := 1084) cx1 d_Law_1083 rfl ?_
  refine oz_sld (q := 1085) cx1 h3 d_Law_1084 rfl ?_
  refine oz_cVi (q := 1088) cx1 62 [.int p1, .int p2, .int p3] 3 8 hRm (by decide) (by decide) (fun _ _ h => c_Model_bound h) ⟨tw_998, tw_999, tw_1000, tw_9⟩ tw_1001 (by decide +kernel) rfl (by decide) rfl rfl (st := []) rfl (Nat.le_of_ble_eq_true rfl) d_Law_1085 rfl (fun v3 M4 hv3 => ?_)
  refine oz_istore (q := 1090) cx1 d_Law_1088 rfl (by rw [hnL]; decide) (lv2 := [(6, .int v3), (5, .int v1), (4, .int i), (3, .ref (oz_b G + 74)), (2, .ref (oz_b G + 62)), (1, .ref (oz_b G + 0)), (0, .ref b0)]) rfl ?_
  refine oz_aload_n (q := 1091) cx1 d_Law_1090 rfl rfl 4 rfl ?_
  refine oz_cVip (q := 1094) cx1 62 [] 0 8 hRm (by decide) (by decide) (fun _ h => c_Model_thrown h) ⟨tw_839, tw_840, tw_841, tw_9⟩ tw_842 (by decide +kernel) rfl (by decide) rfl rfl (st := []) rfl (Nat.le_of_ble_eq_true rfl) d_Law_1091 rfl (fun v5 hv5 => ?_)
  refine oz_iload (q := 1096) cx1 d_Law_1094 rfl 1 rfl ?_
  refine oz_icmp_eq (q := 1099) cx1 d_Law_1096 rfl rfl (fun h9 => ?_) (fun h9 => ?_)
  · refine oz_iload (q := 1103) cx1 d_Law_1101 rfl 1 rfl ?_
    refine oz_if_ne (q := 1106) cx1 d_Law_1103 rfl rfl (fun h8 => ?_) (fun h8 => ?_)
    · refine oz_goto cx1 d_Law_1118 rfl ?_
      exact oz_lv [2, 3, 4, 5, 6] rfl (oz_leaf (fun h => h))
    · refine oz_aload_n (q := 1107) cx1 d_Law_1106 rfl rfl 3 rfl ?_
      refine oz_iconst (q := 1108) cx1 d_Law_1107 rfl (v := 0) rfl ?_
      refine oz_lald (q := 1109) cx1 74 1 (by decide) rfl d_Law_1108 rfl (fun j6 hj6 => ?_)
      refine oz_iload (q := 1111) cx1 d_Law_1109 rfl 0 rfl ?_
      refine oz_i2l (q := 1112) cx1 d_Law_1111 rfl ?_
      refine oz_lcmp (q := 1113) cx1 d_Law_1112 rfl ?_
      refine oz_if_eq (q := 1116) cx1 d_Law_1113 rfl rfl (fun h7 => ?_) (fun h7 => ?_)
      · refine oz_goto cx1 d_Law_1118 rfl ?_
        exact oz_lv [2, 3, 4, 5, 6] rfl (oz_leaf (fun h => h))
      · refine oz_iconst (q := 1117) cx1 d_Law_1116 rfl (v := 0) rfl ?_
        exact oz_none
  · refine oz_iconst (q := 1100) cx1 d_Law_1099 rfl (v := 0) rfl ?_
    exact oz_none
set_option maxRecDepth 20000 in
set_option maxHeartbeats 2000000 in
theorem w_L19 {G : oz_G} {b0 : Nat} {i p1 p2 p3 : Int32} {M : oz_M} (cx : oz_C G code "OrderHallLaw") (cx1 : oz_C (oz_G1 G) code "OrderHallLaw") (hfl : G.1.2.1.stackTraces = false) (hRm : oz_big G.1.2.2.2.1 10) (hcs : G.2.2.1.1 + 1 ≤ G.1.2.2.2.1.cells ∧ G.2.2.1.2.1 + 6 ≤ G.1.2.2.2.1.slots) (hnL : oz_nL G = 8) (h1 : oz_Scr G b0 (i + 1) p1) (h2 : oz_Scr G b0 (i + 2) p2) (h3 : oz_Scr G b0 (i + 3) p3) : oz_R G 1121 [(4, .int i), (3, .ref (oz_b G + 74)), (2, .ref (oz_b G + 62)), (1, .ref (oz_b G + 0)), (0, .ref b0)] [] M (f_L19 p1 p2 p3 M) (fun M1 => oz_Z (oz_G1 G) 1357 [(4, .int i), (3, .ref (oz_b G + 74)), (2, .ref (oz_b G + 62)), (1, .ref (oz_b G + 0)), (0, .ref b0)] [] M1) := by
  unfold f_L19
  refine oz_aload_n (q := 1122) cx d_Law_1121 rfl rfl 3 rfl ?_
  refine oz_aload_n (q := 1123) cx d_Law_1122 rfl rfl 1 rfl ?_
  refine oz_cW (kc := 7) cx [.ref (oz_b G + 0), .ref (oz_b G + 74)] 2 hRm (by decide) (by decide) hcs (fun _ _ h => c_Law_lattice hfl h) ⟨tw_666, tw_667, tw_0⟩ tw_668 (by decide +kernel) rfl (st := []) rfl (Nat.le_of_ble_eq_true rfl) d_Law_1123 rfl (fun v1 M2 hv1 => ?_)
  refine oz_istore (q := 1128) cx1 d_Law_1126 rfl (by rw [hnL]; decide) (lv2 := [(5, .int v1), (4, .int i), (3, .ref (oz_b G + 74)), (2, .ref (oz_b G + 62)), (1, .ref (oz_b G + 0)), (0, .ref b0)]) rfl ?_
  refine oz_aload_n (q := 1129) cx1 d_Law_1128 rfl rfl 3 rfl ?_
  refine oz_cVi (q := 1132) cx1 62 [] 0 8 hRm (by decide) (by decide) (fun _ _ h => c_Model_lattice h) ⟨tw_1014, tw_1015, tw_1016, tw_9⟩ tw_1017 (by decide +kernel) rfl (by decide) rfl rfl (st := []) rfl (Nat.le_of_ble_eq_true rfl) d_Law_1129 rfl (fun v3 M4 hv3 => ?_)
  refine oz_istore (q := 1134) cx1 d_Law_1132 rfl (by rw [hnL]; decide) (lv2 := [(6, .int v3), (5, .int v1), (4, .int i), (3, .ref (oz_b G + 74)), (2, .ref (oz_b G + 62)), (1, .ref (oz_b G + 0)), (0, .ref b0)]) rfl ?_
  refine oz_aload_n (q := 1135) cx1 d_Law_1134 rfl rfl 4 rfl ?_
  refine oz_cVip (q := 1138) cx1 62 [] 0 8 hRm (by decide) (by decide) (fun _ h => c_Model_thrown h) ⟨tw_839, tw_840, tw_841, tw_9⟩ tw_842 (by decide +kernel) rfl (by decide) rfl rfl (st := []) rfl (Nat.le_of_ble_eq_true rfl) d_Law_1135 rfl (fun v5 hv5 => ?_)
  refine oz_iload (q := 1140) cx1 d_Law_1138 rfl 1 rfl ?_
  refine oz_icmp_eq (q := 1143) cx1 d_Law_1140 rfl rfl (fun h9 => ?_) (fun h9 => ?_)
  · refine oz_iload (q := 1147) cx1 d_Law_1145 rfl 1 rfl ?_
    refine oz_if_ne (q := 1150) cx1 d_Law_1147 rfl rfl (fun h8 => ?_) (fun h8 => ?_)
    · refine oz_goto cx1 d_Law_1162 rfl ?_
      exact oz_lv [2, 3, 4, 5, 6] rfl (oz_leaf (fun h => h))
    · refine oz_aload_n (q := 1151) cx1 d_Law_1150 rfl rfl 3 rfl ?_
      refine oz_iconst (q := 1152) cx1 d_Law_1151 rfl (v := 0) rfl ?_
      refine oz_lald (q := 1153) cx1 74 1 (by decide) rfl d_Law_1152 rfl (fun j6 hj6 => ?_)
      refine oz_iload (q := 1155) cx1 d_Law_1153 rfl 0 rfl ?_
      refine oz_i2l (q := 1156) cx1 d_Law_1155 rfl ?_
      refine oz_lcmp (q := 1157) cx1 d_Law_1156 rfl ?_
      refine oz_if_eq (q := 1160) cx1 d_Law_1157 rfl rfl (fun h7 => ?_) (fun h7 => ?_)
      · refine oz_goto cx1 d_Law_1162 rfl ?_
        exact oz_lv [2, 3, 4, 5, 6] rfl (oz_leaf (fun h => h))
      · refine oz_iconst (q := 1161) cx1 d_Law_1160 rfl (v := 0) rfl ?_
        exact oz_none
  · refine oz_iconst (q := 1144) cx1 d_Law_1143 rfl (v := 0) rfl ?_
    exact oz_none
set_option maxRecDepth 20000 in
set_option maxHeartbeats 2000000 in
theorem w_L20 {G : oz_G} {b0 : Nat} {i p1 p2 p3 : Int32} {M : oz_M} (cx : oz_C G code "OrderHallLaw") (cx1 : oz_C (oz_G1 G) code "OrderHallLaw") (hfl : G.1.2.1.stackTraces = false) (hRm : oz_big G.1.2.2.2.1 10) (hcs : G.2.2.1.1 + 1 ≤ G.1.2.2.2.1.cells ∧ G.2.2.1.2.1 + 6 ≤ G.1.2.2.2.1.slots) (hnL : oz_nL G = 8) (h1 : oz_Scr G b0 (i + 1) p1) (h2 : oz_Scr G b0 (i + 2) p2) (h3 : oz_Scr G b0 (i + 3) p3) : oz_R G 1165 [(4, .int i), (3, .ref (oz_b G + 74)), (2, .ref (oz_b G + 62)), (1, .ref (oz_b G + 0)), (0, .ref b0)] [] M (f_L20 p1 p2 p3 M) (fun M1 => oz_Z (oz_G1 G) 1357 [(4, .int i), (3, .ref (oz_b G + 74)), (2, .ref (oz_b G + 62)), (1, .ref (oz_b G + 0)), (0, .ref b0)] [] M1) := by
  unfold f_L20
  refine oz_aload_n (q := 1166) cx d_Law_1165 rfl rfl 3 rfl ?_
  refine oz_aload_n (q := 1167) cx d_Law_1166 rfl rfl 4 rfl ?_
  refine oz_iload (q := 1169) cx d_Law_1167 rfl 0 rfl ?_
  refine oz_iconst (q := 1170) cx d_Law_1169 rfl (v := 1) rfl ?_
  refine oz_iadd (q := 1171) cx d_Law_1170 rfl ?_
  refine oz_sld (q := 1172) cx h1 d_Law_1171 rfl ?_
  refine oz_aload_n (q := 1173) cx d_Law_1172 rfl rfl 4 rfl ?_
  refine oz_iload (q := 1175) cx d_Law_1173 rfl 0 rfl ?_
  refine oz_iconst (q := 1176) cx d_Law_1175 rfl (v := 2) rfl ?_
  refine oz_iadd (q := 1177) cx d_Law_1176 rfl ?_
  refine oz_sld (q := 1178) cx h2 d_Law_1177 rfl ?_
  refine oz_aload_n (q := 1179) cx d_Law_1178 rfl rfl 1 rfl ?_
  refine oz_cW (kc := 7) cx [.ref (oz_b G + 0), .int p1, .int p2, .ref (oz_b G + 74)] 4 hRm (by decide) (by decide) hcs (fun _ _ h => c_Law_sign hfl h) ⟨tw_683, tw_684, tw_0⟩ tw_685 (by decide +kernel) rfl (st := []) rfl (Nat.le_of_ble_eq_true rfl) d_Law_1179 rfl (fun v1 M2 hv1 => ?_)
  refine oz_istore (q := 1184) cx1 d_Law_1182 rfl (by rw [hnL]; decide) (lv2 := [(5, .int v1), (4, .int i), (3, .ref (oz_b G + 74)), (2, .ref (oz_b G + 62)), (1, .ref (oz_b G + 0)), (0, .ref b0)]) rfl ?_
  refine oz_aload_n (q := 1185) cx1 d_Law_1184 rfl rfl 3 rfl ?_
  refine oz_aload_n (q := 1186) cx1 d_Law_1185 rfl rfl 5 rfl ?_
  refine oz_iload (q := 1188) cx1 d_Law_1186 rfl 1 rfl ?_
  refine oz_iconst (q := 1189) cx1 d_Law_1188 rfl (v := 1) rfl ?_
  refine oz_iadd (q := 1190) cx1 d_Law_1189 rfl ?_
  refine oz_sld (q := 1191) cx1 h1 d_Law_1190 rfl ?_
  refine oz_aload_n (q := 1192) cx1 d_Law_1191 rfl rfl 5 rfl ?_
  refine oz_iload (q := 1194) cx1 d_Law_1192 rfl 1 rfl ?_
  refine oz_iconst (q := 1195) cx1 d_Law_1194 rfl (v := 2) rfl ?_
  refine oz_iadd (q := 1196) cx1 d_Law_1195 rfl ?_
  refine oz_sld (q := 1197) cx1 h2 d_Law_1196 rfl ?_
  refine oz_cVi (q := 1200) cx1 62 [.int p1, .int p2] 2 8 hRm (by decide) (by decide) (fun _ _ h => c_Model_sign h) ⟨tw_1018, tw_1019, tw_1020, tw_9⟩ tw_1021 (by decide +kernel) rfl (by decide) rfl rfl (st := []) rfl (Nat.le_of_ble_eq_true rfl) d_Law_1197 rfl (fun v3 M4 hv3 => ?_)
  refine oz_istore (q := 1202) cx1 d_Law_1200 rfl (by rw [hnL]; decide) (lv2 := [(6, .int v3), (5, .int v1), (4, .int i), (3, .ref (oz_b G + 74)), (2, .ref (oz_b G + 62)), (1, .ref (oz_b G + 0)), (0, .ref b0)]) rfl ?_
  refine oz_aload_n (q := 1203) cx1 d_Law_1202 rfl rfl 4 rfl ?_
  refine oz_cVip (q := 1206) cx1 62 [] 0 8 hRm (by decide) (by decide) (fun _ h => c_Model_thrown h) ⟨tw_839, tw_840, tw_841, tw_9⟩ tw_842 (by decide +kernel) rfl (by decide) rfl rfl (st := []) rfl (Nat.le_of_ble_eq_true rfl) d_Law_1203 rfl (fun v5 hv5 => ?_)
  refine oz_iload (q := 1208) cx1 d_Law_1206 rfl 1 rfl ?_
  refine oz_icmp_eq (q := 1211) cx1 d_Law_1208 rfl rfl (fun h9 => ?_) (fun h9 => ?_)
  · refine oz_iload (q := 1215) cx1 d_Law_1213 rfl 1 rfl ?_
    refine oz_if_ne (q := 1218) cx1 d_Law_1215 rfl rfl (fun h8 => ?_) (fun h8 => ?_)
    · refine oz_goto cx1 d_Law_1230 rfl ?_
      exact oz_lv [2, 3, 4, 5, 6] rfl (oz_leaf (fun h => h))
    · refine oz_aload_n (q := 1219) cx1 d_Law_1218 rfl rfl 3 rfl ?_
      refine oz_iconst (q := 1220) cx1 d_Law_1219 rfl (v := 0) rfl ?_
      refine oz_lald (q := 1221) cx1 74 1 (by decide) rfl d_Law_1220 rfl (fun j6 hj6 => ?_)
      refine oz_iload (q := 1223) cx1 d_Law_1221 rfl 0 rfl ?_
      refine oz_i2l (q := 1224) cx1 d_Law_1223 rfl ?_
      refine oz_lcmp (q := 1225) cx1 d_Law_1224 rfl ?_
      refine oz_if_eq (q := 1228) cx1 d_Law_1225 rfl rfl (fun h7 => ?_) (fun h7 => ?_)
      · refine oz_goto cx1 d_Law_1230 rfl ?_
        exact oz_lv [2, 3, 4, 5, 6] rfl (oz_leaf (fun h => h))
      · refine oz_iconst (q := 1229) cx1 d_Law_1228 rfl (v := 0) rfl ?_
        exact oz_none
  · refine oz_iconst (q := 1212) cx1 d_Law_1211 rfl (v := 0) rfl ?_
    exact oz_none
set_option maxRecDepth 20000 in
set_option maxHeartbeats 2000000 in
theorem w_L21 {G : oz_G} {b0 : Nat} {i p1 p2 p3 : Int32} {M : oz_M} (cx : oz_C G code "OrderHallLaw") (cx1 : oz_C (oz_G1 G) code "OrderHallLaw") (hfl : G.1.2.1.stackTraces = false) (hRm : oz_big G.1.2.2.2.1 10) (hcs : G.2.2.1.1 + 1 ≤ G.1.2.2.2.1.cells ∧ G.2.2.1.2.1 + 6 ≤ G.1.2.2.2.1.slots) (hnL : oz_nL G = 8) (h1 : oz_Scr G b0 (i + 1) p1) (h2 : oz_Scr G b0 (i + 2) p2) (h3 : oz_Scr G b0 (i + 3) p3) : oz_R G 1233 [(4, .int i), (3, .ref (oz_b G + 74)), (2, .ref (oz_b G + 62)), (1, .ref (oz_b G + 0)), (0, .ref b0)] [] M (f_L21 p1 p2 p3 M) (fun M1 => oz_Z (oz_G1 G) 1357 [(4, .int i), (3, .ref (oz_b G + 74)), (2, .ref (oz_b G + 62)), (1, .ref (oz_b G + 0)), (0, .ref b0)] [] M1) := by
  unfold f_L21
  refine oz_aload_n (q := 1234) cx d_Law_1233 rfl rfl 3 rfl ?_
  refine oz_cW (kc := 7) cx [.ref (oz_b G + 0)] 1 hRm (by decide) (by decide) hcs (fun _ _ h => c_Law_turn hfl h) ⟨tw_694, tw_695, tw_0⟩ tw_696 (by decide +kernel) rfl (st := []) rfl (Nat.le_of_ble_eq_true rfl) d_Law_1234 rfl (fun v1 M2 hv1 => ?_)
  refine oz_istore (q := 1239) cx1 d_Law_1237 rfl (by rw [hnL]; decide) (lv2 := [(5, .int v1), (4, .int i), (3, .ref (oz_b G + 74)), (2, .ref (oz_b G + 62)), (1, .ref (oz_b G + 0)), (0, .ref b0)]) rfl ?_
  refine oz_aload_n (q := 1240) cx1 d_Law_1239 rfl rfl 3 rfl ?_
  refine oz_cVv (q := 1243) cx1 62 [] 0 8 hRm (by decide) (by decide) (fun _ _ h => c_Model_turn h) ⟨tw_1026, tw_1027, tw_1028, tw_9⟩ tw_1029 (by decide +kernel) rfl (by decide) rfl rfl (st := []) rfl (Nat.le_of_ble_eq_true rfl) d_Law_1240 rfl (fun v3 M4 hv3 => ?_)
  refine oz_aload_n (q := 1244) cx1 d_Law_1243 rfl rfl 3 rfl ?_
  refine oz_cVip (q := 1247) cx1 62 [] 0 8 hRm (by decide) (by decide) (fun _ h => c_Model_thrown h) ⟨tw_839, tw_840, tw_841, tw_9⟩ tw_842 (by decide +kernel) rfl (by decide) rfl rfl (st := []) rfl (Nat.le_of_ble_eq_true rfl) d_Law_1244 rfl (fun v5 hv5 => ?_)
  refine oz_iload (q := 1249) cx1 d_Law_1247 rfl 0 rfl ?_
  refine oz_icmp_eq (q := 1252) cx1 d_Law_1249 rfl rfl (fun h6 => ?_) (fun h6 => ?_)
  · refine oz_goto cx1 d_Law_1254 rfl ?_
    exact oz_lv [1, 2, 3, 4, 5] rfl (oz_leaf (fun h => h))
  · refine oz_iconst (q := 1253) cx1 d_Law_1252 rfl (v := 0) rfl ?_
    exact oz_none
set_option maxRecDepth 20000 in
set_option maxHeartbeats 2000000 in
theorem w_L22 {G : oz_G} {b0 : Nat} {i p1 p2 p3 : Int32} {M : oz_M} (cx : oz_C G code "OrderHallLaw") (cx1 : oz_C (oz_G1 G) code "OrderHallLaw") (hfl : G.1.2.1.stackTraces = false) (hRm : oz_big G.1.2.2.2.1 10) (hcs : G.2.2.1.1 + 1 ≤ G.1.2.2.2.1.cells ∧ G.2.2.1.2.1 + 6 ≤ G.1.2.2.2.1.slots) (hnL : oz_nL G = 8) (h1 : oz_Scr G b0 (i + 1) p1) (h2 : oz_Scr G b0 (i + 2) p2) (h3 : oz_Scr G b0 (i + 3) p3) : oz_R G 1257 [(4, .int i), (3, .ref (oz_b G + 74)), (2, .ref (oz_b G + 62)), (1, .ref (oz_b G + 0)), (0, .ref b0)] [] M (f_L22 p1 p2 p3 M) (fun M1 => oz_Z (oz_G1 G) 1357 [(4, .int i), (3, .ref (oz_b G + 74)), (2, .ref (oz_b G + 62)), (1, .ref (oz_b G + 0)), (0, .ref b0)] [] M1) := by
  unfold f_L22
  refine oz_aload_n (q := 1258) cx d_Law_1257 rfl rfl 3 rfl ?_
  refine oz_aload_n (q := 1259) cx d_Law_1258 rfl rfl 4 rfl ?_
  refine oz_iload (q := 1261) cx d_Law_1259 rfl 0 rfl ?_
  refine oz_iconst (q := 1262) cx d_Law_1261 rfl (v := 1) rfl ?_
  refine oz_iadd (q := 1263) cx d_Law_1262 rfl ?_
  refine oz_sld (q := 1264) cx h1 d_Law_1263 rfl ?_
  refine oz_aload_n (q := 1265) cx d_Law_1264 rfl rfl 1 rfl ?_
  refine oz_cW (kc := 7) cx [.ref (oz_b G + 0), .int p1, .ref (oz_b G + 74)] 3 hRm (by decide) (by decide) hcs (fun _ _ h => c_Law_keep hfl h) ⟨tw_705, tw_706, tw_0⟩ tw_707 (by decide +kernel) rfl (st := []) rfl (Nat.le_of_ble_eq_true rfl) d_Law_1265 rfl (fun v1 M2 hv1 => ?_)
  refine oz_istore (q := 1270) cx1 d_Law_1268 rfl (by rw [hnL]; decide) (lv2 := [(5, .int v1), (4, .int i), (3, .ref (oz_b G + 74)), (2, .ref (oz_b G + 62)), (1, .ref (oz_b G + 0)), (0, .ref b0)]) rfl ?_
  refine oz_aload_n (q := 1271) cx1 d_Law_1270 rfl rfl 3 rfl ?_
  refine oz_aload_n (q := 1272) cx1 d_Law_1271 rfl rfl 5 rfl ?_
  refine oz_iload (q := 1274) cx1 d_Law_1272 rfl 1 rfl ?_
  refine oz_iconst (q := 1275) cx1 d_Law_1274 rfl (v := 1) rfl ?_
  refine oz_iadd (q := 1276) cx1 d_Law_1275 rfl ?_
  refine oz_sld (q := 1277) cx1 h1 d_Law_1276 rfl ?_
  refine oz_cVi (q := 1280) cx1 62 [.int p1] 1 8 hRm (by decide) (by decide) (fun _ _ h => c_Model_keep h) ⟨tw_1031, tw_1032, tw_1033, tw_9⟩ tw_1034 (by decide +kernel) rfl (by decide) rfl rfl (st := []) rfl (Nat.le_of_ble_eq_true rfl) d_Law_1277 rfl (fun v3 M4 hv3 => ?_)
  refine oz_istore (q := 1282) cx1 d_Law_1280 rfl (by rw [hnL]; decide) (lv2 := [(6, .int v3), (5, .int v1), (4, .int i), (3, .ref (oz_b G + 74)), (2, .ref (oz_b G + 62)), (1, .ref (oz_b G + 0)), (0, .ref b0)]) rfl ?_
  refine oz_aload_n (q := 1283) cx1 d_Law_1282 rfl rfl 4 rfl ?_
  refine oz_cVip (q := 1286) cx1 62 [] 0 8 hRm (by decide) (by decide) (fun _ h => c_Model_thrown h) ⟨tw_839, tw_840, tw_841, tw_9⟩ tw_842 (by decide +kernel) rfl (by decide) rfl rfl (st := []) rfl (Nat.le_of_ble_eq_true rfl) d_Law_1283 rfl (fun v5 hv5 => ?_)
  refine oz_iload (q := 1288) cx1 d_Law_1286 rfl 1 rfl ?_
  refine oz_icmp_eq (q := 1291) cx1 d_Law_1288 rfl rfl (fun h9 => ?_) (fun h9 => ?_)
  · refine oz_iload (q := 1295) cx1 d_Law_1293 rfl 1 rfl ?_
    refine oz_if_ne (q := 1298) cx1 d_Law_1295 rfl rfl (fun h8 => ?_) (fun h8 => ?_)
    · refine oz_goto cx1 d_Law_1310 rfl ?_
      exact oz_lv [2, 3, 4, 5, 6] rfl (oz_leaf (fun h => h))
    · refine oz_aload_n (q := 1299) cx1 d_Law_1298 rfl rfl 3 rfl ?_
      refine oz_iconst (q := 1300) cx1 d_Law_1299 rfl (v := 0) rfl ?_
      refine oz_lald (q := 1301) cx1 74 1 (by decide) rfl d_Law_1300 rfl (fun j6 hj6 => ?_)
      refine oz_iload (q := 1303) cx1 d_Law_1301 rfl 0 rfl ?_
      refine oz_i2l (q := 1304) cx1 d_Law_1303 rfl ?_
      refine oz_lcmp (q := 1305) cx1 d_Law_1304 rfl ?_
      refine oz_if_eq (q := 1308) cx1 d_Law_1305 rfl rfl (fun h7 => ?_) (fun h7 => ?_)
      · refine oz_goto cx1 d_Law_1310 rfl ?_
        exact oz_lv [2, 3, 4, 5, 6] rfl (oz_leaf (fun h => h))
      · refine oz_iconst (q := 1309) cx1 d_Law_1308 rfl (v := 0) rfl ?_
        exact oz_none
  · refine oz_iconst (q := 1292) cx1 d_Law_1291 rfl (v := 0) rfl ?_
    exact oz_none
set_option maxRecDepth 20000 in
set_option maxHeartbeats 2000000 in
theorem w_L23 {G : oz_G} {b0 : Nat} {i p1 p2 p3 : Int32} {M : oz_M} (cx : oz_C G code "OrderHallLaw") (cx1 : oz_C (oz_G1 G) code "OrderHallLaw") (hfl : G.1.2.1.stackTraces = false) (hRm : oz_big G.1.2.2.2.1 10) (hcs : G.2.2.1.1 + 1 ≤ G.1.2.2.2.1.cells ∧ G.2.2.1.2.1 + 6 ≤ G.1.2.2.2.1.slots) (hnL : oz_nL G = 8) (h1 : oz_Scr G b0 (i + 1) p1) (h2 : oz_Scr G b0 (i + 2) p2) (h3 : oz_Scr G b0 (i + 3) p3) : oz_R G 1313 [(4, .int i), (3, .ref (oz_b G + 74)), (2, .ref (oz_b G + 62)), (1, .ref (oz_b G + 0)), (0, .ref b0)] [] M (f_L23 p1 p2 p3 M) (fun M1 => oz_Z (oz_G1 G) 1357 [(4, .int i), (3, .ref (oz_b G + 74)), (2, .ref (oz_b G + 62)), (1, .ref (oz_b G + 0)), (0, .ref b0)] [] M1) := by
  unfold f_L23
  refine oz_aload_n (q := 1314) cx d_Law_1313 rfl rfl 3 rfl ?_
  refine oz_aload_n (q := 1315) cx d_Law_1314 rfl rfl 1 rfl ?_
  refine oz_cW (kc := 7) cx [.ref (oz_b G + 0), .ref (oz_b G + 74)] 2 hRm (by decide) (by decide) hcs (fun _ _ h => c_Law_check hfl h) ⟨tw_726, tw_727, tw_0⟩ tw_728 (by decide +kernel) rfl (st := []) rfl (Nat.le_of_ble_eq_true rfl) d_Law_1315 rfl (fun v1 M2 hv1 => ?_)
  refine oz_istore (q := 1320) cx1 d_Law_1318 rfl (by rw [hnL]; decide) (lv2 := [(5, .int v1), (4, .int i), (3, .ref (oz_b G + 74)), (2, .ref (oz_b G + 62)), (1, .ref (oz_b G + 0)), (0, .ref b0)]) rfl ?_
  refine oz_aload_n (q := 1321) cx1 d_Law_1320 rfl rfl 3 rfl ?_
  refine oz_cVi (q := 1324) cx1 62 [] 0 8 hRm (by decide) (by decide) (fun _ _ h => c_Model_check h) ⟨tw_1035, tw_1036, tw_1037, tw_9⟩ tw_1038 (by decide +kernel) rfl (by decide) rfl rfl (st := []) rfl (Nat.le_of_ble_eq_true rfl) d_Law_1321 rfl (fun v3 M4 hv3 => ?_)
  refine oz_istore (q := 1326) cx1 d_Law_1324 rfl (by rw [hnL]; decide) (lv2 := [(6, .int v3), (5, .int v1), (4, .int i), (3, .ref (oz_b G + 74)), (2, .ref (oz_b G + 62)), (1, .ref (oz_b G + 0)), (0, .ref b0)]) rfl ?_
  refine oz_aload_n (q := 1327) cx1 d_Law_1326 rfl rfl 4 rfl ?_
  refine oz_cVip (q := 1330) cx1 62 [] 0 8 hRm (by decide) (by decide) (fun _ h => c_Model_thrown h) ⟨tw_839, tw_840, tw_841, tw_9⟩ tw_842 (by decide +kernel) rfl (by decide) rfl rfl (st := []) rfl (Nat.le_of_ble_eq_true rfl) d_Law_1327 rfl (fun v5 hv5 => ?_)
  refine oz_iload (q := 1332) cx1 d_Law_1330 rfl 1 rfl ?_
  refine oz_icmp_eq (q := 1335) cx1 d_Law_1332 rfl rfl (fun h9 => ?_) (fun h9 => ?_)
  · refine oz_iload (q := 1339) cx1 d_Law_1337 rfl 1 rfl ?_
    refine oz_if_ne (q := 1342) cx1 d_Law_1339 rfl rfl (fun h8 => ?_) (fun h8 => ?_)
    · refine oz_goto cx1 d_Law_1354 rfl ?_
      exact oz_lv [2, 3, 4, 5, 6] rfl (oz_leaf (fun h => h))
    · refine oz_aload_n (q := 1343) cx1 d_Law_1342 rfl rfl 3 rfl ?_
      refine oz_iconst (q := 1344) cx1 d_Law_1343 rfl (v := 0) rfl ?_
      refine oz_lald (q := 1345) cx1 74 1 (by decide) rfl d_Law_1344 rfl (fun j6 hj6 => ?_)
      refine oz_iload (q := 1347) cx1 d_Law_1345 rfl 0 rfl ?_
      refine oz_i2l (q := 1348) cx1 d_Law_1347 rfl ?_
      refine oz_lcmp (q := 1349) cx1 d_Law_1348 rfl ?_
      refine oz_if_eq (q := 1352) cx1 d_Law_1349 rfl rfl (fun h7 => ?_) (fun h7 => ?_)
      · refine oz_goto cx1 d_Law_1354 rfl ?_
        exact oz_lv [2, 3, 4, 5, 6] rfl (oz_leaf (fun h => h))
      · refine oz_iconst (q := 1353) cx1 d_Law_1352 rfl (v := 0) rfl ?_
        exact oz_none
  · refine oz_iconst (q := 1336) cx1 d_Law_1335 rfl (v := 0) rfl ?_
    exact oz_none
noncomputable def f_step (p0 p1 p2 p3 : Int32) (M : oz_M) : Option oz_M := if p0 &&& 31 = 0 then f_L0 p1 p2 p3 M else if p0 &&& 31 = 1 then f_L1 p1 p2 p3 M else if p0 &&& 31 = 2 then f_L2 p1 p2 p3 M else if p0 &&& 31 = 3 then f_L3 p1 p2 p3 M else if p0 &&& 31 = 4 then f_L4 p1 p2 p3 M else if p0 &&& 31 = 5 then f_L5 p1 p2 p3 M else if p0 &&& 31 = 6 then f_L6 p1 p2 p3 M else if p0 &&& 31 = 7 then f_L7 p1 p2 p3 M else if p0 &&& 31 = 8 then f_L8 p1 p2 p3 M else if p0 &&& 31 = 9 then f_L9 p1 p2 p3 M else if p0 &&& 31 = 10 then f_L10 p1 p2 p3 M else if p0 &&& 31 = 11 then f_L11 p1 p2 p3 M else if p0 &&& 31 = 12 then f_L12 p1 p2 p3 M else if p0 &&& 31 = 13 then f_L13 p1 p2 p3 M else if p0 &&& 31 = 14 then f_L14 p1 p2 p3 M else if p0 &&& 31 = 15 then f_L15 p1 p2 p3 M else if p0 &&& 31 = 16 then f_L16 p1 p2 p3 M else if p0 &&& 31 = 17 then f_L17 p1 p2 p3 M else if p0 &&& 31 = 18 then f_L18 p1 p2 p3 M else if p0 &&& 31 = 19 then f_L19 p1 p2 p3 M else if p0 &&& 31 = 20 then f_L20 p1 p2 p3 M else if p0 &&& 31 = 21 then f_L21 p1 p2 p3 M else if p0 &&& 31 = 22 then f_L22 p1 p2 p3 M else if p0 &&& 31 = 23 then f_L23 p1 p2 p3 M else some M
