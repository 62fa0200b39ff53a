theorem q_356 : (Jvm.Cond.methodLink "SplitWatchLaw" (13 : Nat) ({ cls := "SplitWatch", name := "begin", desc := "(IIII)I" } : Jvm.MethodName)) ∈ sw_WS := sw_mem 356 (by decide +kernel) rfl
theorem q_357 : (Jvm.Cond.instanceMethod ({ cls := "SplitWatch", name := "begin", desc := "(IIII)I" } : Jvm.MethodName)) ∈ sw_WS := sw_mem 357 (by decide +kernel) rfl
theorem q_358 : (Jvm.Cond.selects "SplitWatch" ({ cls := "SplitWatch", name := "begin", desc := "(IIII)I" } : Jvm.MethodName) ({ cls := "SplitWatch", name := "begin", desc := "(IIII)I" } : Jvm.MethodName)) ∈ sw_WS := sw_mem 358 (by decide +kernel) rfl
theorem q_359 : (Jvm.Cond.code ({ cls := "SplitWatch", name := "begin", desc := "(IIII)I" } : Jvm.MethodName) prog_1_method_2_code (6 : Nat) (Option.some Jvm.ClassFile.FieldType.int)) ∈ sw_WS := sw_mem 359 (by decide +kernel) rfl
theorem q_363 : (Jvm.Cond.methodLink "SplitWatchLaw" (18 : Nat) ({ cls := "SplitWatch", name := "read", desc := "(II)I" } : Jvm.MethodName)) ∈ sw_WS := sw_mem 363 (by decide +kernel) rfl
theorem q_364 : (Jvm.Cond.instanceMethod ({ cls := "SplitWatch", name := "read", desc := "(II)I" } : Jvm.MethodName)) ∈ sw_WS := sw_mem 364 (by decide +kernel) rfl
theorem q_365 : (Jvm.Cond.selects "SplitWatch" ({ cls := "SplitWatch", name := "read", desc := "(II)I" } : Jvm.MethodName) ({ cls := "SplitWatch", name := "read", desc := "(II)I" } : Jvm.MethodName)) ∈ sw_WS := sw_mem 365 (by decide +kernel) rfl
theorem q_366 : (Jvm.Cond.code ({ cls := "SplitWatch", name := "read", desc := "(II)I" } : Jvm.MethodName) prog_1_method_3_code (3 : Nat) (Option.some Jvm.ClassFile.FieldType.int)) ∈ sw_WS := sw_mem 366 (by decide +kernel) rfl
theorem q_420 : (Jvm.Cond.methodLink "SplitWatchLaw" (23 : Nat) ({ cls := "SplitWatch", name := "store", desc := "(III)I" } : Jvm.MethodName)) ∈ sw_WS := sw_mem 420 (by decide +kernel) rfl
theorem q_421 : (Jvm.Cond.instanceMethod ({ cls := "SplitWatch", name := "store", desc := "(III)I" } : Jvm.MethodName)) ∈ sw_WS := sw_mem 421 (by decide +kernel) rfl
theorem q_422 : (Jvm.Cond.selects "SplitWatch" ({ cls := "SplitWatch", name := "store", desc := "(III)I" } : Jvm.MethodName) ({ cls := "SplitWatch", name := "store", desc := "(III)I" } : Jvm.MethodName)) ∈ sw_WS := sw_mem 422 (by decide +kernel) rfl
theorem q_423 : (Jvm.Cond.code ({ cls := "SplitWatch", name := "store", desc := "(III)I" } : Jvm.MethodName) prog_1_method_4_code (4 : Nat) (Option.some Jvm.ClassFile.FieldType.int)) ∈ sw_WS := sw_mem 423 (by decide +kernel) rfl
theorem q_432 : (Jvm.Cond.methodLink "SplitWatchLaw" (28 : Nat) ({ cls := "SplitWatch", name := "drop", desc := "(II)I" } : Jvm.MethodName)) ∈ sw_WS := sw_mem 432 (by decide +kernel) rfl
theorem q_433 : (Jvm.Cond.instanceMethod ({ cls := "SplitWatch", name := "drop", desc := "(II)I" } : Jvm.MethodName)) ∈ sw_WS := sw_mem 433 (by decide +kernel) rfl
theorem q_434 : (Jvm.Cond.selects "SplitWatch" ({ cls := "SplitWatch", name := "drop", desc := "(II)I" } : Jvm.MethodName) ({ cls := "SplitWatch", name := "drop", desc := "(II)I" } : Jvm.MethodName)) ∈ sw_WS := sw_mem 434 (by decide +kernel) rfl
theorem q_435 : (Jvm.Cond.code ({ cls := "SplitWatch", name := "drop", desc := "(II)I" } : Jvm.MethodName) prog_1_method_5_code (3 : Nat) (Option.some Jvm.ClassFile.FieldType.int)) ∈ sw_WS := sw_mem 435 (by decide +kernel) rfl
theorem q_440 : (Jvm.Cond.methodLink "SplitWatchLaw" (32 : Nat) ({ cls := "SplitWatch", name := "turn", desc := "(I)I" } : Jvm.MethodName)) ∈ sw_WS := sw_mem 440 (by decide +kernel) rfl
theorem q_441 : (Jvm.Cond.instanceMethod ({ cls := "SplitWatch", name := "turn", desc := "(I)I" } : Jvm.MethodName)) ∈ sw_WS := sw_mem 441 (by decide +kernel) rfl
theorem q_442 : (Jvm.Cond.selects "SplitWatch" ({ cls := "SplitWatch", name := "turn", desc := "(I)I" } : Jvm.MethodName) ({ cls := "SplitWatch", name := "turn", desc := "(I)I" } : Jvm.MethodName)) ∈ sw_WS := sw_mem 442 (by decide +kernel) rfl
theorem q_443 : (Jvm.Cond.code ({ cls := "SplitWatch", name := "turn", desc := "(I)I" } : Jvm.MethodName) prog_1_method_6_code (2 : Nat) (Option.some Jvm.ClassFile.FieldType.int)) ∈ sw_WS := sw_mem 443 (by decide +kernel) rfl
theorem q_512 : (Jvm.Cond.methodLink "SplitWatchLaw" (37 : Nat) ({ cls := "SplitWatch", name := "write", desc := "(I)I" } : Jvm.MethodName)) ∈ sw_WS := sw_mem 512 (by decide +kernel) rfl
theorem q_513 : (Jvm.Cond.instanceMethod ({ cls := "SplitWatch", name := "write", desc := "(I)I" } : Jvm.MethodName)) ∈ sw_WS := sw_mem 513 (by decide +kernel) rfl
theorem q_514 : (Jvm.Cond.selects "SplitWatch" ({ cls := "SplitWatch", name := "write", desc := "(I)I" } : Jvm.MethodName) ({ cls := "SplitWatch", name := "write", desc := "(I)I" } : Jvm.MethodName)) ∈ sw_WS := sw_mem 514 (by decide +kernel) rfl
theorem q_515 : (Jvm.Cond.code ({ cls := "SplitWatch", name := "write", desc := "(I)I" } : Jvm.MethodName) prog_1_method_7_code (2 : Nat) (Option.some Jvm.ClassFile.FieldType.int)) ∈ sw_WS := sw_mem 515 (by decide +kernel) rfl
theorem q_523 : (Jvm.Cond.methodLink "SplitWatchLaw" (41 : Nat) ({ cls := "SplitWatch", name := "wipe", desc := "()I" } : Jvm.MethodName)) ∈ sw_WS := sw_mem 523 (by decide +kernel) rfl
theorem q_524 : (Jvm.Cond.instanceMethod ({ cls := "SplitWatch", name := "wipe", desc := "()I" } : Jvm.MethodName)) ∈ sw_WS := sw_mem 524 (by decide +kernel) rfl
theorem q_525 : (Jvm.Cond.selects "SplitWatch" ({ cls := "SplitWatch", name := "wipe", desc := "()I" } : Jvm.MethodName) ({ cls := "SplitWatch", name := "wipe", desc := "()I" } : Jvm.MethodName)) ∈ sw_WS := sw_mem 525 (by decide +kernel) rfl
theorem q_526 : (Jvm.Cond.code ({ cls := "SplitWatch", name := "wipe", desc := "()I" } : Jvm.MethodName) prog_1_method_8_code (2 : Nat) (Option.some Jvm.ClassFile.FieldType.int)) ∈ sw_WS := sw_mem 526 (by decide +kernel) rfl
theorem q_527 : (Jvm.Cond.methodLink "SplitWatchLaw" (46 : Nat) ({ cls := "SplitWatch", name := "fault", desc := "()I" } : Jvm.MethodName)) ∈ sw_WS := sw_mem 527 (by decide +kernel) rfl
theorem q_528 : (Jvm.Cond.instanceMethod ({ cls := "SplitWatch", name := "fault", desc := "()I" } : Jvm.MethodName)) ∈ sw_WS := sw_mem 528 (by decide +kernel) rfl
theorem q_529 : (Jvm.Cond.selects "SplitWatch" ({ cls := "SplitWatch", name := "fault", desc := "()I" } : Jvm.MethodName) ({ cls := "SplitWatch", name := "fault", desc := "()I" } : Jvm.MethodName)) ∈ sw_WS := sw_mem 529 (by decide +kernel) rfl
theorem q_530 : (Jvm.Cond.code ({ cls := "SplitWatch", name := "fault", desc := "()I" } : Jvm.MethodName) prog_1_method_9_code (1 : Nat) (Option.some Jvm.ClassFile.FieldType.int)) ∈ sw_WS := sw_mem 530 (by decide +kernel) rfl
theorem q_623 : (Jvm.Cond.methodLink "SplitWatchLaw" (50 : Nat) ({ cls := "SplitWatch", name := "play", desc := "()I" } : Jvm.MethodName)) ∈ sw_WS := sw_mem 623 (by decide +kernel) rfl
theorem q_624 : (Jvm.Cond.instanceMethod ({ cls := "SplitWatch", name := "play", desc := "()I" } : Jvm.MethodName)) ∈ sw_WS := sw_mem 624 (by decide +kernel) rfl
theorem q_625 : (Jvm.Cond.selects "SplitWatch" ({ cls := "SplitWatch", name := "play", desc := "()I" } : Jvm.MethodName) ({ cls := "SplitWatch", name := "play", desc := "()I" } : Jvm.MethodName)) ∈ sw_WS := sw_mem 625 (by decide +kernel) rfl
theorem q_626 : (Jvm.Cond.code ({ cls := "SplitWatch", name := "play", desc := "()I" } : Jvm.MethodName) prog_1_method_10_code (5 : Nat) (Option.some Jvm.ClassFile.FieldType.int)) ∈ sw_WS := sw_mem 626 (by decide +kernel) rfl
theorem q_639 : (Jvm.Cond.methodLink "SplitWatchLaw" (54 : Nat) ({ cls := "SplitWatch", name := "order", desc := "(I)I" } : Jvm.MethodName)) ∈ sw_WS := sw_mem 639 (by decide +kernel) rfl
theorem q_640 : (Jvm.Cond.instanceMethod ({ cls := "SplitWatch", name := "order", desc := "(I)I" } : Jvm.MethodName)) ∈ sw_WS := sw_mem 640 (by decide +kernel) rfl
theorem q_641 : (Jvm.Cond.selects "SplitWatch" ({ cls := "SplitWatch", name := "order", desc := "(I)I" } : Jvm.MethodName) ({ cls := "SplitWatch", name := "order", desc := "(I)I" } : Jvm.MethodName)) ∈ sw_WS := sw_mem 641 (by decide +kernel) rfl
theorem q_642 : (Jvm.Cond.code ({ cls := "SplitWatch", name := "order", desc := "(I)I" } : Jvm.MethodName) prog_1_method_11_code (3 : Nat) (Option.some Jvm.ClassFile.FieldType.int)) ∈ sw_WS := sw_mem 642 (by decide +kernel) rfl
theorem q_651 : (Jvm.Cond.methodLink "SplitWatchLaw" (58 : Nat) ({ cls := "SplitWatch", name := "told", desc := "(III)I" } : Jvm.MethodName)) ∈ sw_WS := sw_mem 651 (by decide +kernel) rfl
theorem q_652 : (Jvm.Cond.instanceMethod ({ cls := "SplitWatch", name := "told", desc := "(III)I" } : Jvm.MethodName)) ∈ sw_WS := sw_mem 652 (by decide +kernel) rfl
theorem q_653 : (Jvm.Cond.selects "SplitWatch" ({ cls := "SplitWatch", name := "told", desc := "(III)I" } : Jvm.MethodName) ({ cls := "SplitWatch", name := "told", desc := "(III)I" } : Jvm.MethodName)) ∈ sw_WS := sw_mem 653 (by decide +kernel) rfl
theorem q_654 : (Jvm.Cond.code ({ cls := "SplitWatch", name := "told", desc := "(III)I" } : Jvm.MethodName) prog_1_method_12_code (4 : Nat) (Option.some Jvm.ClassFile.FieldType.int)) ∈ sw_WS := sw_mem 654 (by decide +kernel) rfl
theorem q_662 : (Jvm.Cond.methodLink "SplitWatchLaw" (62 : Nat) ({ cls := "SplitWatch", name := "word", desc := "(III)I" } : Jvm.MethodName)) ∈ sw_WS := sw_mem 662 (by decide +kernel) rfl
theorem q_663 : (Jvm.Cond.instanceMethod ({ cls := "SplitWatch", name := "word", desc := "(III)I" } : Jvm.MethodName)) ∈ sw_WS := sw_mem 663 (by decide +kernel) rfl
theorem q_664 : (Jvm.Cond.selects "SplitWatch" ({ cls := "SplitWatch", name := "word", desc := "(III)I" } : Jvm.MethodName) ({ cls := "SplitWatch", name := "word", desc := "(III)I" } : Jvm.MethodName)) ∈ sw_WS := sw_mem 664 (by decide +kernel) rfl
theorem q_665 : (Jvm.Cond.code ({ cls := "SplitWatch", name := "word", desc := "(III)I" } : Jvm.MethodName) prog_1_method_13_code (6 : Nat) (Option.some Jvm.ClassFile.FieldType.int)) ∈ sw_WS := sw_mem 665 (by decide +kernel) rfl
theorem q_677 : (Jvm.Cond.methodLink "SplitWatchLaw" (66 : Nat) ({ cls := "SplitWatch", name := "cached", desc := "(III)I" } : Jvm.MethodName)) ∈ sw_WS := sw_mem 677 (by decide +kernel) rfl
theorem q_678 : (Jvm.Cond.instanceMethod ({ cls := "SplitWatch", name := "cached", desc := "(III)I" } : Jvm.MethodName)) ∈ sw_WS := sw_mem 678 (by decide +kernel) rfl
theorem q_679 : (Jvm.Cond.selects "SplitWatch" ({ cls := "SplitWatch", name := "cached", desc := "(III)I" } : Jvm.MethodName) ({ cls := "SplitWatch", name := "cached", desc := "(III)I" } : Jvm.MethodName)) ∈ sw_WS := sw_mem 679 (by decide +kernel) rfl
theorem q_680 : (Jvm.Cond.code ({ cls := "SplitWatch", name := "cached", desc := "(III)I" } : Jvm.MethodName) prog_1_method_14_code (5 : Nat) (Option.some Jvm.ClassFile.FieldType.int)) ∈ sw_WS := sw_mem 680 (by decide +kernel) rfl
theorem q_685 : (Jvm.Cond.methodLink "SplitWatchLaw" (70 : Nat) ({ cls := "SplitWatch", name := "buffered", desc := "(III)I" } : Jvm.MethodName)) ∈ sw_WS := sw_mem 685 (by decide +kernel) rfl
theorem q_686 : (Jvm.Cond.instanceMethod ({ cls := "SplitWatch", name := "buffered", desc := "(III)I" } : Jvm.MethodName)) ∈ sw_WS := sw_mem 686 (by decide +kernel) rfl
theorem q_687 : (Jvm.Cond.selects "SplitWatch" ({ cls := "SplitWatch", name := "buffered", desc := "(III)I" } : Jvm.MethodName) ({ cls := "SplitWatch", name := "buffered", desc := "(III)I" } : Jvm.MethodName)) ∈ sw_WS := sw_mem 687 (by decide +kernel) rfl
theorem q_688 : (Jvm.Cond.code ({ cls := "SplitWatch", name := "buffered", desc := "(III)I" } : Jvm.MethodName) prog_1_method_15_code (6 : Nat) (Option.some Jvm.ClassFile.FieldType.int)) ∈ sw_WS := sw_mem 688 (by decide +kernel) rfl
theorem q_701 : (Jvm.Cond.methodLink "SplitWatchLaw" (74 : Nat) ({ cls := "SplitWatch", name := "memory", desc := "(I)I" } : Jvm.MethodName)) ∈ sw_WS := sw_mem 701 (by decide +kernel) rfl
theorem q_702 : (Jvm.Cond.instanceMethod ({ cls := "SplitWatch", name := "memory", desc := "(I)I" } : Jvm.MethodName)) ∈ sw_WS := sw_mem 702 (by decide +kernel) rfl
theorem q_703 : (Jvm.Cond.selects "SplitWatch" ({ cls := "SplitWatch", name := "memory", desc := "(I)I" } : Jvm.MethodName) ({ cls := "SplitWatch", name := "memory", desc := "(I)I" } : Jvm.MethodName)) ∈ sw_WS := sw_mem 703 (by decide +kernel) rfl
theorem q_704 : (Jvm.Cond.code ({ cls := "SplitWatch", name := "memory", desc := "(I)I" } : Jvm.MethodName) prog_1_method_16_code (2 : Nat) (Option.some Jvm.ClassFile.FieldType.int)) ∈ sw_WS := sw_mem 704 (by decide +kernel) rfl
theorem q_705 : (Jvm.Cond.methodLink "SplitWatchLaw" (78 : Nat) ({ cls := "SplitWatch", name := "truth", desc := "(I)I" } : Jvm.MethodName)) ∈ sw_WS := sw_mem 705 (by decide +kernel) rfl
theorem q_706 : (Jvm.Cond.instanceMethod ({ cls := "SplitWatch", name := "truth", desc := "(I)I" } : Jvm.MethodName)) ∈ sw_WS := sw_mem 706 (by decide +kernel) rfl
theorem q_707 : (Jvm.Cond.selects "SplitWatch" ({ cls := "SplitWatch", name := "truth", desc := "(I)I" } : Jvm.MethodName) ({ cls := "SplitWatch", name := "truth", desc := "(I)I" } : Jvm.MethodName)) ∈ sw_WS := sw_mem 707 (by decide +kernel) rfl
theorem q_708 : (Jvm.Cond.code ({ cls := "SplitWatch", name := "truth", desc := "(I)I" } : Jvm.MethodName) prog_1_method_17_code (2 : Nat) (Option.some Jvm.ClassFile.FieldType.int)) ∈ sw_WS := sw_mem 708 (by decide +kernel) rfl
theorem q_713 : (Jvm.Cond.methodLink "SplitWatchLaw" (82 : Nat) ({ cls := "SplitWatch", name := "core", desc := "(II)I" } : Jvm.MethodName)) ∈ sw_WS := sw_mem 713 (by decide +kernel) rfl
theorem q_714 : (Jvm.Cond.instanceMethod ({ cls := "SplitWatch", name := "core", desc := "(II)I" } : Jvm.MethodName)) ∈ sw_WS := sw_mem 714 (by decide +kernel) rfl
theorem q_715 : (Jvm.Cond.selects "SplitWatch" ({ cls := "SplitWatch", name := "core", desc := "(II)I" } : Jvm.MethodName) ({ cls := "SplitWatch", name := "core", desc := "(II)I" } : Jvm.MethodName)) ∈ sw_WS := sw_mem 715 (by decide +kernel) rfl
theorem q_716 : (Jvm.Cond.code ({ cls := "SplitWatch", name := "core", desc := "(II)I" } : Jvm.MethodName) prog_1_method_18_code (5 : Nat) (Option.some Jvm.ClassFile.FieldType.int)) ∈ sw_WS := sw_mem 716 (by decide +kernel) rfl
theorem q_717 : (Jvm.Cond.methodLink "SplitWatchLaw" (86 : Nat) ({ cls := "SplitWatch", name := "waiting", desc := "(II)I" } : Jvm.MethodName)) ∈ sw_WS := sw_mem 717 (by decide +kernel) rfl
theorem q_718 : (Jvm.Cond.instanceMethod ({ cls := "SplitWatch", name := "waiting", desc := "(II)I" } : Jvm.MethodName)) ∈ sw_WS := sw_mem 718 (by decide +kernel) rfl
theorem q_719 : (Jvm.Cond.selects "SplitWatch" ({ cls := "SplitWatch", name := "waiting", desc := "(II)I" } : Jvm.MethodName) ({ cls := "SplitWatch", name := "waiting", desc := "(II)I" } : Jvm.MethodName)) ∈ sw_WS := sw_mem 719 (by decide +kernel) rfl
theorem q_720 : (Jvm.Cond.code ({ cls := "SplitWatch", name := "waiting", desc := "(II)I" } : Jvm.MethodName) prog_1_method_19_code (4 : Nat) (Option.some Jvm.ClassFile.FieldType.int)) ∈ sw_WS := sw_mem 720 (by decide +kernel) rfl
theorem q_733 : (Jvm.Cond.methodLink "SplitWatchLaw" (90 : Nat) ({ cls := "SplitWatch", name := "open", desc := "(II)I" } : Jvm.MethodName)) ∈ sw_WS := sw_mem 733 (by decide +kernel) rfl
theorem q_734 : (Jvm.Cond.instanceMethod ({ cls := "SplitWatch", name := "open", desc := "(II)I" } : Jvm.MethodName)) ∈ sw_WS := sw_mem 734 (by decide +kernel) rfl
theorem q_735 : (Jvm.Cond.selects "SplitWatch" ({ cls := "SplitWatch", name := "open", desc := "(II)I" } : Jvm.MethodName) ({ cls := "SplitWatch", name := "open", desc := "(II)I" } : Jvm.MethodName)) ∈ sw_WS := sw_mem 735 (by decide +kernel) rfl
theorem q_736 : (Jvm.Cond.code ({ cls := "SplitWatch", name := "open", desc := "(II)I" } : Jvm.MethodName) prog_1_method_20_code (4 : Nat) (Option.some Jvm.ClassFile.FieldType.int)) ∈ sw_WS := sw_mem 736 (by decide +kernel) rfl
theorem q_745 : (Jvm.Cond.methodLink "SplitWatchLaw" (94 : Nat) ({ cls := "SplitWatch", name := "day", desc := "(II)I" } : Jvm.MethodName)) ∈ sw_WS := sw_mem 745 (by decide +kernel) rfl
theorem q_746 : (Jvm.Cond.instanceMethod ({ cls := "SplitWatch", name := "day", desc := "(II)I" } : Jvm.MethodName)) ∈ sw_WS := sw_mem 746 (by decide +kernel) rfl
theorem q_747 : (Jvm.Cond.selects "SplitWatch" ({ cls := "SplitWatch", name := "day", desc := "(II)I" } : Jvm.MethodName) ({ cls := "SplitWatch", name := "day", desc := "(II)I" } : Jvm.MethodName)) ∈ sw_WS := sw_mem 747 (by decide +kernel) rfl
theorem q_748 : (Jvm.Cond.code ({ cls := "SplitWatch", name := "day", desc := "(II)I" } : Jvm.MethodName) prog_1_method_21_code (11 : Nat) (Option.some Jvm.ClassFile.FieldType.int)) ∈ sw_WS := sw_mem 748 (by decide +kernel) rfl
theorem q_755 : (Jvm.Cond.methodLink "SplitWatchLaw" (98 : Nat) ({ cls := "SplitWatch", name := "count", desc := "(I)I" } : Jvm.MethodName)) ∈ sw_WS := sw_mem 755 (by decide +kernel) rfl
theorem q_756 : (Jvm.Cond.instanceMethod ({ cls := "SplitWatch", name := "count", desc := "(I)I" } : Jvm.MethodName)) ∈ sw_WS := sw_mem 756 (by decide +kernel) rfl
theorem q_757 : (Jvm.Cond.selects "SplitWatch" ({ cls := "SplitWatch", name := "count", desc := "(I)I" } : Jvm.MethodName) ({ cls := "SplitWatch", name := "count", desc := "(I)I" } : Jvm.MethodName)) ∈ sw_WS := sw_mem 757 (by decide +kernel) rfl
theorem q_758 : (Jvm.Cond.code ({ cls := "SplitWatch", name := "count", desc := "(I)I" } : Jvm.MethodName) prog_1_method_22_code (2 : Nat) (Option.some Jvm.ClassFile.FieldType.int)) ∈ sw_WS := sw_mem 758 (by decide +kernel) rfl
theorem q_881 : (Jvm.Cond.methodLink "SplitWatchLaw" (17 : Nat) ({ cls := "SplitWatchModel", name := "begin", desc := "(IIII)I" } : Jvm.MethodName)) ∈ sw_WS := sw_mem 881 (by decide +kernel) rfl
theorem q_882 : (Jvm.Cond.methodLink "SplitWatchLaw" (22 : Nat) ({ cls := "SplitWatchModel", name := "read", desc := "(II)I" } : Jvm.MethodName)) ∈ sw_WS := sw_mem 882 (by decide +kernel) rfl
theorem q_946 : (Jvm.Cond.methodLink "SplitWatchLaw" (27 : Nat) ({ cls := "SplitWatchModel", name := "store", desc := "(III)I" } : Jvm.MethodName)) ∈ sw_WS := sw_mem 946 (by decide +kernel) rfl
theorem q_955 : (Jvm.Cond.methodLink "SplitWatchLaw" (31 : Nat) ({ cls := "SplitWatchModel", name := "drop", desc := "(II)I" } : Jvm.MethodName)) ∈ sw_WS := sw_mem 955 (by decide +kernel) rfl
theorem q_959 : (Jvm.Cond.methodLink "SplitWatchLaw" (36 : Nat) ({ cls := "SplitWatchModel", name := "turn", desc := "(I)I" } : Jvm.MethodName)) ∈ sw_WS := sw_mem 959 (by decide +kernel) rfl
theorem q_1020 : (Jvm.Cond.methodLink "SplitWatchLaw" (40 : Nat) ({ cls := "SplitWatchModel", name := "write", desc := "(I)I" } : Jvm.MethodName)) ∈ sw_WS := sw_mem 1020 (by decide +kernel) rfl
theorem q_1021 : (Jvm.Cond.instanceMethod ({ cls := "SplitWatchModel", name := "write", desc := "(I)I" } : Jvm.MethodName)) ∈ sw_WS := sw_mem 1021 (by decide +kernel) rfl
theorem q_1022 : (Jvm.Cond.selects "SplitWatchModel" ({ cls := "SplitWatchModel", name := "write", desc := "(I)I" } : Jvm.MethodName) ({ cls := "SplitWatchModel", name := "write", desc := "(I)I" } : Jvm.MethodName)) ∈ sw_WS := sw_mem 1022 (by decide +kernel) rfl
theorem q_1023 : (Jvm.Cond.code ({ cls := "SplitWatchModel", name := "write", desc := "(I)I" } : Jvm.MethodName) prog_9_method_38_code (2 : Nat) (Option.some Jvm.ClassFile.FieldType.int)) ∈ sw_WS := sw_mem 1023 (by decide +kernel) rfl
theorem q_1026 : (Jvm.Cond.methodLink "SplitWatchLaw" (45 : Nat) ({ cls := "SplitWatchModel", name := "wipe", desc := "()I" } : Jvm.MethodName)) ∈ sw_WS := sw_mem 1026 (by decide +kernel) rfl
theorem q_1027 : (Jvm.Cond.instanceMethod ({ cls := "SplitWatchModel", name := "wipe", desc := "()I" } : Jvm.MethodName)) ∈ sw_WS := sw_mem 1027 (by decide +kernel) rfl
theorem q_1028 : (Jvm.Cond.selects "SplitWatchModel" ({ cls := "SplitWatchModel", name := "wipe", desc := "()I" } : Jvm.MethodName) ({ cls := "SplitWatchModel", name := "wipe", desc := "()I" } : Jvm.MethodName)) ∈ sw_WS := sw_mem 1028 (by decide +kernel) rfl
theorem q_1029 : (Jvm.Cond.code ({ cls := "SplitWatchModel", name := "wipe", desc := "()I" } : Jvm.MethodName) prog_9_method_39_code (2 : Nat) (Option.some Jvm.ClassFile.FieldType.int)) ∈ sw_WS := sw_mem 1029 (by decide +kernel) rfl
theorem q_1030 : (Jvm.Cond.methodLink "SplitWatchLaw" (49 : Nat) ({ cls := "SplitWatchModel", name := "fault", desc := "()I" } : Jvm.MethodName)) ∈ sw_WS := sw_mem 1030 (by decide +kernel) rfl
theorem q_1060 : (Jvm.Cond.methodLink "SplitWatchLaw" (53 : Nat) ({ cls := "SplitWatchModel", name := "play", desc := "()I" } : Jvm.MethodName)) ∈ sw_WS := sw_mem 1060 (by decide +kernel) rfl
theorem q_1061 : (Jvm.Cond.instanceMethod ({ cls := "SplitWatchModel", name := "play", desc := "()I" } : Jvm.MethodName)) ∈ sw_WS := sw_mem 1061 (by decide +kernel) rfl
theorem q_1062 : (Jvm.Cond.selects "SplitWatchModel" ({ cls := "SplitWatchModel", name := "play", desc := "()I" } : Jvm.MethodName) ({ cls := "SplitWatchModel", name := "play", desc := "()I" } : Jvm.MethodName)) ∈ sw_WS := sw_mem 1062 (by decide +kernel) rfl
theorem q_1063 : (Jvm.Cond.code ({ cls := "SplitWatchModel", name := "play", desc := "()I" } : Jvm.MethodName) prog_9_method_47_code (3 : Nat) (Option.some Jvm.ClassFile.FieldType.int)) ∈ sw_WS := sw_mem 1063 (by decide +kernel) rfl
theorem q_1073 : (Jvm.Cond.methodLink "SplitWatchLaw" (57 : Nat) ({ cls := "SplitWatchModel", name := "order", desc := "(I)I" } : Jvm.MethodName)) ∈ sw_WS := sw_mem 1073 (by decide +kernel) rfl
theorem q_1074 : (Jvm.Cond.instanceMethod ({ cls := "SplitWatchModel", name := "order", desc := "(I)I" } : Jvm.MethodName)) ∈ sw_WS := sw_mem 1074 (by decide +kernel) rfl
theorem q_1075 : (Jvm.Cond.selects "SplitWatchModel" ({ cls := "SplitWatchModel", name := "order", desc := "(I)I" } : Jvm.MethodName) ({ cls := "SplitWatchModel", name := "order", desc := "(I)I" } : Jvm.MethodName)) ∈ sw_WS := sw_mem 1075 (by decide +kernel) rfl
theorem q_1076 : (Jvm.Cond.code ({ cls := "SplitWatchModel", name := "order", desc := "(I)I" } : Jvm.MethodName) prog_9_method_49_code (3 : Nat) (Option.some Jvm.ClassFile.FieldType.int)) ∈ sw_WS := sw_mem 1076 (by decide +kernel) rfl
theorem q_1081 : (Jvm.Cond.methodLink "SplitWatchLaw" (61 : Nat) ({ cls := "SplitWatchModel", name := "told", desc := "(III)I" } : Jvm.MethodName)) ∈ sw_WS := sw_mem 1081 (by decide +kernel) rfl
theorem q_1082 : (Jvm.Cond.instanceMethod ({ cls := "SplitWatchModel", name := "told", desc := "(III)I" } : Jvm.MethodName)) ∈ sw_WS := sw_mem 1082 (by decide +kernel) rfl
theorem q_1083 : (Jvm.Cond.selects "SplitWatchModel" ({ cls := "SplitWatchModel", name := "told", desc := "(III)I" } : Jvm.MethodName) ({ cls := "SplitWatchModel", name := "told", desc := "(III)I" } : Jvm.MethodName)) ∈ sw_WS := sw_mem 1083 (by decide +kernel) rfl
theorem q_1084 : (Jvm.Cond.code ({ cls := "SplitWatchModel", name := "told", desc := "(III)I" } : Jvm.MethodName) prog_9_method_51_code (6 : Nat) (Option.some Jvm.ClassFile.FieldType.int)) ∈ sw_WS := sw_mem 1084 (by decide +kernel) rfl
theorem q_1088 : (Jvm.Cond.methodLink "SplitWatchLaw" (65 : Nat) ({ cls := "SplitWatchModel", name := "word", desc := "(III)I" } : Jvm.MethodName)) ∈ sw_WS := sw_mem 1088 (by decide +kernel) rfl
theorem q_1089 : (Jvm.Cond.instanceMethod ({ cls := "SplitWatchModel", name := "word", desc := "(III)I" } : Jvm.MethodName)) ∈ sw_WS := sw_mem 1089 (by decide +kernel) rfl
theorem q_1090 : (Jvm.Cond.selects "SplitWatchModel" ({ cls := "SplitWatchModel", name := "word", desc := "(III)I" } : Jvm.MethodName) ({ cls := "SplitWatchModel", name := "word", desc := "(III)I" } : Jvm.MethodName)) ∈ sw_WS := sw_mem 1090 (by decide +kernel) rfl
theorem q_1091 : (Jvm.Cond.code ({ cls := "SplitWatchModel", name := "word", desc := "(III)I" } : Jvm.MethodName) prog_9_method_52_code (6 : Nat) (Option.some Jvm.ClassFile.FieldType.int)) ∈ sw_WS := sw_mem 1091 (by decide +kernel) rfl
theorem q_1092 : (Jvm.Cond.methodLink "SplitWatchLaw" (69 : Nat) ({ cls := "SplitWatchModel", name := "cached", desc := "(III)I" } : Jvm.MethodName)) ∈ sw_WS := sw_mem 1092 (by decide +kernel) rfl
theorem q_1093 : (Jvm.Cond.instanceMethod ({ cls := "SplitWatchModel", name := "cached", desc := "(III)I" } : Jvm.MethodName)) ∈ sw_WS := sw_mem 1093 (by decide +kernel) rfl
theorem q_1094 : (Jvm.Cond.selects "SplitWatchModel" ({ cls := "SplitWatchModel", name := "cached", desc := "(III)I" } : Jvm.MethodName) ({ cls := "SplitWatchModel", name := "cached", desc := "(III)I" } : Jvm.MethodName)) ∈ sw_WS := sw_mem 1094 (by decide +kernel) rfl
theorem q_1095 : (Jvm.Cond.code ({ cls := "SplitWatchModel", name := "cached", desc := "(III)I" } : Jvm.MethodName) prog_9_method_53_code (5 : Nat) (Option.some Jvm.ClassFile.FieldType.int)) ∈ sw_WS := sw_mem 1095 (by decide +kernel) rfl
theorem q_1096 : (Jvm.Cond.methodLink "SplitWatchLaw" (73 : Nat) ({ cls := "SplitWatchModel", name := "buffered", desc := "(III)I" } : Jvm.MethodName)) ∈ sw_WS := sw_mem 1096 (by decide +kernel) rfl
theorem q_1097 : (Jvm.Cond.instanceMethod ({ cls := "SplitWatchModel", name := "buffered", desc := "(III)I" } : Jvm.MethodName)) ∈ sw_WS := sw_mem 1097 (by decide +kernel) rfl
theorem q_1098 : (Jvm.Cond.selects "SplitWatchModel" ({ cls := "SplitWatchModel", name := "buffered", desc := "(III)I" } : Jvm.MethodName) ({ cls := "SplitWatchModel", name := "buffered", desc := "(III)I" } : Jvm.MethodName)) ∈ sw_WS := sw_mem 1098 (by decide +kernel) rfl
theorem q_1099 : (Jvm.Cond.code ({ cls := "SplitWatchModel", name := "buffered", desc := "(III)I" } : Jvm.MethodName) prog_9_method_54_code (4 : Nat) (Option.some Jvm.ClassFile.FieldType.int)) ∈ sw_WS := sw_mem 1099 (by decide +kernel) rfl
theorem q_1100 : (Jvm.Cond.methodLink "SplitWatchLaw" (77 : Nat) ({ cls := "SplitWatchModel", name := "memory", desc := "(I)I" } : Jvm.MethodName)) ∈ sw_WS := sw_mem 1100 (by decide +kernel) rfl
theorem q_1101 : (Jvm.Cond.instanceMethod ({ cls := "SplitWatchModel", name := "memory", desc := "(I)I" } : Jvm.MethodName)) ∈ sw_WS := sw_mem 1101 (by decide +kernel) rfl
theorem q_1102 : (Jvm.Cond.selects "SplitWatchModel" ({ cls := "SplitWatchModel", name := "memory", desc := "(I)I" } : Jvm.MethodName) ({ cls := "SplitWatchModel", name := "memory", desc := "(I)I" } : Jvm.MethodName)) ∈ sw_WS := sw_mem 1102 (by decide +kernel) rfl
theorem q_1103 : (Jvm.Cond.code ({ cls := "SplitWatchModel", name := "memory", desc := "(I)I" } : Jvm.MethodName) prog_9_method_55_code (2 : Nat) (Option.some Jvm.ClassFile.FieldType.int)) ∈ sw_WS := sw_mem 1103 (by decide +kernel) rfl
theorem q_1104 : (Jvm.Cond.methodLink "SplitWatchLaw" (81 : Nat) ({ cls := "SplitWatchModel", name := "truth", desc := "(I)I" } : Jvm.MethodName)) ∈ sw_WS := sw_mem 1104 (by decide +kernel) rfl
theorem q_1105 : (Jvm.Cond.instanceMethod ({ cls := "SplitWatchModel", name := "truth", desc := "(I)I" } : Jvm.MethodName)) ∈ sw_WS := sw_mem 1105 (by decide +kernel) rfl
theorem q_1106 : (Jvm.Cond.selects "SplitWatchModel" ({ cls := "SplitWatchModel", name := "truth", desc := "(I)I" } : Jvm.MethodName) ({ cls := "SplitWatchModel", name := "truth", desc := "(I)I" } : Jvm.MethodName)) ∈ sw_WS := sw_mem 1106 (by decide +kernel) rfl
theorem q_1107 : (Jvm.Cond.code ({ cls := "SplitWatchModel", name := "truth", desc := "(I)I" } : Jvm.MethodName) prog_9_method_56_code (4 : Nat) (Option.some Jvm.ClassFile.FieldType.int)) ∈ sw_WS := sw_mem 1107 (by decide +kernel) rfl
theorem q_1108 : (Jvm.Cond.methodLink "SplitWatchLaw" (85 : Nat) ({ cls := "SplitWatchModel", name := "core", desc := "(II)I" } : Jvm.MethodName)) ∈ sw_WS := sw_mem 1108 (by decide +kernel) rfl
theorem q_1109 : (Jvm.Cond.instanceMethod ({ cls := "SplitWatchModel", name := "core", desc := "(II)I" } : Jvm.MethodName)) ∈ sw_WS := sw_mem 1109 (by decide +kernel) rfl
theorem q_1110 : (Jvm.Cond.selects "SplitWatchModel" ({ cls := "SplitWatchModel", name := "core", desc := "(II)I" } : Jvm.MethodName) ({ cls := "SplitWatchModel", name := "core", desc := "(II)I" } : Jvm.MethodName)) ∈ sw_WS := sw_mem 1110 (by decide +kernel) rfl
theorem q_1111 : (Jvm.Cond.code ({ cls := "SplitWatchModel", name := "core", desc := "(II)I" } : Jvm.MethodName) prog_9_method_59_code (4 : Nat) (Option.some Jvm.ClassFile.FieldType.int)) ∈ sw_WS := sw_mem 1111 (by decide +kernel) rfl
theorem q_1120 : (Jvm.Cond.methodLink "SplitWatchLaw" (89 : Nat) ({ cls := "SplitWatchModel", name := "waiting", desc := "(II)I" } : Jvm.MethodName)) ∈ sw_WS := sw_mem 1120 (by decide +kernel) rfl
theorem q_1121 : (Jvm.Cond.instanceMethod ({ cls := "SplitWatchModel", name := "waiting", desc := "(II)I" } : Jvm.MethodName)) ∈ sw_WS := sw_mem 1121 (by decide +kernel) rfl
theorem q_1122 : (Jvm.Cond.selects "SplitWatchModel" ({ cls := "SplitWatchModel", name := "waiting", desc := "(II)I" } : Jvm.MethodName) ({ cls := "SplitWatchModel", name := "waiting", desc := "(II)I" } : Jvm.MethodName)) ∈ sw_WS := sw_mem 1122 (by decide +kernel) rfl
theorem q_1123 : (Jvm.Cond.code ({ cls := "SplitWatchModel", name := "waiting", desc := "(II)I" } : Jvm.MethodName) prog_9_method_60_code (4 : Nat) (Option.some Jvm.ClassFile.FieldType.int)) ∈ sw_WS := sw_mem 1123 (by decide +kernel) rfl
theorem q_1124 : (Jvm.Cond.methodLink "SplitWatchLaw" (93 : Nat) ({ cls := "SplitWatchModel", name := "open", desc := "(II)I" } : Jvm.MethodName)) ∈ sw_WS := sw_mem 1124 (by decide +kernel) rfl
theorem q_1125 : (Jvm.Cond.instanceMethod ({ cls := "SplitWatchModel", name := "open", desc := "(II)I" } : Jvm.MethodName)) ∈ sw_WS := sw_mem 1125 (by decide +kernel) rfl
theorem q_1126 : (Jvm.Cond.selects "SplitWatchModel" ({ cls := "SplitWatchModel", name := "open", desc := "(II)I" } : Jvm.MethodName) ({ cls := "SplitWatchModel", name := "open", desc := "(II)I" } : Jvm.MethodName)) ∈ sw_WS := sw_mem 1126 (by decide +kernel) rfl
theorem q_1127 : (Jvm.Cond.code ({ cls := "SplitWatchModel", name := "open", desc := "(II)I" } : Jvm.MethodName) prog_9_method_61_code (3 : Nat) (Option.some Jvm.ClassFile.FieldType.int)) ∈ sw_WS := sw_mem 1127 (by decide +kernel) rfl
theorem q_1128 : (Jvm.Cond.methodLink "SplitWatchLaw" (97 : Nat) ({ cls := "SplitWatchModel", name := "day", desc := "(II)I" } : Jvm.MethodName)) ∈ sw_WS := sw_mem 1128 (by decide +kernel) rfl
theorem q_1129 : (Jvm.Cond.instanceMethod ({ cls := "SplitWatchModel", name := "day", desc := "(II)I" } : Jvm.MethodName)) ∈ sw_WS := sw_mem 1129 (by decide +kernel) rfl
theorem q_1130 : (Jvm.Cond.selects "SplitWatchModel" ({ cls := "SplitWatchModel", name := "day", desc := "(II)I" } : Jvm.MethodName) ({ cls := "SplitWatchModel", name := "day", desc := "(II)I" } : Jvm.MethodName)) ∈ sw_WS := sw_mem 1130 (by decide +kernel) rfl
theorem q_1131 : (Jvm.Cond.code ({ cls := "SplitWatchModel", name := "day", desc := "(II)I" } : Jvm.MethodName) prog_9_method_62_code (11 : Nat) (Option.some Jvm.ClassFile.FieldType.int)) ∈ sw_WS := sw_mem 1131 (by decide +kernel) rfl
theorem q_1136 : (Jvm.Cond.methodLink "SplitWatchLaw" (101 : Nat) ({ cls := "SplitWatchModel", name := "count", desc := "(I)I" } : Jvm.MethodName)) ∈ sw_WS := sw_mem 1136 (by decide +kernel) rfl
theorem q_1137 : (Jvm.Cond.instanceMethod ({ cls := "SplitWatchModel", name := "count", desc := "(I)I" } : Jvm.MethodName)) ∈ sw_WS := sw_mem 1137 (by decide +kernel) rfl
theorem q_1138 : (Jvm.Cond.selects "SplitWatchModel" ({ cls := "SplitWatchModel", name := "count", desc := "(I)I" } : Jvm.MethodName) ({ cls := "SplitWatchModel", name := "count", desc := "(I)I" } : Jvm.MethodName)) ∈ sw_WS := sw_mem 1138 (by decide +kernel) rfl
theorem q_1139 : (Jvm.Cond.code ({ cls := "SplitWatchModel", name := "count", desc := "(I)I" } : Jvm.MethodName) prog_9_method_63_code (2 : Nat) (Option.some Jvm.ClassFile.FieldType.int)) ∈ sw_WS := sw_mem 1139 (by decide +kernel) rfl
theorem ml_L_13 : sw_MV RL 13 yX6_begin cX6_begin 6 (some .int) 4 := ⟨⟨(Or.inl q_356), q_96, q_359, ⟨by decide, by decide⟩, by decide +kernel, by decide⟩, q_357, q_358⟩
theorem ml_L_17 : sw_MV RL 17 yX7_begin cX7_begin 6 (some .int) 4 := ⟨⟨(Or.inl q_881), q_103, q_768, ⟨by decide, by decide⟩, by decide +kernel, by decide⟩, q_766, q_767⟩
theorem ml_L_18 : sw_MV RL 18 yX6_read cX6_read 3 (some .int) 2 := ⟨⟨(Or.inl q_363), q_96, q_366, ⟨by decide, by decide⟩, by decide +kernel, by decide⟩, q_364, q_365⟩
theorem ml_L_22 : sw_MV RL 22 yX7_read cX7_read 4 (some .int) 2 := ⟨⟨(Or.inl q_882), q_103, q_885, ⟨by decide, by decide⟩, by decide +kernel, by decide⟩, q_883, q_884⟩
theorem ml_L_23 : sw_MV RL 23 yX6_store cX6_store 4 (some .int) 3 := ⟨⟨(Or.inl q_420), q_96, q_423, ⟨by decide, by decide⟩, by decide +kernel, by decide⟩, q_421, q_422⟩
theorem ml_L_27 : sw_MV RL 27 yX7_store cX7_store 5 (some .int) 3 := ⟨⟨(Or.inl q_946), q_103, q_949, ⟨by decide, by decide⟩, by decide +kernel, by decide⟩, q_947, q_948⟩
theorem ml_L_28 : sw_MV RL 28 yX6_drop cX6_drop 3 (some .int) 2 := ⟨⟨(Or.inl q_432), q_96, q_435, ⟨by decide, by decide⟩, by decide +kernel, by decide⟩, q_433, q_434⟩
theorem ml_L_31 : sw_MV RL 31 yX7_drop cX7_drop 4 (some .int) 2 := ⟨⟨(Or.inl q_955), q_103, q_958, ⟨by decide, by decide⟩, by decide +kernel, by decide⟩, q_956, q_957⟩
theorem ml_L_32 : sw_MV RL 32 yX6_turn cX6_turn 2 (some .int) 1 := ⟨⟨(Or.inl q_440), q_96, q_443, ⟨by decide, by decide⟩, by decide +kernel, by decide⟩, q_441, q_442⟩
theorem ml_L_36 : sw_MV RL 36 yX7_turn cX7_turn 4 (some .int) 1 := ⟨⟨(Or.inl q_959), q_103, q_962, ⟨by decide, by decide⟩, by decide +kernel, by decide⟩, q_960, q_961⟩
theorem ml_L_37 : sw_MV RL 37 yX6_write cX6_write 2 (some .int) 1 := ⟨⟨(Or.inl q_512), q_96, q_515, ⟨by decide, by decide⟩, by decide +kernel, by decide⟩, q_513, q_514⟩
theorem ml_L_40 : sw_MV RL 40 yX7_write cX7_write 2 (some .int) 1 := ⟨⟨(Or.inl q_1020), q_103, q_1023, ⟨by decide, by decide⟩, by decide +kernel, by decide⟩, q_1021, q_1022⟩
theorem ml_L_41 : sw_MV RL 41 yX6_wipe cX6_wipe 2 (some .int) 0 := ⟨⟨(Or.inl q_523), q_96, q_526, ⟨by decide, by decide⟩, by decide +kernel, by decide⟩, q_524, q_525⟩
theorem ml_L_45 : sw_MV RL 45 yX7_wipe cX7_wipe 2 (some .int) 0 := ⟨⟨(Or.inl q_1026), q_103, q_1029, ⟨by decide, by decide⟩, by decide +kernel, by decide⟩, q_1027, q_1028⟩
theorem ml_L_46 : sw_MV RL 46 yX6_fault cX6_fault 1 (some .int) 0 := ⟨⟨(Or.inl q_527), q_96, q_530, ⟨by decide, by decide⟩, by decide +kernel, by decide⟩, q_528, q_529⟩
theorem ml_L_49 : sw_MV RL 49 yX7_fault cX7_fault 2 (some .int) 0 := ⟨⟨(Or.inl q_1030), q_103, q_1033, ⟨by decide, by decide⟩, by decide +kernel, by decide⟩, q_1031, q_1032⟩
theorem ml_L_50 : sw_MV RL 50 yX6_play cX6_play 5 (some .int) 0 := ⟨⟨(Or.inl q_623), q_96, q_626, ⟨by decide, by decide⟩, by decide +kernel, by decide⟩, q_624, q_625⟩
theorem ml_L_53 : sw_MV RL 53 yX7_play cX7_play 3 (some .int) 0 := ⟨⟨(Or.inl q_1060), q_103, q_1063, ⟨by decide, by decide⟩, by decide +kernel, by decide⟩, q_1061, q_1062⟩
theorem ml_L_54 : sw_MV RL 54 yX6_order cX6_order 3 (some .int) 1 := ⟨⟨(Or.inl q_639), q_96, q_642, ⟨by decide, by decide⟩, by decide +kernel, by decide⟩, q_640, q_641⟩
theorem ml_L_57 : sw_MV RL 57 yX7_order cX7_order 3 (some .int) 1 := ⟨⟨(Or.inl q_1073), q_103, q_1076, ⟨by decide, by decide⟩, by decide +kernel, by decide⟩, q_1074, q_1075⟩
theorem ml_L_58 : sw_MV RL 58 yX6_told cX6_told 4 (some .int) 3 := ⟨⟨(Or.inl q_651), q_96, q_654, ⟨by decide, by decide⟩, by decide +kernel, by decide⟩, q_652, q_653⟩
theorem ml_L_61 : sw_MV RL 61 yX7_told cX7_told 6 (some .int) 3 := ⟨⟨(Or.inl q_1081), q_103, q_1084, ⟨by decide, by decide⟩, by decide +kernel, by decide⟩, q_1082, q_1083⟩
theorem ml_L_62 : sw_MV RL 62 yX6_word cX6_word 6 (some .int) 3 := ⟨⟨(Or.inl q_662), q_96, q_665, ⟨by decide, by decide⟩, by decide +kernel, by decide⟩, q_663, q_664⟩
theorem ml_L_65 : sw_MV RL 65 yX7_word_ cX7_word_ 6 (some .int) 3 := ⟨⟨(Or.inl q_1088), q_103, q_1091, ⟨by decide, by decide⟩, by decide +kernel, by decide⟩, q_1089, q_1090⟩
theorem ml_L_66 : sw_MV RL 66 yX6_cached cX6_cached 5 (some .int) 3 := ⟨⟨(Or.inl q_677), q_96, q_680, ⟨by decide, by decide⟩, by decide +kernel, by decide⟩, q_678, q_679⟩
theorem ml_L_69 : sw_MV RL 69 yX7_cached cX7_cached 5 (some .int) 3 := ⟨⟨(Or.inl q_1092), q_103, q_1095, ⟨by decide, by decide⟩, by decide +kernel, by decide⟩, q_1093, q_1094⟩
theorem ml_L_70 : sw_MV RL 70 yX6_buffered cX6_buffered 6 (some .int) 3 := ⟨⟨(Or.inl q_685), q_96, q_688, ⟨by decide, by decide⟩, by decide +kernel, by decide⟩, q_686, q_687⟩
theorem ml_L_73 : sw_MV RL 73 yX7_buffered cX7_buffered 4 (some .int) 3 := ⟨⟨(Or.inl q_1096), q_103, q_1099, ⟨by decide, by decide⟩, by decide +kernel, by decide⟩, q_1097, q_1098⟩
theorem ml_L_74 : sw_MV RL 74 yX6_memory cX6_memory 2 (some .int) 1 := ⟨⟨(Or.inl q_701), q_96, q_704, ⟨by decide, by decide⟩, by decide +kernel, by decide⟩, q_702, q_703⟩
theorem ml_L_77 : sw_MV RL 77 yX7_memory cX7_memory 2 (some .int) 1 := ⟨⟨(Or.inl q_1100), q_103, q_1103, ⟨by decide, by decide⟩, by decide +kernel, by decide⟩, q_1101, q_1102⟩
theorem ml_L_78 : sw_MV RL 78 yX6_truth cX6_truth 2 (some .int) 1 := ⟨⟨(Or.inl q_705), q_96, q_708, ⟨by decide, by decide⟩, by decide +kernel, by decide⟩, q_706, q_707⟩
theorem ml_L_81 : sw_MV RL 81 yX7_truth cX7_truth 4 (some .int) 1 := ⟨⟨(Or.inl q_1104), q_103, q_1107, ⟨by decide, by decide⟩, by decide +kernel, by decide⟩, q_1105, q_1106⟩
theorem ml_L_82 : sw_MV RL 82 yX6_core cX6_core 5 (some .int) 2 := ⟨⟨(Or.inl q_713), q_96, q_716, ⟨by decide, by decide⟩, by decide +kernel, by decide⟩, q_714, q_715⟩
theorem ml_L_85 : sw_MV RL 85 yX7_core cX7_core 4 (some .int) 2 := ⟨⟨(Or.inl q_1108), q_103, q_1111, ⟨by decide, by decide⟩, by decide +kernel, by decide⟩, q_1109, q_1110⟩
theorem ml_L_86 : sw_MV RL 86 yX6_waiting cX6_waiting 4 (some .int) 2 := ⟨⟨(Or.inl q_717), q_96, q_720, ⟨by decide, by decide⟩, by decide +kernel, by decide⟩, q_718, q_719⟩
theorem ml_L_89 : sw_MV RL 89 yX7_waiting cX7_waiting 4 (some .int) 2 := ⟨⟨(Or.inl q_1120), q_103, q_1123, ⟨by decide, by decide⟩, by decide +kernel, by decide⟩, q_1121, q_1122⟩
theorem ml_L_90 : sw_MV RL 90 yX6_open cX6_open 4 (some .int) 2 := ⟨⟨(Or.inl q_733), q_96, q_736, ⟨by decide, by decide⟩, by decide +kernel, by decide⟩, q_734, q_735⟩
theorem ml_L_93 : sw_MV RL 93 yX7_open cX7_open 3 (some .int) 2 := ⟨⟨(Or.inl q_1124), q_103, q_1127, ⟨by decide, by decide⟩, by decide +kernel, by decide⟩, q_1125, q_1126⟩
theorem ml_L_94 : sw_MV RL 94 yX6_day cX6_day 11 (some .int) 2 := ⟨⟨(Or.inl q_745), q_96, q_748, ⟨by decide, by decide⟩, by decide +kernel, by decide⟩, q_746, q_747⟩
theorem ml_L_97 : sw_MV RL 97 yX7_day cX7_day 11 (some .int) 2 := ⟨⟨(Or.inl q_1128), q_103, q_1131, ⟨by decide, by decide⟩, by decide +kernel, by decide⟩, q_1129, q_1130⟩
theorem ml_L_98 : sw_MV RL 98 yX6_count cX6_count 2 (some .int) 1 := ⟨⟨(Or.inl q_755), q_96, q_758, ⟨by decide, by decide⟩, by decide +kernel, by decide⟩, q_756, q_757⟩
theorem ml_L_101 : sw_MV RL 101 yX7_count cX7_count 2 (some .int) 1 := ⟨⟨(Or.inl q_1136), q_103, q_1139, ⟨by decide, by decide⟩, by decide +kernel, by decide⟩, q_1137, q_1138⟩
theorem dL_0 : decode code 0 = .ok (.new 7, 3) := by decide +kernel
theorem dL_3 : decode code 3 = .ok (.dup, 1) := by decide +kernel
theorem dL_4 : decode code 4 = .ok (.invokespecial 9, 3) := by decide +kernel
theorem dL_7 : decode code 7 = .ok (.astore_n 1, 1) := by decide +kernel
theorem dL_8 : decode code 8 = .ok (.new 10, 3) := by decide +kernel
theorem dL_11 : decode code 11 = .ok (.dup, 1) := by decide +kernel
theorem dL_12 : decode code 12 = .ok (.invokespecial 12, 3) := by decide +kernel
theorem dL_15 : decode code 15 = .ok (.astore_n 2, 1) := by decide +kernel
theorem dL_16 : decode code 16 = .ok (.iconst 0, 1) := by decide +kernel
theorem dL_17 : decode code 17 = .ok (.istore_n 3, 1) := by decide +kernel
theorem dL_18 : decode code 18 = .ok (.iload_n 3, 1) := by decide +kernel
theorem dL_19 : decode code 19 = .ok (.aload_n 0, 1) := by decide +kernel
theorem dL_20 : decode code 20 = .ok (.arraylength, 1) := by decide +kernel
theorem dL_21 : decode code 21 = .ok (.iconst 5, 1) := by decide +kernel
theorem dL_22 : decode code 22 = .ok (.isub, 1) := by decide +kernel
theorem dL_23 : decode code 23 = .ok (.if_icmp .gt 758, 3) := by decide +kernel
theorem dL_26 : decode code 26 = .ok (.aload_n 0, 1) := by decide +kernel
theorem dL_27 : decode code 27 = .ok (.iload_n 3, 1) := by decide +kernel
theorem dL_28 : decode code 28 = .ok (.iaload, 1) := by decide +kernel
theorem dL_29 : decode code 29 = .ok (.bipush 31, 2) := by decide +kernel
theorem dL_31 : decode code 31 = .ok (.iand, 1) := by decide +kernel
theorem dL_32 : decode code 32 = .ok (.tableswitch 743 0 20 #[100, 153, 186, 229, 262, 285, 308, 321, 334, 347, 370, 413, 456, 499, 542, 565, 588, 621, 654, 687, 720], 100) := by decide +kernel
theorem dL_132 : decode code 132 = .ok (.aload_n 1, 1) := by decide +kernel
theorem dL_133 : decode code 133 = .ok (.aload_n 0, 1) := by decide +kernel
theorem dL_134 : decode code 134 = .ok (.iload_n 3, 1) := by decide +kernel
theorem dL_135 : decode code 135 = .ok (.iconst 1, 1) := by decide +kernel
theorem dL_136 : decode code 136 = .ok (.iadd, 1) := by decide +kernel
theorem dL_137 : decode code 137 = .ok (.iaload, 1) := by decide +kernel
theorem dL_138 : decode code 138 = .ok (.aload_n 0, 1) := by decide +kernel
theorem dL_139 : decode code 139 = .ok (.iload_n 3, 1) := by decide +kernel
theorem dL_140 : decode code 140 = .ok (.iconst 2, 1) := by decide +kernel
theorem dL_141 : decode code 141 = .ok (.iadd, 1) := by decide +kernel
theorem dL_142 : decode code 142 = .ok (.iaload, 1) := by decide +kernel
theorem dL_143 : decode code 143 = .ok (.aload_n 0, 1) := by decide +kernel
theorem dL_144 : decode code 144 = .ok (.iload_n 3, 1) := by decide +kernel
theorem dL_145 : decode code 145 = .ok (.iconst 3, 1) := by decide +kernel
theorem dL_146 : decode code 146 = .ok (.iadd, 1) := by decide +kernel
theorem dL_147 : decode code 147 = .ok (.iaload, 1) := by decide +kernel
theorem dL_148 : decode code 148 = .ok (.aload_n 0, 1) := by decide +kernel
theorem dL_149 : decode code 149 = .ok (.iload_n 3, 1) := by decide +kernel
theorem dL_150 : decode code 150 = .ok (.iconst 4, 1) := by decide +kernel
theorem dL_151 : decode code 151 = .ok (.iadd, 1) := by decide +kernel
theorem dL_152 : decode code 152 = .ok (.iaload, 1) := by decide +kernel
theorem dL_153 : decode code 153 = .ok (.invokevirtual 13, 3) := by decide +kernel
theorem dL_156 : decode code 156 = .ok (.aload_n 2, 1) := by decide +kernel
theorem dL_157 : decode code 157 = .ok (.aload_n 0, 1) := by decide +kernel
theorem dL_158 : decode code 158 = .ok (.iload_n 3, 1) := by decide +kernel
theorem dL_159 : decode code 159 = .ok (.iconst 1, 1) := by decide +kernel
theorem dL_160 : decode code 160 = .ok (.iadd, 1) := by decide +kernel
theorem dL_161 : decode code 161 = .ok (.iaload, 1) := by decide +kernel
theorem dL_162 : decode code 162 = .ok (.aload_n 0, 1) := by decide +kernel
theorem dL_163 : decode code 163 = .ok (.iload_n 3, 1) := by decide +kernel
theorem dL_164 : decode code 164 = .ok (.iconst 2, 1) := by decide +kernel
theorem dL_165 : decode code 165 = .ok (.iadd, 1) := by decide +kernel
theorem dL_166 : decode code 166 = .ok (.iaload, 1) := by decide +kernel
theorem dL_167 : decode code 167 = .ok (.aload_n 0, 1) := by decide +kernel
theorem dL_168 : decode code 168 = .ok (.iload_n 3, 1) := by decide +kernel
theorem dL_169 : decode code 169 = .ok (.iconst 3, 1) := by decide +kernel
theorem dL_170 : decode code 170 = .ok (.iadd, 1) := by decide +kernel
theorem dL_171 : decode code 171 = .ok (.iaload, 1) := by decide +kernel
theorem dL_172 : decode code 172 = .ok (.aload_n 0, 1) := by decide +kernel
theorem dL_173 : decode code 173 = .ok (.iload_n 3, 1) := by decide +kernel
theorem dL_174 : decode code 174 = .ok (.iconst 4, 1) := by decide +kernel
theorem dL_175 : decode code 175 = .ok (.iadd, 1) := by decide +kernel
theorem dL_176 : decode code 176 = .ok (.iaload, 1) := by decide +kernel
theorem dL_177 : decode code 177 = .ok (.invokevirtual 17, 3) := by decide +kernel
theorem dL_180 : decode code 180 = .ok (.if_icmp .eq 595, 3) := by decide +kernel
theorem dL_183 : decode code 183 = .ok (.iconst 0, 1) := by decide +kernel
theorem dL_184 : decode code 184 = .ok (.ireturn, 1) := by decide +kernel
theorem dL_185 : decode code 185 = .ok (.aload_n 1, 1) := by decide +kernel
theorem dL_186 : decode code 186 = .ok (.aload_n 0, 1) := by decide +kernel
theorem dL_187 : decode code 187 = .ok (.iload_n 3, 1) := by decide +kernel
theorem dL_188 : decode code 188 = .ok (.iconst 1, 1) := by decide +kernel
theorem dL_189 : decode code 189 = .ok (.iadd, 1) := by decide +kernel
theorem dL_190 : decode code 190 = .ok (.iaload, 1) := by decide +kernel
theorem dL_191 : decode code 191 = .ok (.aload_n 0, 1) := by decide +kernel
theorem dL_192 : decode code 192 = .ok (.iload_n 3, 1) := by decide +kernel
theorem dL_193 : decode code 193 = .ok (.iconst 2, 1) := by decide +kernel
theorem dL_194 : decode code 194 = .ok (.iadd, 1) := by decide +kernel
theorem dL_195 : decode code 195 = .ok (.iaload, 1) := by decide +kernel
theorem dL_196 : decode code 196 = .ok (.invokevirtual 18, 3) := by decide +kernel
theorem dL_199 : decode code 199 = .ok (.aload_n 2, 1) := by decide +kernel
theorem dL_200 : decode code 200 = .ok (.aload_n 0, 1) := by decide +kernel
theorem dL_201 : decode code 201 = .ok (.iload_n 3, 1) := by decide +kernel
theorem dL_202 : decode code 202 = .ok (.iconst 1, 1) := by decide +kernel
theorem dL_203 : decode code 203 = .ok (.iadd, 1) := by decide +kernel
theorem dL_204 : decode code 204 = .ok (.iaload, 1) := by decide +kernel
theorem dL_205 : decode code 205 = .ok (.aload_n 0, 1) := by decide +kernel
theorem dL_206 : decode code 206 = .ok (.iload_n 3, 1) := by decide +kernel
theorem dL_207 : decode code 207 = .ok (.iconst 2, 1) := by decide +kernel
theorem dL_208 : decode code 208 = .ok (.iadd, 1) := by decide +kernel
theorem dL_209 : decode code 209 = .ok (.iaload, 1) := by decide +kernel
theorem dL_210 : decode code 210 = .ok (.invokevirtual 22, 3) := by decide +kernel
theorem dL_213 : decode code 213 = .ok (.if_icmp .eq 562, 3) := by decide +kernel
theorem dL_216 : decode code 216 = .ok (.iconst 0, 1) := by decide +kernel
theorem dL_217 : decode code 217 = .ok (.ireturn, 1) := by decide +kernel
theorem dL_218 : decode code 218 = .ok (.aload_n 1, 1) := by decide +kernel
theorem dL_219 : decode code 219 = .ok (.aload_n 0, 1) := by decide +kernel
theorem dL_220 : decode code 220 = .ok (.iload_n 3, 1) := by decide +kernel
theorem dL_221 : decode code 221 = .ok (.iconst 1, 1) := by decide +kernel
theorem dL_222 : decode code 222 = .ok (.iadd, 1) := by decide +kernel
theorem dL_223 : decode code 223 = .ok (.iaload, 1) := by decide +kernel
theorem dL_224 : decode code 224 = .ok (.aload_n 0, 1) := by decide +kernel
theorem dL_225 : decode code 225 = .ok (.iload_n 3, 1) := by decide +kernel
theorem dL_226 : decode code 226 = .ok (.iconst 2, 1) := by decide +kernel
theorem dL_227 : decode code 227 = .ok (.iadd, 1) := by decide +kernel
theorem dL_228 : decode code 228 = .ok (.iaload, 1) := by decide +kernel
theorem dL_229 : decode code 229 = .ok (.aload_n 0, 1) := by decide +kernel
theorem dL_230 : decode code 230 = .ok (.iload_n 3, 1) := by decide +kernel
theorem dL_231 : decode code 231 = .ok (.iconst 3, 1) := by decide +kernel
theorem dL_232 : decode code 232 = .ok (.iadd, 1) := by decide +kernel
theorem dL_233 : decode code 233 = .ok (.iaload, 1) := by decide +kernel
theorem dL_234 : decode code 234 = .ok (.invokevirtual 23, 3) := by decide +kernel
theorem dL_237 : decode code 237 = .ok (.aload_n 2, 1) := by decide +kernel
theorem dL_238 : decode code 238 = .ok (.aload_n 0, 1) := by decide +kernel
theorem dL_239 : decode code 239 = .ok (.iload_n 3, 1) := by decide +kernel
theorem dL_240 : decode code 240 = .ok (.iconst 1, 1) := by decide +kernel
theorem dL_241 : decode code 241 = .ok (.iadd, 1) := by decide +kernel
theorem dL_242 : decode code 242 = .ok (.iaload, 1) := by decide +kernel
theorem dL_243 : decode code 243 = .ok (.aload_n 0, 1) := by decide +kernel
theorem dL_244 : decode code 244 = .ok (.iload_n 3, 1) := by decide +kernel
theorem dL_245 : decode code 245 = .ok (.iconst 2, 1) := by decide +kernel
theorem dL_246 : decode code 246 = .ok (.iadd, 1) := by decide +kernel
theorem dL_247 : decode code 247 = .ok (.iaload, 1) := by decide +kernel
theorem dL_248 : decode code 248 = .ok (.aload_n 0, 1) := by decide +kernel
theorem dL_249 : decode code 249 = .ok (.iload_n 3, 1) := by decide +kernel
theorem dL_250 : decode code 250 = .ok (.iconst 3, 1) := by decide +kernel
theorem dL_251 : decode code 251 = .ok (.iadd, 1) := by decide +kernel
theorem dL_252 : decode code 252 = .ok (.iaload, 1) := by decide +kernel
theorem dL_253 : decode code 253 = .ok (.invokevirtual 27, 3) := by decide +kernel
theorem dL_256 : decode code 256 = .ok (.if_icmp .eq 519, 3) := by decide +kernel
theorem dL_259 : decode code 259 = .ok (.iconst 0, 1) := by decide +kernel
theorem dL_260 : decode code 260 = .ok (.ireturn, 1) := by decide +kernel
theorem dL_261 : decode code 261 = .ok (.aload_n 1, 1) := by decide +kernel
theorem dL_262 : decode code 262 = .ok (.aload_n 0, 1) := by decide +kernel
theorem dL_263 : decode code 263 = .ok (.iload_n 3, 1) := by decide +kernel
theorem dL_264 : decode code 264 = .ok (.iconst 1, 1) := by decide +kernel
theorem dL_265 : decode code 265 = .ok (.iadd, 1) := by decide +kernel
theorem dL_266 : decode code 266 = .ok (.iaload, 1) := by decide +kernel
theorem dL_267 : decode code 267 = .ok (.aload_n 0, 1) := by decide +kernel
theorem dL_268 : decode code 268 = .ok (.iload_n 3, 1) := by decide +kernel
theorem dL_269 : decode code 269 = .ok (.iconst 2, 1) := by decide +kernel
theorem dL_270 : decode code 270 = .ok (.iadd, 1) := by decide +kernel
theorem dL_271 : decode code 271 = .ok (.iaload, 1) := by decide +kernel
theorem dL_272 : decode code 272 = .ok (.invokevirtual 28, 3) := by decide +kernel
theorem dL_275 : decode code 275 = .ok (.aload_n 2, 1) := by decide +kernel
theorem dL_276 : decode code 276 = .ok (.aload_n 0, 1) := by decide +kernel
theorem dL_277 : decode code 277 = .ok (.iload_n 3, 1) := by decide +kernel
theorem dL_278 : decode code 278 = .ok (.iconst 1, 1) := by decide +kernel
theorem dL_279 : decode code 279 = .ok (.iadd, 1) := by decide +kernel
theorem dL_280 : decode code 280 = .ok (.iaload, 1) := by decide +kernel
theorem dL_281 : decode code 281 = .ok (.aload_n 0, 1) := by decide +kernel
theorem dL_282 : decode code 282 = .ok (.iload_n 3, 1) := by decide +kernel
theorem dL_283 : decode code 283 = .ok (.iconst 2, 1) := by decide +kernel
theorem dL_284 : decode code 284 = .ok (.iadd, 1) := by decide +kernel
theorem dL_285 : decode code 285 = .ok (.iaload, 1) := by decide +kernel
theorem dL_286 : decode code 286 = .ok (.invokevirtual 31, 3) := by decide +kernel
theorem dL_289 : decode code 289 = .ok (.if_icmp .eq 486, 3) := by decide +kernel
theorem dL_292 : decode code 292 = .ok (.iconst 0, 1) := by decide +kernel
theorem dL_293 : decode code 293 = .ok (.ireturn, 1) := by decide +kernel
theorem dL_294 : decode code 294 = .ok (.aload_n 1, 1) := by decide +kernel
theorem dL_295 : decode code 295 = .ok (.aload_n 0, 1) := by decide +kernel
theorem dL_296 : decode code 296 = .ok (.iload_n 3, 1) := by decide +kernel
theorem dL_297 : decode code 297 = .ok (.iconst 1, 1) := by decide +kernel
theorem dL_298 : decode code 298 = .ok (.iadd, 1) := by decide +kernel
theorem dL_299 : decode code 299 = .ok (.iaload, 1) := by decide +kernel
theorem dL_300 : decode code 300 = .ok (.invokevirtual 32, 3) := by decide +kernel
theorem dL_303 : decode code 303 = .ok (.aload_n 2, 1) := by decide +kernel
theorem dL_304 : decode code 304 = .ok (.aload_n 0, 1) := by decide +kernel
theorem dL_305 : decode code 305 = .ok (.iload_n 3, 1) := by decide +kernel
theorem dL_306 : decode code 306 = .ok (.iconst 1, 1) := by decide +kernel
theorem dL_307 : decode code 307 = .ok (.iadd, 1) := by decide +kernel
theorem dL_308 : decode code 308 = .ok (.iaload, 1) := by decide +kernel
theorem dL_309 : decode code 309 = .ok (.invokevirtual 36, 3) := by decide +kernel
theorem dL_312 : decode code 312 = .ok (.if_icmp .eq 463, 3) := by decide +kernel
theorem dL_315 : decode code 315 = .ok (.iconst 0, 1) := by decide +kernel
theorem dL_316 : decode code 316 = .ok (.ireturn, 1) := by decide +kernel
theorem dL_317 : decode code 317 = .ok (.aload_n 1, 1) := by decide +kernel
theorem dL_318 : decode code 318 = .ok (.aload_n 0, 1) := by decide +kernel
theorem dL_319 : decode code 319 = .ok (.iload_n 3, 1) := by decide +kernel
theorem dL_320 : decode code 320 = .ok (.iconst 1, 1) := by decide +kernel
theorem dL_321 : decode code 321 = .ok (.iadd, 1) := by decide +kernel
theorem dL_322 : decode code 322 = .ok (.iaload, 1) := by decide +kernel
theorem dL_323 : decode code 323 = .ok (.invokevirtual 37, 3) := by decide +kernel
theorem dL_326 : decode code 326 = .ok (.aload_n 2, 1) := by decide +kernel
theorem dL_327 : decode code 327 = .ok (.aload_n 0, 1) := by decide +kernel
theorem dL_328 : decode code 328 = .ok (.iload_n 3, 1) := by decide +kernel
theorem dL_329 : decode code 329 = .ok (.iconst 1, 1) := by decide +kernel
theorem dL_330 : decode code 330 = .ok (.iadd, 1) := by decide +kernel
theorem dL_331 : decode code 331 = .ok (.iaload, 1) := by decide +kernel
theorem dL_332 : decode code 332 = .ok (.invokevirtual 40, 3) := by decide +kernel
theorem dL_335 : decode code 335 = .ok (.if_icmp .eq 440, 3) := by decide +kernel
theorem dL_338 : decode code 338 = .ok (.iconst 0, 1) := by decide +kernel
theorem dL_339 : decode code 339 = .ok (.ireturn, 1) := by decide +kernel
theorem dL_340 : decode code 340 = .ok (.aload_n 1, 1) := by decide +kernel
theorem dL_341 : decode code 341 = .ok (.invokevirtual 41, 3) := by decide +kernel
theorem dL_344 : decode code 344 = .ok (.aload_n 2, 1) := by decide +kernel
theorem dL_345 : decode code 345 = .ok (.invokevirtual 45, 3) := by decide +kernel
theorem dL_348 : decode code 348 = .ok (.if_icmp .eq 427, 3) := by decide +kernel
theorem dL_351 : decode code 351 = .ok (.iconst 0, 1) := by decide +kernel
theorem dL_352 : decode code 352 = .ok (.ireturn, 1) := by decide +kernel
theorem dL_353 : decode code 353 = .ok (.aload_n 1, 1) := by decide +kernel
theorem dL_354 : decode code 354 = .ok (.invokevirtual 46, 3) := by decide +kernel
theorem dL_357 : decode code 357 = .ok (.aload_n 2, 1) := by decide +kernel
theorem dL_358 : decode code 358 = .ok (.invokevirtual 49, 3) := by decide +kernel
theorem dL_361 : decode code 361 = .ok (.if_icmp .eq 414, 3) := by decide +kernel
theorem dL_364 : decode code 364 = .ok (.iconst 0, 1) := by decide +kernel
theorem dL_365 : decode code 365 = .ok (.ireturn, 1) := by decide +kernel
theorem dL_366 : decode code 366 = .ok (.aload_n 1, 1) := by decide +kernel
theorem dL_367 : decode code 367 = .ok (.invokevirtual 50, 3) := by decide +kernel
theorem dL_370 : decode code 370 = .ok (.aload_n 2, 1) := by decide +kernel
theorem dL_371 : decode code 371 = .ok (.invokevirtual 53, 3) := by decide +kernel
theorem dL_374 : decode code 374 = .ok (.if_icmp .eq 401, 3) := by decide +kernel
theorem dL_377 : decode code 377 = .ok (.iconst 0, 1) := by decide +kernel
theorem dL_378 : decode code 378 = .ok (.ireturn, 1) := by decide +kernel
theorem dL_379 : decode code 379 = .ok (.aload_n 1, 1) := by decide +kernel
theorem dL_380 : decode code 380 = .ok (.aload_n 0, 1) := by decide +kernel
theorem dL_381 : decode code 381 = .ok (.iload_n 3, 1) := by decide +kernel
theorem dL_382 : decode code 382 = .ok (.iconst 1, 1) := by decide +kernel
theorem dL_383 : decode code 383 = .ok (.iadd, 1) := by decide +kernel
theorem dL_384 : decode code 384 = .ok (.iaload, 1) := by decide +kernel
theorem dL_385 : decode code 385 = .ok (.invokevirtual 54, 3) := by decide +kernel
theorem dL_388 : decode code 388 = .ok (.aload_n 2, 1) := by decide +kernel
theorem dL_389 : decode code 389 = .ok (.aload_n 0, 1) := by decide +kernel
theorem dL_390 : decode code 390 = .ok (.iload_n 3, 1) := by decide +kernel
theorem dL_391 : decode code 391 = .ok (.iconst 1, 1) := by decide +kernel
theorem dL_392 : decode code 392 = .ok (.iadd, 1) := by decide +kernel
theorem dL_393 : decode code 393 = .ok (.iaload, 1) := by decide +kernel
theorem dL_394 : decode code 394 = .ok (.invokevirtual 57, 3) := by decide +kernel
theorem dL_397 : decode code 397 = .ok (.if_icmp .eq 378, 3) := by decide +kernel
theorem dL_400 : decode code 400 = .ok (.iconst 0, 1) := by decide +kernel
theorem dL_401 : decode code 401 = .ok (.ireturn, 1) := by decide +kernel
theorem dL_402 : decode code 402 = .ok (.aload_n 1, 1) := by decide +kernel
theorem dL_403 : decode code 403 = .ok (.aload_n 0, 1) := by decide +kernel
theorem dL_404 : decode code 404 = .ok (.iload_n 3, 1) := by decide +kernel
theorem dL_405 : decode code 405 = .ok (.iconst 1, 1) := by decide +kernel
theorem dL_406 : decode code 406 = .ok (.iadd, 1) := by decide +kernel
theorem dL_407 : decode code 407 = .ok (.iaload, 1) := by decide +kernel
theorem dL_408 : decode code 408 = .ok (.aload_n 0, 1) := by decide +kernel
theorem dL_409 : decode code 409 = .ok (.iload_n 3, 1) := by decide +kernel
theorem dL_410 : decode code 410 = .ok (.iconst 2, 1) := by decide +kernel
theorem dL_411 : decode code 411 = .ok (.iadd, 1) := by decide +kernel
theorem dL_412 : decode code 412 = .ok (.iaload, 1) := by decide +kernel
theorem dL_413 : decode code 413 = .ok (.aload_n 0, 1) := by decide +kernel
theorem dL_414 : decode code 414 = .ok (.iload_n 3, 1) := by decide +kernel
theorem dL_415 : decode code 415 = .ok (.iconst 3, 1) := by decide +kernel
theorem dL_416 : decode code 416 = .ok (.iadd, 1) := by decide +kernel
theorem dL_417 : decode code 417 = .ok (.iaload, 1) := by decide +kernel
theorem dL_418 : decode code 418 = .ok (.invokevirtual 58, 3) := by decide +kernel
theorem dL_421 : decode code 421 = .ok (.aload_n 2, 1) := by decide +kernel
theorem dL_422 : decode code 422 = .ok (.aload_n 0, 1) := by decide +kernel
theorem dL_423 : decode code 423 = .ok (.iload_n 3, 1) := by decide +kernel
theorem dL_424 : decode code 424 = .ok (.iconst 1, 1) := by decide +kernel
theorem dL_425 : decode code 425 = .ok (.iadd, 1) := by decide +kernel
theorem dL_426 : decode code 426 = .ok (.iaload, 1) := by decide +kernel
theorem dL_427 : decode code 427 = .ok (.aload_n 0, 1) := by decide +kernel
theorem dL_428 : decode code 428 = .ok (.iload_n 3, 1) := by decide +kernel
theorem dL_429 : decode code 429 = .ok (.iconst 2, 1) := by decide +kernel
theorem dL_430 : decode code 430 = .ok (.iadd, 1) := by decide +kernel
theorem dL_431 : decode code 431 = .ok (.iaload, 1) := by decide +kernel
theorem dL_432 : decode code 432 = .ok (.aload_n 0, 1) := by decide +kernel
theorem dL_433 : decode code 433 = .ok (.iload_n 3, 1) := by decide +kernel
theorem dL_434 : decode code 434 = .ok (.iconst 3, 1) := by decide +kernel
theorem dL_435 : decode code 435 = .ok (.iadd, 1) := by decide +kernel
theorem dL_436 : decode code 436 = .ok (.iaload, 1) := by decide +kernel
theorem dL_437 : decode code 437 = .ok (.invokevirtual 61, 3) := by decide +kernel
theorem dL_440 : decode code 440 = .ok (.if_icmp .eq 335, 3) := by decide +kernel
theorem dL_443 : decode code 443 = .ok (.iconst 0, 1) := by decide +kernel
theorem dL_444 : decode code 444 = .ok (.ireturn, 1) := by decide +kernel
theorem dL_445 : decode code 445 = .ok (.aload_n 1, 1) := by decide +kernel
theorem dL_446 : decode code 446 = .ok (.aload_n 0, 1) := by decide +kernel
theorem dL_447 : decode code 447 = .ok (.iload_n 3, 1) := by decide +kernel
theorem dL_448 : decode code 448 = .ok (.iconst 1, 1) := by decide +kernel
theorem dL_449 : decode code 449 = .ok (.iadd, 1) := by decide +kernel
theorem dL_450 : decode code 450 = .ok (.iaload, 1) := by decide +kernel
theorem dL_451 : decode code 451 = .ok (.aload_n 0, 1) := by decide +kernel
theorem dL_452 : decode code 452 = .ok (.iload_n 3, 1) := by decide +kernel
theorem dL_453 : decode code 453 = .ok (.iconst 2, 1) := by decide +kernel
theorem dL_454 : decode code 454 = .ok (.iadd, 1) := by decide +kernel
theorem dL_455 : decode code 455 = .ok (.iaload, 1) := by decide +kernel
theorem dL_456 : decode code 456 = .ok (.aload_n 0, 1) := by decide +kernel
theorem dL_457 : decode code 457 = .ok (.iload_n 3, 1) := by decide +kernel
theorem dL_458 : decode code 458 = .ok (.iconst 3, 1) := by decide +kernel
theorem dL_459 : decode code 459 = .ok (.iadd, 1) := by decide +kernel
theorem dL_460 : decode code 460 = .ok (.iaload, 1) := by decide +kernel
theorem dL_461 : decode code 461 = .ok (.invokevirtual 62, 3) := by decide +kernel
theorem dL_464 : decode code 464 = .ok (.aload_n 2, 1) := by decide +kernel
theorem dL_465 : decode code 465 = .ok (.aload_n 0, 1) := by decide +kernel
theorem dL_466 : decode code 466 = .ok (.iload_n 3, 1) := by decide +kernel
theorem dL_467 : decode code 467 = .ok (.iconst 1, 1) := by decide +kernel
theorem dL_468 : decode code 468 = .ok (.iadd, 1) := by decide +kernel
theorem dL_469 : decode code 469 = .ok (.iaload, 1) := by decide +kernel
theorem dL_470 : decode code 470 = .ok (.aload_n 0, 1) := by decide +kernel
theorem dL_471 : decode code 471 = .ok (.iload_n 3, 1) := by decide +kernel
theorem dL_472 : decode code 472 = .ok (.iconst 2, 1) := by decide +kernel
theorem dL_473 : decode code 473 = .ok (.iadd, 1) := by decide +kernel
theorem dL_474 : decode code 474 = .ok (.iaload, 1) := by decide +kernel
theorem dL_475 : decode code 475 = .ok (.aload_n 0, 1) := by decide +kernel
theorem dL_476 : decode code 476 = .ok (.iload_n 3, 1) := by decide +kernel
theorem dL_477 : decode code 477 = .ok (.iconst 3, 1) := by decide +kernel
theorem dL_478 : decode code 478 = .ok (.iadd, 1) := by decide +kernel
theorem dL_479 : decode code 479 = .ok (.iaload, 1) := by decide +kernel
theorem dL_480 : decode code 480 = .ok (.invokevirtual 65, 3) := by decide +kernel
theorem dL_483 : decode code 483 = .ok (.if_icmp .eq 292, 3) := by decide +kernel
theorem dL_486 : decode code 486 = .ok (.iconst 0, 1) := by decide +kernel
theorem dL_487 : decode code 487 = .ok (.ireturn, 1) := by decide +kernel
theorem dL_488 : decode code 488 = .ok (.aload_n 1, 1) := by decide +kernel
theorem dL_489 : decode code 489 = .ok (.aload_n 0, 1) := by decide +kernel
theorem dL_490 : decode code 490 = .ok (.iload_n 3, 1) := by decide +kernel
theorem dL_491 : decode code 491 = .ok (.iconst 1, 1) := by decide +kernel
theorem dL_492 : decode code 492 = .ok (.iadd, 1) := by decide +kernel
theorem dL_493 : decode code 493 = .ok (.iaload, 1) := by decide +kernel
theorem dL_494 : decode code 494 = .ok (.aload_n 0, 1) := by decide +kernel
theorem dL_495 : decode code 495 = .ok (.iload_n 3, 1) := by decide +kernel
theorem dL_496 : decode code 496 = .ok (.iconst 2, 1) := by decide +kernel
theorem dL_497 : decode code 497 = .ok (.iadd, 1) := by decide +kernel
theorem dL_498 : decode code 498 = .ok (.iaload, 1) := by decide +kernel
theorem dL_499 : decode code 499 = .ok (.aload_n 0, 1) := by decide +kernel
theorem dL_500 : decode code 500 = .ok (.iload_n 3, 1) := by decide +kernel
theorem dL_501 : decode code 501 = .ok (.iconst 3, 1) := by decide +kernel
theorem dL_502 : decode code 502 = .ok (.iadd, 1) := by decide +kernel
theorem dL_503 : decode code 503 = .ok (.iaload, 1) := by decide +kernel
theorem dL_504 : decode code 504 = .ok (.invokevirtual 66, 3) := by decide +kernel
theorem dL_507 : decode code 507 = .ok (.aload_n 2, 1) := by decide +kernel
theorem dL_508 : decode code 508 = .ok (.aload_n 0, 1) := by decide +kernel
theorem dL_509 : decode code 509 = .ok (.iload_n 3, 1) := by decide +kernel
theorem dL_510 : decode code 510 = .ok (.iconst 1, 1) := by decide +kernel
theorem dL_511 : decode code 511 = .ok (.iadd, 1) := by decide +kernel
theorem dL_512 : decode code 512 = .ok (.iaload, 1) := by decide +kernel
theorem dL_513 : decode code 513 = .ok (.aload_n 0, 1) := by decide +kernel
theorem dL_514 : decode code 514 = .ok (.iload_n 3, 1) := by decide +kernel
theorem dL_515 : decode code 515 = .ok (.iconst 2, 1) := by decide +kernel
theorem dL_516 : decode code 516 = .ok (.iadd, 1) := by decide +kernel
theorem dL_517 : decode code 517 = .ok (.iaload, 1) := by decide +kernel
theorem dL_518 : decode code 518 = .ok (.aload_n 0, 1) := by decide +kernel
theorem dL_519 : decode code 519 = .ok (.iload_n 3, 1) := by decide +kernel
theorem dL_520 : decode code 520 = .ok (.iconst 3, 1) := by decide +kernel
theorem dL_521 : decode code 521 = .ok (.iadd, 1) := by decide +kernel
theorem dL_522 : decode code 522 = .ok (.iaload, 1) := by decide +kernel
theorem dL_523 : decode code 523 = .ok (.invokevirtual 69, 3) := by decide +kernel
theorem dL_526 : decode code 526 = .ok (.if_icmp .eq 249, 3) := by decide +kernel
theorem dL_529 : decode code 529 = .ok (.iconst 0, 1) := by decide +kernel
theorem dL_530 : decode code 530 = .ok (.ireturn, 1) := by decide +kernel
theorem dL_531 : decode code 531 = .ok (.aload_n 1, 1) := by decide +kernel
theorem dL_532 : decode code 532 = .ok (.aload_n 0, 1) := by decide +kernel
theorem dL_533 : decode code 533 = .ok (.iload_n 3, 1) := by decide +kernel
theorem dL_534 : decode code 534 = .ok (.iconst 1, 1) := by decide +kernel
theorem dL_535 : decode code 535 = .ok (.iadd, 1) := by decide +kernel
theorem dL_536 : decode code 536 = .ok (.iaload, 1) := by decide +kernel
theorem dL_537 : decode code 537 = .ok (.aload_n 0, 1) := by decide +kernel
theorem dL_538 : decode code 538 = .ok (.iload_n 3, 1) := by decide +kernel
theorem dL_539 : decode code 539 = .ok (.iconst 2, 1) := by decide +kernel
theorem dL_540 : decode code 540 = .ok (.iadd, 1) := by decide +kernel
theorem dL_541 : decode code 541 = .ok (.iaload, 1) := by decide +kernel
theorem dL_542 : decode code 542 = .ok (.aload_n 0, 1) := by decide +kernel
theorem dL_543 : decode code 543 = .ok (.iload_n 3, 1) := by decide +kernel
theorem dL_544 : decode code 544 = .ok (.iconst 3, 1) := by decide +kernel
theorem dL_545 : decode code 545 = .ok (.iadd, 1) := by decide +kernel
theorem dL_546 : decode code 546 = .ok (.iaload, 1) := by decide +kernel
theorem dL_547 : decode code 547 = .ok (.invokevirtual 70, 3) := by decide +kernel
theorem dL_550 : decode code 550 = .ok (.aload_n 2, 1) := by decide +kernel
theorem dL_551 : decode code 551 = .ok (.aload_n 0, 1) := by decide +kernel
theorem dL_552 : decode code 552 = .ok (.iload_n 3, 1) := by decide +kernel
theorem dL_553 : decode code 553 = .ok (.iconst 1, 1) := by decide +kernel
theorem dL_554 : decode code 554 = .ok (.iadd, 1) := by decide +kernel
theorem dL_555 : decode code 555 = .ok (.iaload, 1) := by decide +kernel
theorem dL_556 : decode code 556 = .ok (.aload_n 0, 1) := by decide +kernel
theorem dL_557 : decode code 557 = .ok (.iload_n 3, 1) := by decide +kernel
theorem dL_558 : decode code 558 = .ok (.iconst 2, 1) := by decide +kernel
theorem dL_559 : decode code 559 = .ok (.iadd, 1) := by decide +kernel
theorem dL_560 : decode code 560 = .ok (.iaload, 1) := by decide +kernel
theorem dL_561 : decode code 561 = .ok (.aload_n 0, 1) := by decide +kernel
theorem dL_562 : decode code 562 = .ok (.iload_n 3, 1) := by decide +kernel
theorem dL_563 : decode code 563 = .ok (.iconst 3, 1) := by decide +kernel
theorem dL_564 : decode code 564 = .ok (.iadd, 1) := by decide +kernel
theorem dL_565 : decode code 565 = .ok (.iaload, 1) := by decide +kernel
theorem dL_566 : decode code 566 = .ok (.invokevirtual 73, 3) := by decide +kernel
theorem dL_569 : decode code 569 = .ok (.if_icmp .eq 206, 3) := by decide +kernel
theorem dL_572 : decode code 572 = .ok (.iconst 0, 1) := by decide +kernel
theorem dL_573 : decode code 573 = .ok (.ireturn, 1) := by decide +kernel
theorem dL_574 : decode code 574 = .ok (.aload_n 1, 1) := by decide +kernel
theorem dL_575 : decode code 575 = .ok (.aload_n 0, 1) := by decide +kernel
theorem dL_576 : decode code 576 = .ok (.iload_n 3, 1) := by decide +kernel
theorem dL_577 : decode code 577 = .ok (.iconst 1, 1) := by decide +kernel
theorem dL_578 : decode code 578 = .ok (.iadd, 1) := by decide +kernel
theorem dL_579 : decode code 579 = .ok (.iaload, 1) := by decide +kernel
theorem dL_580 : decode code 580 = .ok (.invokevirtual 74, 3) := by decide +kernel
theorem dL_583 : decode code 583 = .ok (.aload_n 2, 1) := by decide +kernel
theorem dL_584 : decode code 584 = .ok (.aload_n 0, 1) := by decide +kernel
theorem dL_585 : decode code 585 = .ok (.iload_n 3, 1) := by decide +kernel
theorem dL_586 : decode code 586 = .ok (.iconst 1, 1) := by decide +kernel
theorem dL_587 : decode code 587 = .ok (.iadd, 1) := by decide +kernel
theorem dL_588 : decode code 588 = .ok (.iaload, 1) := by decide +kernel
theorem dL_589 : decode code 589 = .ok (.invokevirtual 77, 3) := by decide +kernel
theorem dL_592 : decode code 592 = .ok (.if_icmp .eq 183, 3) := by decide +kernel
theorem dL_595 : decode code 595 = .ok (.iconst 0, 1) := by decide +kernel
theorem dL_596 : decode code 596 = .ok (.ireturn, 1) := by decide +kernel
theorem dL_597 : decode code 597 = .ok (.aload_n 1, 1) := by decide +kernel
theorem dL_598 : decode code 598 = .ok (.aload_n 0, 1) := by decide +kernel
theorem dL_599 : decode code 599 = .ok (.iload_n 3, 1) := by decide +kernel
theorem dL_600 : decode code 600 = .ok (.iconst 1, 1) := by decide +kernel
theorem dL_601 : decode code 601 = .ok (.iadd, 1) := by decide +kernel
theorem dL_602 : decode code 602 = .ok (.iaload, 1) := by decide +kernel
theorem dL_603 : decode code 603 = .ok (.invokevirtual 78, 3) := by decide +kernel
theorem dL_606 : decode code 606 = .ok (.aload_n 2, 1) := by decide +kernel
theorem dL_607 : decode code 607 = .ok (.aload_n 0, 1) := by decide +kernel
theorem dL_608 : decode code 608 = .ok (.iload_n 3, 1) := by decide +kernel
theorem dL_609 : decode code 609 = .ok (.iconst 1, 1) := by decide +kernel
theorem dL_610 : decode code 610 = .ok (.iadd, 1) := by decide +kernel
theorem dL_611 : decode code 611 = .ok (.iaload, 1) := by decide +kernel
theorem dL_612 : decode code 612 = .ok (.invokevirtual 81, 3) := by decide +kernel
theorem dL_615 : decode code 615 = .ok (.if_icmp .eq 160, 3) := by decide +kernel
theorem dL_618 : decode code 618 = .ok (.iconst 0, 1) := by decide +kernel
theorem dL_619 : decode code 619 = .ok (.ireturn, 1) := by decide +kernel
theorem dL_620 : decode code 620 = .ok (.aload_n 1, 1) := by decide +kernel
theorem dL_621 : decode code 621 = .ok (.aload_n 0, 1) := by decide +kernel
theorem dL_622 : decode code 622 = .ok (.iload_n 3, 1) := by decide +kernel
theorem dL_623 : decode code 623 = .ok (.iconst 1, 1) := by decide +kernel
theorem dL_624 : decode code 624 = .ok (.iadd, 1) := by decide +kernel
theorem dL_625 : decode code 625 = .ok (.iaload, 1) := by decide +kernel
theorem dL_626 : decode code 626 = .ok (.aload_n 0, 1) := by decide +kernel
theorem dL_627 : decode code 627 = .ok (.iload_n 3, 1) := by decide +kernel
theorem dL_628 : decode code 628 = .ok (.iconst 2, 1) := by decide +kernel
theorem dL_629 : decode code 629 = .ok (.iadd, 1) := by decide +kernel
theorem dL_630 : decode code 630 = .ok (.iaload, 1) := by decide +kernel
theorem dL_631 : decode code 631 = .ok (.invokevirtual 82, 3) := by decide +kernel
theorem dL_634 : decode code 634 = .ok (.aload_n 2, 1) := by decide +kernel
theorem dL_635 : decode code 635 = .ok (.aload_n 0, 1) := by decide +kernel
theorem dL_636 : decode code 636 = .ok (.iload_n 3, 1) := by decide +kernel
theorem dL_637 : decode code 637 = .ok (.iconst 1, 1) := by decide +kernel
theorem dL_638 : decode code 638 = .ok (.iadd, 1) := by decide +kernel
theorem dL_639 : decode code 639 = .ok (.iaload, 1) := by decide +kernel
theorem dL_640 : decode code 640 = .ok (.aload_n 0, 1) := by decide +kernel
theorem dL_641 : decode code 641 = .ok (.iload_n 3, 1) := by decide +kernel
theorem dL_642 : decode code 642 = .ok (.iconst 2, 1) := by decide +kernel
theorem dL_643 : decode code 643 = .ok (.iadd, 1) := by decide +kernel
theorem dL_644 : decode code 644 = .ok (.iaload, 1) := by decide +kernel
theorem dL_645 : decode code 645 = .ok (.invokevirtual 85, 3) := by decide +kernel
theorem dL_648 : decode code 648 = .ok (.if_icmp .eq 127, 3) := by decide +kernel
theorem dL_651 : decode code 651 = .ok (.iconst 0, 1) := by decide +kernel
theorem dL_652 : decode code 652 = .ok (.ireturn, 1) := by decide +kernel
theorem dL_653 : decode code 653 = .ok (.aload_n 1, 1) := by decide +kernel
theorem dL_654 : decode code 654 = .ok (.aload_n 0, 1) := by decide +kernel
theorem dL_655 : decode code 655 = .ok (.iload_n 3, 1) := by decide +kernel
theorem dL_656 : decode code 656 = .ok (.iconst 1, 1) := by decide +kernel
theorem dL_657 : decode code 657 = .ok (.iadd, 1) := by decide +kernel
theorem dL_658 : decode code 658 = .ok (.iaload, 1) := by decide +kernel
theorem dL_659 : decode code 659 = .ok (.aload_n 0, 1) := by decide +kernel
theorem dL_660 : decode code 660 = .ok (.iload_n 3, 1) := by decide +kernel
theorem dL_661 : decode code 661 = .ok (.iconst 2, 1) := by decide +kernel
theorem dL_662 : decode code 662 = .ok (.iadd, 1) := by decide +kernel
theorem dL_663 : decode code 663 = .ok (.iaload, 1) := by decide +kernel
theorem dL_664 : decode code 664 = .ok (.invokevirtual 86, 3) := by decide +kernel
theorem dL_667 : decode code 667 = .ok (.aload_n 2, 1) := by decide +kernel
theorem dL_668 : decode code 668 = .ok (.aload_n 0, 1) := by decide +kernel
theorem dL_669 : decode code 669 = .ok (.iload_n 3, 1) := by decide +kernel
theorem dL_670 : decode code 670 = .ok (.iconst 1, 1) := by decide +kernel
theorem dL_671 : decode code 671 = .ok (.iadd, 1) := by decide +kernel
theorem dL_672 : decode code 672 = .ok (.iaload, 1) := by decide +kernel
theorem dL_673 : decode code 673 = .ok (.aload_n 0, 1) := by decide +kernel
theorem dL_674 : decode code 674 = .ok (.iload_n 3, 1) := by decide +kernel
theorem dL_675 : decode code 675 = .ok (.iconst 2, 1) := by decide +kernel
theorem dL_676 : decode code 676 = .ok (.iadd, 1) := by decide +kernel
theorem dL_677 : decode code 677 = .ok (.iaload, 1) := by decide +kernel
theorem dL_678 : decode code 678 = .ok (.invokevirtual 89, 3) := by decide +kernel
theorem dL_681 : decode code 681 = .ok (.if_icmp .eq 94, 3) := by decide +kernel
theorem dL_684 : decode code 684 = .ok (.iconst 0, 1) := by decide +kernel
theorem dL_685 : decode code 685 = .ok (.ireturn, 1) := by decide +kernel
theorem dL_686 : decode code 686 = .ok (.aload_n 1, 1) := by decide +kernel
theorem dL_687 : decode code 687 = .ok (.aload_n 0, 1) := by decide +kernel
theorem dL_688 : decode code 688 = .ok (.iload_n 3, 1) := by decide +kernel
theorem dL_689 : decode code 689 = .ok (.iconst 1, 1) := by decide +kernel
theorem dL_690 : decode code 690 = .ok (.iadd, 1) := by decide +kernel
theorem dL_691 : decode code 691 = .ok (.iaload, 1) := by decide +kernel
theorem dL_692 : decode code 692 = .ok (.aload_n 0, 1) := by decide +kernel
theorem dL_693 : decode code 693 = .ok (.iload_n 3, 1) := by decide +kernel
theorem dL_694 : decode code 694 = .ok (.iconst 2, 1) := by decide +kernel
theorem dL_695 : decode code 695 = .ok (.iadd, 1) := by decide +kernel
theorem dL_696 : decode code 696 = .ok (.iaload, 1) := by decide +kernel
theorem dL_697 : decode code 697 = .ok (.invokevirtual 90, 3) := by decide +kernel
theorem dL_700 : decode code 700 = .ok (.aload_n 2, 1) := by decide +kernel
theorem dL_701 : decode code 701 = .ok (.aload_n 0, 1) := by decide +kernel
theorem dL_702 : decode code 702 = .ok (.iload_n 3, 1) := by decide +kernel
theorem dL_703 : decode code 703 = .ok (.iconst 1, 1) := by decide +kernel
theorem dL_704 : decode code 704 = .ok (.iadd, 1) := by decide +kernel
theorem dL_705 : decode code 705 = .ok (.iaload, 1) := by decide +kernel
theorem dL_706 : decode code 706 = .ok (.aload_n 0, 1) := by decide +kernel
theorem dL_707 : decode code 707 = .ok (.iload_n 3, 1) := by decide +kernel
theorem dL_708 : decode code 708 = .ok (.iconst 2, 1) := by decide +kernel
theorem dL_709 : decode code 709 = .ok (.iadd, 1) := by decide +kernel
theorem dL_710 : decode code 710 = .ok (.iaload, 1) := by decide +kernel
theorem dL_711 : decode code 711 = .ok (.invokevirtual 93, 3) := by decide +kernel
theorem dL_714 : decode code 714 = .ok (.if_icmp .eq 61, 3) := by decide +kernel
theorem dL_717 : decode code 717 = .ok (.iconst 0, 1) := by decide +kernel
theorem dL_718 : decode code 718 = .ok (.ireturn, 1) := by decide +kernel
theorem dL_719 : decode code 719 = .ok (.aload_n 1, 1) := by decide +kernel
theorem dL_720 : decode code 720 = .ok (.aload_n 0, 1) := by decide +kernel
theorem dL_721 : decode code 721 = .ok (.iload_n 3, 1) := by decide +kernel
theorem dL_722 : decode code 722 = .ok (.iconst 1, 1) := by decide +kernel
theorem dL_723 : decode code 723 = .ok (.iadd, 1) := by decide +kernel
theorem dL_724 : decode code 724 = .ok (.iaload, 1) := by decide +kernel
theorem dL_725 : decode code 725 = .ok (.aload_n 0, 1) := by decide +kernel
theorem dL_726 : decode code 726 = .ok (.iload_n 3, 1) := by decide +kernel
theorem dL_727 : decode code 727 = .ok (.iconst 2, 1) := by decide +kernel
theorem dL_728 : decode code 728 = .ok (.iadd, 1) := by decide +kernel
theorem dL_729 : decode code 729 = .ok (.iaload, 1) := by decide +kernel
theorem dL_730 : decode code 730 = .ok (.invokevirtual 94, 3) := by decide +kernel
theorem dL_733 : decode code 733 = .ok (.aload_n 2, 1) := by decide +kernel
theorem dL_734 : decode code 734 = .ok (.aload_n 0, 1) := by decide +kernel
theorem dL_735 : decode code 735 = .ok (.iload_n 3, 1) := by decide +kernel
theorem dL_736 : decode code 736 = .ok (.iconst 1, 1) := by decide +kernel
theorem dL_737 : decode code 737 = .ok (.iadd, 1) := by decide +kernel
theorem dL_738 : decode code 738 = .ok (.iaload, 1) := by decide +kernel
theorem dL_739 : decode code 739 = .ok (.aload_n 0, 1) := by decide +kernel
theorem dL_740 : decode code 740 = .ok (.iload_n 3, 1) := by decide +kernel
theorem dL_741 : decode code 741 = .ok (.iconst 2, 1) := by decide +kernel
theorem dL_742 : decode code 742 = .ok (.iadd, 1) := by decide +kernel
theorem dL_743 : decode code 743 = .ok (.iaload, 1) := by decide +kernel
theorem dL_744 : decode code 744 = .ok (.invokevirtual 97, 3) := by decide +kernel
theorem dL_747 : decode code 747 = .ok (.if_icmp .eq 28, 3) := by decide +kernel
theorem dL_750 : decode code 750 = .ok (.iconst 0, 1) := by decide +kernel
theorem dL_751 : decode code 751 = .ok (.ireturn, 1) := by decide +kernel
theorem dL_752 : decode code 752 = .ok (.aload_n 1, 1) := by decide +kernel
theorem dL_753 : decode code 753 = .ok (.aload_n 0, 1) := by decide +kernel
theorem dL_754 : decode code 754 = .ok (.iload_n 3, 1) := by decide +kernel
theorem dL_755 : decode code 755 = .ok (.iconst 1, 1) := by decide +kernel
theorem dL_756 : decode code 756 = .ok (.iadd, 1) := by decide +kernel
theorem dL_757 : decode code 757 = .ok (.iaload, 1) := by decide +kernel
theorem dL_758 : decode code 758 = .ok (.invokevirtual 98, 3) := by decide +kernel
theorem dL_761 : decode code 761 = .ok (.aload_n 2, 1) := by decide +kernel
theorem dL_762 : decode code 762 = .ok (.aload_n 0, 1) := by decide +kernel
theorem dL_763 : decode code 763 = .ok (.iload_n 3, 1) := by decide +kernel
theorem dL_764 : decode code 764 = .ok (.iconst 1, 1) := by decide +kernel
theorem dL_765 : decode code 765 = .ok (.iadd, 1) := by decide +kernel
theorem dL_766 : decode code 766 = .ok (.iaload, 1) := by decide +kernel
theorem dL_767 : decode code 767 = .ok (.invokevirtual 101, 3) := by decide +kernel
theorem dL_770 : decode code 770 = .ok (.if_icmp .eq 5, 3) := by decide +kernel
theorem dL_773 : decode code 773 = .ok (.iconst 0, 1) := by decide +kernel
theorem dL_774 : decode code 774 = .ok (.ireturn, 1) := by decide +kernel
theorem dL_775 : decode code 775 = .ok (.iinc 3 5, 3) := by decide +kernel
theorem dL_778 : decode code 778 = .ok (.goto (-760), 3) := by decide +kernel
theorem dL_781 : decode code 781 = .ok (.iconst 1, 1) := by decide +kernel
theorem dL_782 : decode code 782 = .ok (.ireturn, 1) := by decide +kernel
set_option maxHeartbeats 1000000 in
set_option maxRecDepth 100000 in
theorem law_c0 {V : sw_V} {adX adM : Nat → Nat} {b Ln : Nat} {xs : Nat → Int32} {R : Nat → sw_St → sw_St → Prop} (C : sw_Ux V adX adM b Ln xs) (hst : sw_Step R) (n : Nat) (hn : n < 512) (x3 : Int32) (hin : ∀ k : Int32, (k = 0 ∨ k = 1 ∨ k = 2 ∨ k = 3 ∨ k = 4) → vp_in (x3 + k) Ln) (σx σm : sw_St) (hR : R n σx σm) (hnext : ∀ σx' σm', R (n + 1) σx' σm' → sw_U V adX adM b [some (.ref b), some (.ref (adX 1)), some (.ref (adM 1)), some (.int x3)] [] 775 σx' σm') : sw_U V adX adM b [some (.ref b), some (.ref (adX 1)), some (.ref (adM 1)), some (.int x3)] [] 132 σx σm := by
  obtain ⟨hI, -⟩ := C.2.2.2.2.2.2.2.2
  obtain ⟨r, x', y', h1, h2, hR2⟩ := hst.2 n 0 σx σm (xs (x3 + 1).toNatClampNeg) (xs (x3 + 2).toNatClampNeg) (xs (x3 + 3).toNatClampNeg) (xs (x3 + 4).toNatClampNeg) hn (by decide) hR
  refine u_aload_n C dL_132 rfl ?_
  refine u_aload_n C dL_133 rfl ?_
  refine u_iload_n C dL_134 rfl ?_
  refine u_iconst C dL_135 1 (by decide) ?_
  refine u_iadd C dL_136 ?_
  refine u_sld C dL_137 (hin 1 (by decide)) ?_
  refine u_aload_n C dL_138 rfl ?_
  refine u_iload_n C dL_139 rfl ?_
  refine u_iconst C dL_140 2 (by decide) ?_
  refine u_iadd C dL_141 ?_
  refine u_sld C dL_142 (hin 2 (by decide)) ?_
  refine u_aload_n C dL_143 rfl ?_
  refine u_iload_n C dL_144 rfl ?_
  refine u_iconst C dL_145 3 (by decide) ?_
  refine u_iadd C dL_146 ?_
  refine u_sld C dL_147 (hin 3 (by decide)) ?_
  refine u_aload_n C dL_148 rfl ?_
  refine u_iload_n C dL_149 rfl ?_
  refine u_iconst C dL_150 4 (by decide) ?_
  refine u_iadd C dL_151 ?_
  refine u_sld C dL_152 (hin 4 (by decide)) ?_
  refine u_callX C dL_153 [.int (xs (x3 + 1).toNatClampNeg), .int (xs (x3 + 2).toNatClampNeg), .int (xs (x3 + 3).toNatClampNeg), .int (xs (x3 + 4).toNatClampNeg)] [] ml_L_13 rfl (Nat.le_of_ble_eq_true rfl) rfl ⟨by decide, by decide⟩ (m_X6_begin V.1.2.1 _ _ _ _ hI.1 σx (xs (x3 + 1).toNatClampNeg) (xs (x3 + 2).toNatClampNeg) (xs (x3 + 3).toNatClampNeg) (xs (x3 + 4).toNatClampNeg) (r, x') h1) rfl ?_
  refine u_aload_n C dL_156 rfl ?_
  refine u_aload_n C dL_157 rfl ?_
  refine u_iload_n C dL_158 rfl ?_
  refine u_iconst C dL_159 1 (by decide) ?_
  refine u_iadd C dL_160 ?_
  refine u_sld C dL_161 (hin 1 (by decide)) ?_
  refine u_aload_n C dL_162 rfl ?_
  refine u_iload_n C dL_163 rfl ?_
  refine u_iconst C dL_164 2 (by decide) ?_
  refine u_iadd C dL_165 ?_
  refine u_sld C dL_166 (hin 2 (by decide)) ?_
  refine u_aload_n C dL_167 rfl ?_
  refine u_iload_n C dL_168 rfl ?_
  refine u_iconst C dL_169 3 (by decide) ?_
  refine u_iadd C dL_170 ?_
  refine u_sld C dL_171 (hin 3 (by decide)) ?_
  refine u_aload_n C dL_172 rfl ?_
  refine u_iload_n C dL_173 rfl ?_
  refine u_iconst C dL_174 4 (by decide) ?_
  refine u_iadd C dL_175 ?_
  refine u_sld C dL_176 (hin 4 (by decide)) ?_
  refine u_callM C dL_177 [.int (xs (x3 + 1).toNatClampNeg), .int (xs (x3 + 2).toNatClampNeg), .int (xs (x3 + 3).toNatClampNeg), .int (xs (x3 + 4).toNatClampNeg)] [.int r] ml_L_17 rfl (Nat.le_of_ble_eq_true rfl) rfl ⟨by decide, by decide⟩ (m_X7_begin V.1.2.1 _ _ _ _ hI.2 σm (xs (x3 + 1).toNatClampNeg) (xs (x3 + 2).toNatClampNeg) (xs (x3 + 3).toNatClampNeg) (xs (x3 + 4).toNatClampNeg) (r, y') h2) rfl ?_
  refine u_eqT C dL_180 775 (by decide) ?_
  exact hnext x' y' hR2
set_option maxHeartbeats 1000000 in
set_option maxRecDepth 100000 in
theorem law_c1 {V : sw_V} {adX adM : Nat → Nat} {b Ln : Nat} {xs : Nat → Int32} {R : Nat → sw_St → sw_St → Prop} (C : sw_Ux V adX adM b Ln xs) (hst : sw_Step R) (n : Nat) (hn : n < 512) (x3 : Int32) (hin : ∀ k : Int32, (k = 0 ∨ k = 1 ∨ k = 2 ∨ k = 3 ∨ k = 4) → vp_in (x3 + k) Ln) (σx σm : sw_St) (hR : R n σx σm) (hnext : ∀ σx' σm', R (n + 1) σx' σm' → sw_U V adX adM b [some (.ref b), some (.ref (adX 1)), some (.ref (adM 1)), some (.int x3)] [] 775 σx' σm') : sw_U V adX adM b [some (.ref b), some (.ref (adX 1)), some (.ref (adM 1)), some (.int x3)] [] 185 σx σm := by
  obtain ⟨hI, -⟩ := C.2.2.2.2.2.2.2.2
  obtain ⟨r, x', y', h1, h2, hR2⟩ := hst.2 n 1 σx σm (xs (x3 + 1).toNatClampNeg) (xs (x3 + 2).toNatClampNeg) 0 0 hn (by decide) hR
  refine u_aload_n C dL_185 rfl ?_
  refine u_aload_n C dL_186 rfl ?_
  refine u_iload_n C dL_187 rfl ?_
  refine u_iconst C dL_188 1 (by decide) ?_
  refine u_iadd C dL_189 ?_
  refine u_sld C dL_190 (hin 1 (by decide)) ?_
  refine u_aload_n C dL_191 rfl ?_
  refine u_iload_n C dL_192 rfl ?_
  refine u_iconst C dL_193 2 (by decide) ?_
  refine u_iadd C dL_194 ?_
  refine u_sld C dL_195 (hin 2 (by decide)) ?_
  refine u_callX C dL_196 [.int (xs (x3 + 1).toNatClampNeg), .int (xs (x3 + 2).toNatClampNeg)] [] ml_L_18 rfl (Nat.le_of_ble_eq_true rfl) rfl ⟨by decide, by decide⟩ (m_X6_read V.1.2.1 _ _ _ _ hI.1 σx (xs (x3 + 1).toNatClampNeg) (xs (x3 + 2).toNatClampNeg) (r, x') h1) rfl ?_
  refine u_aload_n C dL_199 rfl ?_
  refine u_aload_n C dL_200 rfl ?_
  refine u_iload_n C dL_201 rfl ?_
  refine u_iconst C dL_202 1 (by decide) ?_
  refine u_iadd C dL_203 ?_
  refine u_sld C dL_204 (hin 1 (by decide)) ?_
  refine u_aload_n C dL_205 rfl ?_
  refine u_iload_n C dL_206 rfl ?_
  refine u_iconst C dL_207 2 (by decide) ?_
  refine u_iadd C dL_208 ?_
  refine u_sld C dL_209 (hin 2 (by decide)) ?_
  refine u_callM C dL_210 [.int (xs (x3 + 1).toNatClampNeg), .int (xs (x3 + 2).toNatClampNeg)] [.int r] ml_L_22 rfl (Nat.le_of_ble_eq_true rfl) rfl ⟨by decide, by decide⟩ (m_X7_read V.1.2.1 _ _ _ _ hI.2 σm (xs (x3 + 1).toNatClampNeg) (xs (x3 + 2).toNatClampNeg) (r, y') h2) rfl ?_
  refine u_eqT C dL_213 775 (by decide) ?_
  exact hnext x' y' hR2
set_option maxHeartbeats 1000000 in
set_option maxRecDepth 100000 in
theorem law_c2 {V : sw_V} {adX adM : Nat → Nat} {b Ln : Nat} {xs : Nat → Int32} {R : Nat → sw_St → sw_St → Prop} (C : sw_Ux V adX adM b Ln xs) (hst : sw_Step R) (n : Nat) (hn : n < 512) (x3 : Int32) (hin : ∀ k : Int32, (k = 0 ∨ k = 1 ∨ k = 2 ∨ k = 3 ∨ k = 4) → vp_in (x3 + k) Ln) (σx σm : sw_St) (hR : R n σx σm) (hnext : ∀ σx' σm', R (n + 1) σx' σm' → sw_U V adX adM b [some (.ref b), some (.ref (adX 1)), some (.ref (adM 1)), some (.int x3)] [] 775 σx' σm') : sw_U V adX adM b [some (.ref b), some (.ref (adX 1)), some (.ref (adM 1)), some (.int x3)] [] 218 σx σm := by
  obtain ⟨hI, -⟩ := C.2.2.2.2.2.2.2.2
  obtain ⟨r, x', y', h1, h2, hR2⟩ := hst.2 n 2 σx σm (xs (x3 + 1).toNatClampNeg) (xs (x3 + 2).toNatClampNeg) (xs (x3 + 3).toNatClampNeg) 0 hn (by decide) hR
  refine u_aload_n C dL_218 rfl ?_
  refine u_aload_n C dL_219 rfl ?_
  refine u_iload_n C dL_220 rfl ?_
  refine u_iconst C dL_221 1 (by decide) ?_
  refine u_iadd C dL_222 ?_
  refine u_sld C dL_223 (hin 1 (by decide)) ?_
  refine u_aload_n C dL_224 rfl ?_
  refine u_iload_n C dL_225 rfl ?_
  refine u_iconst C dL_226 2 (by decide) ?_
  refine u_iadd C dL_227 ?_
  refine u_sld C dL_228 (hin 2 (by decide)) ?_
  refine u_aload_n C dL_229 rfl ?_
  refine u_iload_n C dL_230 rfl ?_
  refine u_iconst C dL_231 3 (by decide) ?_
  refine u_iadd C dL_232 ?_
  refine u_sld C dL_233 (hin 3 (by decide)) ?_
  refine u_callX C dL_234 [.int (xs (x3 + 1).toNatClampNeg), .int (xs (x3 + 2).toNatClampNeg), .int (xs (x3 + 3).toNatClampNeg)] [] ml_L_23 rfl (Nat.le_of_ble_eq_true rfl) rfl ⟨by decide, by decide⟩ (m_X6_store V.1.2.1 _ _ _ _ hI.1 σx (xs (x3 + 1).toNatClampNeg) (xs (x3 + 2).toNatClampNeg) (xs (x3 + 3).toNatClampNeg) (r, x') h1) rfl ?_
  refine u_aload_n C dL_237 rfl ?_
  refine u_aload_n C dL_238 rfl ?_
  refine u_iload_n C dL_239 rfl ?_
  refine u_iconst C dL_240 1 (by decide) ?_
  refine u_iadd C dL_241 ?_
  refine u_sld C dL_242 (hin 1 (by decide)) ?_
  refine u_aload_n C dL_243 rfl ?_
  refine u_iload_n C dL_244 rfl ?_
  refine u_iconst C dL_245 2 (by decide) ?_
  refine u_iadd C dL_246 ?_
  refine u_sld C dL_247 (hin 2 (by decide)) ?_
  refine u_aload_n C dL_248 rfl ?_
  refine u_iload_n C dL_249 rfl ?_
  refine u_iconst C dL_250 3 (by decide) ?_
  refine u_iadd C dL_251 ?_
  refine u_sld C dL_252 (hin 3 (by decide)) ?_
  refine u_callM C dL_253 [.int (xs (x3 + 1).toNatClampNeg), .int (xs (x3 + 2).toNatClampNeg), .int (xs (x3 + 3).toNatClampNeg)] [.int r] ml_L_27 rfl (Nat.le_of_ble_eq_true rfl) rfl ⟨by decide, by decide⟩ (m_X7_store V.1.2.1 _ _ _ _ hI.2 σm (xs (x3 + 1).toNatClampNeg) (xs (x3 + 2).toNatClampNeg) (xs (x3 + 3).toNatClampNeg) (r, y') h2) rfl ?_
  refine u_eqT C dL_256 775 (by decide) ?_
  exact hnext x' y' hR2
set_option maxHeartbeats 1000000 in
set_option maxRecDepth 100000 in
theorem law_c3 {V : sw_V} {adX adM : Nat → Nat} {b Ln : Nat} {xs : Nat → Int32} {R : Nat → sw_St → sw_St → Prop} (C : sw_Ux V adX adM b Ln xs) (hst : sw_Step R) (n : Nat) (hn : n < 512) (x3 : Int32) (hin : ∀ k : Int32, (k = 0 ∨ k = 1 ∨ k = 2 ∨ k = 3 ∨ k = 4) → vp_in (x3 + k) Ln) (σx σm : sw_St) (hR : R n σx σm) (hnext : ∀ σx' σm', R (n + 1) σx' σm' → sw_U V adX adM b [some (.ref b), some (.ref (adX 1)), some (.ref (adM 1)), some (.int x3)] [] 775 σx' σm') : sw_U V adX adM b [some (.ref b), some (.ref (adX 1)), some (.ref (adM 1)), some (.int x3)] [] 261 σx σm := by
  obtain ⟨hI, -⟩ := C.2.2.2.2.2.2.2.2
  obtain ⟨r, x', y', h1, h2, hR2⟩ := hst.2 n 3 σx σm (xs (x3 + 1).toNatClampNeg) (xs (x3 + 2).toNatClampNeg) 0 0 hn (by decide) hR
  refine u_aload_n C dL_261 rfl ?_
  refine u_aload_n C dL_262 rfl ?_
  refine u_iload_n C dL_263 rfl ?_
  refine u_iconst C dL_264 1 (by decide) ?_
  refine u_iadd C dL_265 ?_
  refine u_sld C dL_266 (hin 1 (by decide)) ?_
  refine u_aload_n C dL_267 rfl ?_
  refine u_iload_n C dL_268 rfl ?_
  refine u_iconst C dL_269 2 (by decide) ?_
  refine u_iadd C dL_270 ?_
  refine u_sld C dL_271 (hin 2 (by decide)) ?_
  refine u_callX C dL_272 [.int (xs (x3 + 1).toNatClampNeg), .int (xs (x3 + 2).toNatClampNeg)] [] ml_L_28 rfl (Nat.le_of_ble_eq_true rfl) rfl ⟨by decide, by decide⟩ (m_X6_drop V.1.2.1 _ _ _ _ hI.1 σx (xs (x3 + 1).toNatClampNeg) (xs (x3 + 2).toNatClampNeg) (r, x') h1) rfl ?_
  refine u_aload_n C dL_275 rfl ?_
  refine u_aload_n C dL_276 rfl ?_
  refine u_iload_n C dL_277 rfl ?_
  refine u_iconst C dL_278 1 (by decide) ?_
  refine u_iadd C dL_279 ?_
  refine u_sld C dL_280 (hin 1 (by decide)) ?_
  refine u_aload_n C dL_281 rfl ?_
  refine u_iload_n C dL_282 rfl ?_
  refine u_iconst C dL_283 2 (by decide) ?_
  refine u_iadd C dL_284 ?_
  refine u_sld C dL_285 (hin 2 (by decide)) ?_
  refine u_callM C dL_286 [.int (xs (x3 + 1).toNatClampNeg), .int (xs (x3 + 2).toNatClampNeg)] [.int r] ml_L_31 rfl (Nat.le_of_ble_eq_true rfl) rfl ⟨by decide, by decide⟩ (m_X7_drop V.1.2.1 _ _ _ _ hI.2 σm (xs (x3 + 1).toNatClampNeg) (xs (x3 + 2).toNatClampNeg) (r, y') h2) rfl ?_
  refine u_eqT C dL_289 775 (by decide) ?_
  exact hnext x' y' hR2
set_option maxHeartbeats 1000000 in
set_option maxRecDepth 100000 in
theorem law_c4 {V : sw_V} {adX adM : Nat → Nat} {b Ln : Nat} {xs : Nat → Int32} {R : Nat → sw_St → sw_St → Prop} (C : sw_Ux V adX adM b Ln xs) (hst : sw_Step R) (n : Nat) (hn : n < 512) (x3 : Int32) (hin : ∀ k : Int32, (k = 0 ∨ k = 1 ∨ k = 2 ∨ k = 3 ∨ k = 4) → vp_in (x3 + k) Ln) (σx σm : sw_St) (hR : R n σx σm) (hnext : ∀ σx' σm', R (n + 1) σx' σm' → sw_U V adX adM b [some (.ref b), some (.ref (adX 1)), some (.ref (adM 1)), some (.int x3)] [] 775 σx' σm') : sw_U V adX adM b [some (.ref b), some (.ref (adX 1)), some (.ref (adM 1)), some (.int x3)] [] 294 σx σm := by
  obtain ⟨hI, -⟩ := C.2.2.2.2.2.2.2.2
  obtain ⟨r, x', y', h1, h2, hR2⟩ := hst.2 n 4 σx σm (xs (x3 + 1).toNatClampNeg) 0 0 0 hn (by decide) hR
  refine u_aload_n C dL_294 rfl ?_
  refine u_aload_n C dL_295 rfl ?_
  refine u_iload_n C dL_296 rfl ?_
  refine u_iconst C dL_297 1 (by decide) ?_
  refine u_iadd C dL_298 ?_
  refine u_sld C dL_299 (hin 1 (by decide)) ?_
  refine u_callX C dL_300 [.int (xs (x3 + 1).toNatClampNeg)] [] ml_L_32 rfl (Nat.le_of_ble_eq_true rfl) rfl ⟨by decide, by decide⟩ (m_X6_turn V.1.2.1 _ _ _ _ hI.1 σx (xs (x3 + 1).toNatClampNeg) (r, x') h1) rfl ?_
  refine u_aload_n C dL_303 rfl ?_
  refine u_aload_n C dL_304 rfl ?_
  refine u_iload_n C dL_305 rfl ?_
  refine u_iconst C dL_306 1 (by decide) ?_
  refine u_iadd C dL_307 ?_
  refine u_sld C dL_308 (hin 1 (by decide)) ?_
  refine u_callM C dL_309 [.int (xs (x3 + 1).toNatClampNeg)] [.int r] ml_L_36 rfl (Nat.le_of_ble_eq_true rfl) rfl ⟨by decide, by decide⟩ (m_X7_turn V.1.2.1 _ _ _ _ hI.2 σm (xs (x3 + 1).toNatClampNeg) (r, y') h2) rfl ?_
  refine u_eqT C dL_312 775 (by decide) ?_
  exact hnext x' y' hR2
set_option maxHeartbeats 1000000 in
set_option maxRecDepth 100000 in
theorem law_c5 {V : sw_V} {adX adM : Nat → Nat} {b Ln : Nat} {xs : Nat → Int32} {R : Nat → sw_St → sw_St → Prop} (C : sw_Ux V adX adM b Ln xs) (hst : sw_Step R) (n : Nat) (hn : n < 512) (x3 : Int32) (hin : ∀ k : Int32, (k = 0 ∨ k = 1 ∨ k = 2 ∨ k = 3 ∨ k = 4) → vp_in (x3 + k) Ln) (σx σm : sw_St) (hR : R n σx σm) (hnext : ∀ σx' σm', R (n + 1) σx' σm' → sw_U V adX adM b [some (.ref b), some (.ref (adX 1)), some (.ref (adM 1)), some (.int x3)] [] 775 σx' σm') : sw_U V adX adM b [some (.ref b), some (.ref (adX 1)), some (.ref (adM 1)), some (.int x3)] [] 317 σx σm := by
  obtain ⟨hI, -⟩ := C.2.2.2.2.2.2.2.2
  obtain ⟨r, x', y', h1, h2, hR2⟩ := hst.2 n 5 σx σm (xs (x3 + 1).toNatClampNeg) 0 0 0 hn (by decide) hR
  refine u_aload_n C dL_317 rfl ?_
  refine u_aload_n C dL_318 rfl ?_
  refine u_iload_n C dL_319 rfl ?_
  refine u_iconst C dL_320 1 (by decide) ?_
  refine u_iadd C dL_321 ?_
  refine u_sld C dL_322 (hin 1 (by decide)) ?_
  refine u_callX C dL_323 [.int (xs (x3 + 1).toNatClampNeg)] [] ml_L_37 rfl (Nat.le_of_ble_eq_true rfl) rfl ⟨by decide, by decide⟩ (m_X6_write V.1.2.1 _ _ _ _ hI.1 σx (xs (x3 + 1).toNatClampNeg) (r, x') h1) rfl ?_
  refine u_aload_n C dL_326 rfl ?_
  refine u_aload_n C dL_327 rfl ?_
  refine u_iload_n C dL_328 rfl ?_
  refine u_iconst C dL_329 1 (by decide) ?_
  refine u_iadd C dL_330 ?_
  refine u_sld C dL_331 (hin 1 (by decide)) ?_
  refine u_callM C dL_332 [.int (xs (x3 + 1).toNatClampNeg)] [.int r] ml_L_40 rfl (Nat.le_of_ble_eq_true rfl) rfl ⟨by decide, by decide⟩ (m_X7_write V.1.2.1 _ _ _ _ hI.2 σm (xs (x3 + 1).toNatClampNeg) (r, y') h2) rfl ?_
  refine u_eqT C dL_335 775 (by decide) ?_
  exact hnext x' y' hR2
set_option maxHeartbeats 1000000 in
set_option maxRecDepth 100000 in
theorem law_c6 {V : sw_V} {adX adM : Nat → Nat} {b Ln : Nat} {xs : Nat → Int32} {R : Nat → sw_St → sw_St → Prop} (C : sw_Ux V adX adM b Ln xs) (hst : sw_Step R) (n : Nat) (hn : n < 512) (x3 : Int32) (hin : ∀ k : Int32, (k = 0 ∨ k = 1 ∨ k = 2 ∨ k = 3 ∨ k = 4) → vp_in (x3 + k) Ln) (σx σm : sw_St) (hR : R n σx σm) (hnext : ∀ σx' σm', R (n + 1) σx' σm' → sw_U V adX adM b [some (.ref b), some (.ref (adX 1)), some (.ref (adM 1)), some (.int x3)] [] 775 σx' σm') : sw_U V adX adM b [some (.ref b), some (.ref (adX 1)), some (.ref (adM 1)), some (.int x3)] [] 340 σx σm := by
  obtain ⟨hI, -⟩ := C.2.2.2.2.2.2.2.2
  obtain ⟨r, x', y', h1, h2, hR2⟩ := hst.2 n 6 σx σm 0 0 0 0 hn (by decide) hR
  refine u_aload_n C dL_340 rfl ?_
  refine u_callX C dL_341 [] [] ml_L_41 rfl (Nat.le_of_ble_eq_true rfl) rfl ⟨by decide, by decide⟩ (m_X6_wipe V.1.2.1 _ _ _ _ hI.1 σx  (r, x') h1) rfl ?_
  refine u_aload_n C dL_344 rfl ?_
  refine u_callM C dL_345 [] [.int r] ml_L_45 rfl (Nat.le_of_ble_eq_true rfl) rfl ⟨by decide, by decide⟩ (m_X7_wipe V.1.2.1 _ _ _ _ hI.2 σm  (r, y') h2) rfl ?_
  refine u_eqT C dL_348 775 (by decide) ?_
  exact hnext x' y' hR2
set_option maxHeartbeats 1000000 in
set_option maxRecDepth 100000 in
theorem law_c7 {V : sw_V} {adX adM : Nat → Nat} {b Ln : Nat} {xs : Nat → Int32} {R : Nat → sw_St → sw_St → Prop} (C : sw_Ux V adX adM b Ln xs) (hst : sw_Step R) (n : Nat) (hn : n < 512) (x3 : Int32) (hin : ∀ k : Int32, (k = 0 ∨ k = 1 ∨ k = 2 ∨ k = 3 ∨ k = 4) → vp_in (x3 + k) Ln) (σx σm : sw_St) (hR : R n σx σm) (hnext : ∀ σx' σm', R (n + 1) σx' σm' → sw_U V adX adM b [some (.ref b), some (.ref (adX 1)), some (.ref (adM 1)), some (.int x3)] [] 775 σx' σm') : sw_U V adX adM b [some (.ref b), some (.ref (adX 1)), some (.ref (adM 1)), some (.int x3)] [] 353 σx σm := by
  obtain ⟨hI, -⟩ := C.2.2.2.2.2.2.2.2
  obtain ⟨r, x', y', h1, h2, hR2⟩ := hst.2 n 7 σx σm 0 0 0 0 hn (by decide) hR
  refine u_aload_n C dL_353 rfl ?_
  refine u_callX C dL_354 [] [] ml_L_46 rfl (Nat.le_of_ble_eq_true rfl) rfl ⟨by decide, by decide⟩ (m_X6_fault V.1.2.1 _ _ _ _ hI.1 σx  (r, x') h1) rfl ?_
  refine u_aload_n C dL_357 rfl ?_
  refine u_callM C dL_358 [] [.int r] ml_L_49 rfl (Nat.le_of_ble_eq_true rfl) rfl ⟨by decide, by decide⟩ (m_X7_fault V.1.2.1 _ _ _ _ hI.2 σm  (r, y') h2) rfl ?_
  refine u_eqT C dL_361 775 (by decide) ?_
  exact hnext x' y' hR2
set_option maxHeartbeats 1000000 in
set_option maxRecDepth 100000 in
theorem law_c8 {V : sw_V} {adX adM : Nat → Nat} {b Ln : Nat} {xs : Nat → Int32} {R : Nat → sw_St → sw_St → Prop} (C : sw_Ux V adX adM b Ln xs) (hst : sw_Step R) (n : Nat) (hn : n < 512) (x3 : Int32) (hin : ∀ k : Int32, (k = 0 ∨ k = 1 ∨ k = 2 ∨ k = 3 ∨ k = 4) → vp_in (x3 + k) Ln) (σx σm : sw_St) (hR : R n σx σm) (hnext : ∀ σx' σm', R (n + 1) σx' σm' → sw_U V adX adM b [some (.ref b), some (.ref (adX 1)), some (.ref (adM 1)), some (.int x3)] [] 775 σx' σm') : sw_U V adX adM b [some (.ref b), some (.ref (adX 1)), some (.ref (adM 1)), some (.int x3)] [] 366 σx σm := by
  obtain ⟨hI, -⟩ := C.2.2.2.2.2.2.2.2
  obtain ⟨r, x', y', h1, h2, hR2⟩ := hst.2 n 8 σx σm 0 0 0 0 hn (by decide) hR
  refine u_aload_n C dL_366 rfl ?_
  refine u_callX C dL_367 [] [] ml_L_50 rfl (Nat.le_of_ble_eq_true rfl) rfl ⟨by decide, by decide⟩ (m_X6_play V.1.2.1 _ _ _ _ hI.1 σx  (r, x') h1) rfl ?_
  refine u_aload_n C dL_370 rfl ?_
  refine u_callM C dL_371 [] [.int r] ml_L_53 rfl (Nat.le_of_ble_eq_true rfl) rfl ⟨by decide, by decide⟩ (m_X7_play V.1.2.1 _ _ _ _ hI.2 σm  (r, y') h2) rfl ?_
  refine u_eqT C dL_374 775 (by decide) ?_
  exact hnext x' y' hR2
set_option maxHeartbeats 1000000 in
set_option maxRecDepth 100000 in
theorem law_c9 {V : sw_V} {adX adM : Nat → Nat} {b Ln : Nat} {xs : Nat → Int32} {R : Nat → sw_St → sw_St → Prop} (C : sw_Ux V adX adM b Ln xs) (hst : sw_Step R) (n : Nat) (hn : n < 512) (x3 : Int32) (hin : ∀ k : Int32, (k = 0 ∨ k = 1 ∨ k = 2 ∨ k = 3 ∨ k = 4) → vp_in (x3 + k) Ln) (σx σm : sw_St) (hR : R n σx σm) (hnext : ∀ σx' σm', R (n + 1) σx' σm' → sw_U V adX adM b [some (.ref b), some (.ref (adX 1)), some (.ref (adM 1)), some (.int x3)] [] 775 σx' σm') : sw_U V adX adM b [some (.ref b), some (.ref (adX 1)), some (.ref (adM 1)), some (.int x3)] [] 379 σx σm := by
  obtain ⟨hI, -⟩ := C.2.2.2.2.2.2.2.2
  obtain ⟨r, x', y', h1, h2, hR2⟩ := hst.2 n 9 σx σm (xs (x3 + 1).toNatClampNeg) 0 0 0 hn (by decide) hR
  obtain ⟨h1, e1⟩ := sw_mapS h1
  rw [e1] at hR2
  obtain ⟨h2, e2⟩ := sw_mapS h2
  rw [e2] at hR2
  refine u_aload_n C dL_379 rfl ?_
  refine u_aload_n C dL_380 rfl ?_
  refine u_iload_n C dL_381 rfl ?_
  refine u_iconst C dL_382 1 (by decide) ?_
  refine u_iadd C dL_383 ?_
  refine u_sld C dL_384 (hin 1 (by decide)) ?_
  refine u_callX C dL_385 [.int (xs (x3 + 1).toNatClampNeg)] [] ml_L_54 rfl (Nat.le_of_ble_eq_true rfl) rfl ⟨by decide, by decide⟩ (m_X6_order V.1.2.1 _ _ _ _ hI.1 σx (xs (x3 + 1).toNatClampNeg) r h1) rfl ?_
  refine u_aload_n C dL_388 rfl ?_
  refine u_aload_n C dL_389 rfl ?_
  refine u_iload_n C dL_390 rfl ?_
  refine u_iconst C dL_391 1 (by decide) ?_
  refine u_iadd C dL_392 ?_
  refine u_sld C dL_393 (hin 1 (by decide)) ?_
  refine u_callM C dL_394 [.int (xs (x3 + 1).toNatClampNeg)] [.int r] ml_L_57 rfl (Nat.le_of_ble_eq_true rfl) rfl ⟨by decide, by decide⟩ (m_X7_order V.1.2.1 _ _ _ _ hI.2 σm (xs (x3 + 1).toNatClampNeg) r h2) rfl ?_
  refine u_eqT C dL_397 775 (by decide) ?_
  exact hnext σx σm hR2
set_option maxHeartbeats 1000000 in
set_option maxRecDepth 100000 in
theorem law_c10 {V : sw_V} {adX adM : Nat → Nat} {b Ln : Nat} {xs : Nat → Int32} {R : Nat → sw_St → sw_St → Prop} (C : sw_Ux V adX adM b Ln xs) (hst : sw_Step R) (n : Nat) (hn : n < 512) (x3 : Int32) (hin : ∀ k : Int32, (k = 0 ∨ k = 1 ∨ k = 2 ∨ k = 3 ∨ k = 4) → vp_in (x3 + k) Ln) (σx σm : sw_St) (hR : R n σx σm) (hnext : ∀ σx' σm', R (n + 1) σx' σm' → sw_U V adX adM b [some (.ref b), some (.ref (adX 1)), some (.ref (adM 1)), some (.int x3)] [] 775 σx' σm') : sw_U V adX adM b [some (.ref b), some (.ref (adX 1)), some (.ref (adM 1)), some (.int x3)] [] 402 σx σm := by
  obtain ⟨hI, -⟩ := C.2.2.2.2.2.2.2.2
  obtain ⟨r, x', y', h1, h2, hR2⟩ := hst.2 n 10 σx σm (xs (x3 + 1).toNatClampNeg) (xs (x3 + 2).toNatClampNeg) (xs (x3 + 3).toNatClampNeg) 0 hn (by decide) hR
  obtain ⟨h1, e1⟩ := sw_mapS h1
  rw [e1] at hR2
  obtain ⟨h2, e2⟩ := sw_mapS h2
  rw [e2] at hR2
  refine u_aload_n C dL_402 rfl ?_
  refine u_aload_n C dL_403 rfl ?_
  refine u_iload_n C dL_404 rfl ?_
  refine u_iconst C dL_405 1 (by decide) ?_
  refine u_iadd C dL_406 ?_
  refine u_sld C dL_407 (hin 1 (by decide)) ?_
  refine u_aload_n C dL_408 rfl ?_
  refine u_iload_n C dL_409 rfl ?_
  refine u_iconst C dL_410 2 (by decide) ?_
  refine u_iadd C dL_411 ?_
  refine u_sld C dL_412 (hin 2 (by decide)) ?_
  refine u_aload_n C dL_413 rfl ?_
  refine u_iload_n C dL_414 rfl ?_
  refine u_iconst C dL_415 3 (by decide) ?_
  refine u_iadd C dL_416 ?_
  refine u_sld C dL_417 (hin 3 (by decide)) ?_
  refine u_callX C dL_418 [.int (xs (x3 + 1).toNatClampNeg), .int (xs (x3 + 2).toNatClampNeg), .int (xs (x3 + 3).toNatClampNeg)] [] ml_L_58 rfl (Nat.le_of_ble_eq_true rfl) rfl ⟨by decide, by decide⟩ (m_X6_told V.1.2.1 _ _ _ _ hI.1 σx (xs (x3 + 1).toNatClampNeg) (xs (x3 + 2).toNatClampNeg) (xs (x3 + 3).toNatClampNeg) r h1) rfl ?_
  refine u_aload_n C dL_421 rfl ?_
  refine u_aload_n C dL_422 rfl ?_
  refine u_iload_n C dL_423 rfl ?_
  refine u_iconst C dL_424 1 (by decide) ?_
  refine u_iadd C dL_425 ?_
  refine u_sld C dL_426 (hin 1 (by decide)) ?_
  refine u_aload_n C dL_427 rfl ?_
  refine u_iload_n C dL_428 rfl ?_
  refine u_iconst C dL_429 2 (by decide) ?_
  refine u_iadd C dL_430 ?_
  refine u_sld C dL_431 (hin 2 (by decide)) ?_
  refine u_aload_n C dL_432 rfl ?_
  refine u_iload_n C dL_433 rfl ?_
  refine u_iconst C dL_434 3 (by decide) ?_
  refine u_iadd C dL_435 ?_
  refine u_sld C dL_436 (hin 3 (by decide)) ?_
  refine u_callM C dL_437 [.int (xs (x3 + 1).toNatClampNeg), .int (xs (x3 + 2).toNatClampNeg), .int (xs (x3 + 3).toNatClampNeg)] [.int r] ml_L_61 rfl (Nat.le_of_ble_eq_true rfl) rfl ⟨by decide, by decide⟩ (m_X7_told V.1.2.1 _ _ _ _ hI.2 σm (xs (x3 + 1).toNatClampNeg) (xs (x3 + 2).toNatClampNeg) (xs (x3 + 3).toNatClampNeg) r h2) rfl ?_
  refine u_eqT C dL_440 775 (by decide) ?_
  exact hnext σx σm hR2
set_option maxHeartbeats 1000000 in
set_option maxRecDepth 100000 in
theorem law_c11 {V : sw_V} {adX adM : Nat → Nat} {b Ln : Nat} {xs : Nat → Int32} {R : Nat → sw_St → sw_St → Prop} (C : sw_Ux V adX adM b Ln xs) (hst : sw_Step R) (n : Nat) (hn : n < 512) (x3 : Int32) (hin : ∀ k : Int32, (k = 0 ∨ k = 1 ∨ k = 2 ∨ k = 3 ∨ k = 4) → vp_in (x3 + k) Ln) (σx σm : sw_St) (hR : R n σx σm) (hnext : ∀ σx' σm', R (n + 1) σx' σm' → sw_U V adX adM b [some (.ref b), some (.ref (adX 1)), some (.ref (adM 1)), some (.int x3)] [] 775 σx' σm') : sw_U V adX adM b [some (.ref b), some (.ref (adX 1)), some (.ref (adM 1)), some (.int x3)] [] 445 σx σm := by
  obtain ⟨hI, -⟩ := C.2.2.2.2.2.2.2.2
  obtain ⟨r, x', y', h1, h2, hR2⟩ := hst.2 n 11 σx σm (xs (x3 + 1).toNatClampNeg) (xs (x3 + 2).toNatClampNeg) (xs (x3 + 3).toNatClampNeg) 0 hn (by decide) hR
  obtain ⟨h1, e1⟩ := sw_mapS h1
  rw [e1] at hR2
  obtain ⟨h2, e2⟩ := sw_mapS h2
  rw [e2] at hR2
  refine u_aload_n C dL_445 rfl ?_
  refine u_aload_n C dL_446 rfl ?_
  refine u_iload_n C dL_447 rfl ?_
  refine u_iconst C dL_448 1 (by decide) ?_
  refine u_iadd C dL_449 ?_
  refine u_sld C dL_450 (hin 1 (by decide)) ?_
  refine u_aload_n C dL_451 rfl ?_
  refine u_iload_n C dL_452 rfl ?_
  refine u_iconst C dL_453 2 (by decide) ?_
  refine u_iadd C dL_454 ?_
  refine u_sld C dL_455 (hin 2 (by decide)) ?_
  refine u_aload_n C dL_456 rfl ?_
  refine u_iload_n C dL_457 rfl ?_
  refine u_iconst C dL_458 3 (by decide) ?_
  refine u_iadd C dL_459 ?_
  refine u_sld C dL_460 (hin 3 (by decide)) ?_
  refine u_callX C dL_461 [.int (xs (x3 + 1).toNatClampNeg), .int (xs (x3 + 2).toNatClampNeg), .int (xs (x3 + 3).toNatClampNeg)] [] ml_L_62 rfl (Nat.le_of_ble_eq_true rfl) rfl ⟨by decide, by decide⟩ (m_X6_word V.1.2.1 _ _ _ _ hI.1 σx (xs (x3 + 1).toNatClampNeg) (xs (x3 + 2).toNatClampNeg) (xs (x3 + 3).toNatClampNeg) r h1) rfl ?_
  refine u_aload_n C dL_464 rfl ?_
  refine u_aload_n C dL_465 rfl ?_
  refine u_iload_n C dL_466 rfl ?_
  refine u_iconst C dL_467 1 (by decide) ?_
  refine u_iadd C dL_468 ?_
  refine u_sld C dL_469 (hin 1 (by decide)) ?_
  refine u_aload_n C dL_470 rfl ?_
  refine u_iload_n C dL_471 rfl ?_
  refine u_iconst C dL_472 2 (by decide) ?_
  refine u_iadd C dL_473 ?_
  refine u_sld C dL_474 (hin 2 (by decide)) ?_
  refine u_aload_n C dL_475 rfl ?_
  refine u_iload_n C dL_476 rfl ?_
  refine u_iconst C dL_477 3 (by decide) ?_
  refine u_iadd C dL_478 ?_
  refine u_sld C dL_479 (hin 3 (by decide)) ?_
  refine u_callM C dL_480 [.int (xs (x3 + 1).toNatClampNeg), .int (xs (x3 + 2).toNatClampNeg), .int (xs (x3 + 3).toNatClampNeg)] [.int r] ml_L_65 rfl (Nat.le_of_ble_eq_true rfl) rfl ⟨by decide, by decide⟩ (m_X7_word_ V.1.2.1 _ _ _ _ hI.2 σm (xs (x3 + 1).toNatClampNeg) (xs (x3 + 2).toNatClampNeg) (xs (x3 + 3).toNatClampNeg) r h2) rfl ?_
  refine u_eqT C dL_483 775 (by decide) ?_
  exact hnext σx σm hR2
set_option maxHeartbeats 1000000 in
set_option maxRecDepth 100000 in
theorem law_c12 {V : sw_V} {adX adM : Nat → Nat} {b Ln : Nat} {xs : Nat → Int32} {R : Nat → sw_St → sw_St → Prop} (C : sw_Ux V adX adM b Ln xs) (hst : sw_Step R) (n : Nat) (hn : n < 512) (x3 : Int32) (hin : ∀ k : Int32, (k = 0 ∨ k = 1 ∨ k = 2 ∨ k = 3 ∨ k = 4) → vp_in (x3 + k) Ln) (σx σm : sw_St) (hR : R n σx σm) (hnext : ∀ σx' σm', R (n + 1) σx' σm' → sw_U V adX adM b [some (.ref b), some (.ref (adX 1)), some (.ref (adM 1)), some (.int x3)] [] 775 σx' σm') : sw_U V adX adM b [some (.ref b), some (.ref (adX 1)), some (.ref (adM 1)), some (.int x3)] [] 488 σx σm := by
  obtain ⟨hI, -⟩ := C.2.2.2.2.2.2.2.2
  obtain ⟨r, x', y', h1, h2, hR2⟩ := hst.2 n 12 σx σm (xs (x3 + 1).toNatClampNeg) (xs (x3 + 2).toNatClampNeg) (xs (x3 + 3).toNatClampNeg) 0 hn (by decide) hR
  obtain ⟨h1, e1⟩ := sw_mapS h1
  rw [e1] at hR2
  obtain ⟨h2, e2⟩ := sw_mapS h2
  rw [e2] at hR2
  refine u_aload_n C dL_488 rfl ?_
  refine u_aload_n C dL_489 rfl ?_
  refine u_iload_n C dL_490 rfl ?_
  refine u_iconst C dL_491 1 (by decide) ?_
  refine u_iadd C dL_492 ?_
  refine u_sld C dL_493 (hin 1 (by decide)) ?_
  refine u_aload_n C dL_494 rfl ?_
  refine u_iload_n C dL_495 rfl ?_
  refine u_iconst C dL_496 2 (by decide) ?_
  refine u_iadd C dL_497 ?_
  refine u_sld C dL_498 (hin 2 (by decide)) ?_
  refine u_aload_n C dL_499 rfl ?_
  refine u_iload_n C dL_500 rfl ?_
  refine u_iconst C dL_501 3 (by decide) ?_
  refine u_iadd C dL_502 ?_
  refine u_sld C dL_503 (hin 3 (by decide)) ?_
  refine u_callX C dL_504 [.int (xs (x3 + 1).toNatClampNeg), .int (xs (x3 + 2).toNatClampNeg), .int (xs (x3 + 3).toNatClampNeg)] [] ml_L_66 rfl (Nat.le_of_ble_eq_true rfl) rfl ⟨by decide, by decide⟩ (m_X6_cached V.1.2.1 _ _ _ _ hI.1 σx (xs (x3 + 1).toNatClampNeg) (xs (x3 + 2).toNatClampNeg) (xs (x3 + 3).toNatClampNeg) r h1) rfl ?_
  refine u_aload_n C dL_507 rfl ?_
  refine u_aload_n C dL_508 rfl ?_
  refine u_iload_n C dL_509 rfl ?_
  refine u_iconst C dL_510 1 (by decide) ?_
  refine u_iadd C dL_511 ?_
  refine u_sld C dL_512 (hin 1 (by decide)) ?_
  refine u_aload_n C dL_513 rfl ?_
  refine u_iload_n C dL_514 rfl ?_
  refine u_iconst C dL_515 2 (by decide) ?_
  refine u_iadd C dL_516 ?_
  refine u_sld C dL_517 (hin 2 (by decide)) ?_
  refine u_aload_n C dL_518 rfl ?_
  refine u_iload_n C dL_519 rfl ?_
  refine u_iconst C dL_520 3 (by decide) ?_
  refine u_iadd C dL_521 ?_
  refine u_sld C dL_522 (hin 3 (by decide)) ?_
  refine u_callM C dL_523 [.int (xs (x3 + 1).toNatClampNeg), .int (xs (x3 + 2).toNatClampNeg), .int (xs (x3 + 3).toNatClampNeg)] [.int r] ml_L_69 rfl (Nat.le_of_ble_eq_true rfl) rfl ⟨by decide, by decide⟩ (m_X7_cached V.1.2.1 _ _ _ _ hI.2 σm (xs (x3 + 1).toNatClampNeg) (xs (x3 + 2).toNatClampNeg) (xs (x3 + 3).toNatClampNeg) r h2) rfl ?_
  refine u_eqT C dL_526 775 (by decide) ?_
  exact hnext σx σm hR2
set_option maxHeartbeats 1000000 in
set_option maxRecDepth 100000 in
theorem law_c13 {V : sw_V} {adX adM : Nat → Nat} {b Ln : Nat} {xs : Nat → Int32} {R : Nat → sw_St → sw_St → Prop} (C : sw_Ux V adX adM b Ln xs) (hst : sw_Step R) (n : Nat) (hn : n < 512) (x3 : Int32) (hin : ∀ k : Int32, (k = 0 ∨ k = 1 ∨ k = 2 ∨ k = 3 ∨ k = 4) → vp_in (x3 + k) Ln) (σx σm : sw_St) (hR : R n σx σm) (hnext : ∀ σx' σm', R (n + 1) σx' σm' → sw_U V adX adM b [some (.ref b), some (.ref (adX 1)), some (.ref (adM 1)), some (.int x3)] [] 775 σx' σm') : sw_U V adX adM b [some (.ref b), some (.ref (adX 1)), some (.ref (adM 1)), some (.int x3)] [] 531 σx σm := by
  obtain ⟨hI, -⟩ := C.2.2.2.2.2.2.2.2
  obtain ⟨r, x', y', h1, h2, hR2⟩ := hst.2 n 13 σx σm (xs (x3 + 1).toNatClampNeg) (xs (x3 + 2).toNatClampNeg) (xs (x3 + 3).toNatClampNeg) 0 hn (by decide) hR
  obtain ⟨h1, e1⟩ := sw_mapS h1
  rw [e1] at hR2
  obtain ⟨h2, e2⟩ := sw_mapS h2
  rw [e2] at hR2
  refine u_aload_n C dL_531 rfl ?_
  refine u_aload_n C dL_532 rfl ?_
  refine u_iload_n C dL_533 rfl ?_
  refine u_iconst C dL_534 1 (by decide) ?_
  refine u_iadd C dL_535 ?_
  refine u_sld C dL_536 (hin 1 (by decide)) ?_
  refine u_aload_n C dL_537 rfl ?_
  refine u_iload_n C dL_538 rfl ?_
  refine u_iconst C dL_539 2 (by decide) ?_
  refine u_iadd C dL_540 ?_
  refine u_sld C dL_541 (hin 2 (by decide)) ?_
  refine u_aload_n C dL_542 rfl ?_
  refine u_iload_n C dL_543 rfl ?_
  refine u_iconst C dL_544 3 (by decide) ?_
  refine u_iadd C dL_545 ?_
  refine u_sld C dL_546 (hin 3 (by decide)) ?_
  refine u_callX C dL_547 [.int (xs (x3 + 1).toNatClampNeg), .int (xs (x3 + 2).toNatClampNeg), .int (xs (x3 + 3).toNatClampNeg)] [] ml_L_70 rfl (Nat.le_of_ble_eq_true rfl) rfl ⟨by decide, by decide⟩ (m_X6_buffered V.1.2.1 _ _ _ _ hI.1 σx (xs (x3 + 1).toNatClampNeg) (xs (x3 + 2).toNatClampNeg) (xs (x3 + 3).toNatClampNeg) r h1) rfl ?_
  refine u_aload_n C dL_550 rfl ?_
  refine u_aload_n C dL_551 rfl ?_
  refine u_iload_n C dL_552 rfl ?_
  refine u_iconst C dL_553 1 (by decide) ?_
  refine u_iadd C dL_554 ?_
  refine u_sld C dL_555 (hin 1 (by decide)) ?_
  refine u_aload_n C dL_556 rfl ?_
  refine u_iload_n C dL_557 rfl ?_
  refine u_iconst C dL_558 2 (by decide) ?_
  refine u_iadd C dL_559 ?_
  refine u_sld C dL_560 (hin 2 (by decide)) ?_
  refine u_aload_n C dL_561 rfl ?_
  refine u_iload_n C dL_562 rfl ?_
  refine u_iconst C dL_563 3 (by decide) ?_
  refine u_iadd C dL_564 ?_
  refine u_sld C dL_565 (hin 3 (by decide)) ?_
  refine u_callM C dL_566 [.int (xs (x3 + 1).toNatClampNeg), .int (xs (x3 + 2).toNatClampNeg), .int (xs (x3 + 3).toNatClampNeg)] [.int r] ml_L_73 rfl (Nat.le_of_ble_eq_true rfl) rfl ⟨by decide, by decide⟩ (m_X7_buffered V.1.2.1 _ _ _ _ hI.2 σm (xs (x3 + 1).toNatClampNeg) (xs (x3 + 2).toNatClampNeg) (xs (x3 + 3).toNatClampNeg) r h2) rfl ?_
  refine u_eqT C dL_569 775 (by decide) ?_
  exact hnext σx σm hR2
set_option maxHeartbeats 1000000 in
set_option maxRecDepth 100000 in
theorem law_c14 {V : sw_V} {adX adM : Nat → Nat} {b Ln : Nat} {xs : Nat → Int32} {R : Nat → sw_St → sw_St → Prop} (C : sw_Ux V adX adM b Ln xs) (hst : sw_Step R) (n : Nat) (hn : n < 512) (x3 : Int32) (hin : ∀ k : Int32, (k = 0 ∨ k = 1 ∨ k = 2 ∨ k = 3 ∨ k = 4) → vp_in (x3 + k) Ln) (σx σm : sw_St) (hR : R n σx σm) (hnext : ∀ σx' σm', R (n + 1) σx' σm' → sw_U V adX adM b [some (.ref b), some (.ref (adX 1)), some (.ref (adM 1)), some (.int x3)] [] 775 σx' σm') : sw_U V adX adM b [some (.ref b), some (.ref (adX 1)), some (.ref (adM 1)), some (.int x3)] [] 574 σx σm := by
  obtain ⟨hI, -⟩ := C.2.2.2.2.2.2.2.2
  obtain ⟨r, x', y', h1, h2, hR2⟩ := hst.2 n 14 σx σm (xs (x3 + 1).toNatClampNeg) 0 0 0 hn (by decide) hR
  obtain ⟨h1, e1⟩ := sw_mapS h1
  rw [e1] at hR2
  obtain ⟨h2, e2⟩ := sw_mapS h2
  rw [e2] at hR2
  refine u_aload_n C dL_574 rfl ?_
  refine u_aload_n C dL_575 rfl ?_
  refine u_iload_n C dL_576 rfl ?_
  refine u_iconst C dL_577 1 (by decide) ?_
  refine u_iadd C dL_578 ?_
  refine u_sld C dL_579 (hin 1 (by decide)) ?_
  refine u_callX C dL_580 [.int (xs (x3 + 1).toNatClampNeg)] [] ml_L_74 rfl (Nat.le_of_ble_eq_true rfl) rfl ⟨by decide, by decide⟩ (m_X6_memory V.1.2.1 _ _ _ _ hI.1 σx (xs (x3 + 1).toNatClampNeg) r h1) rfl ?_
  refine u_aload_n C dL_583 rfl ?_
  refine u_aload_n C dL_584 rfl ?_
  refine u_iload_n C dL_585 rfl ?_
  refine u_iconst C dL_586 1 (by decide) ?_
  refine u_iadd C dL_587 ?_
  refine u_sld C dL_588 (hin 1 (by decide)) ?_
  refine u_callM C dL_589 [.int (xs (x3 + 1).toNatClampNeg)] [.int r] ml_L_77 rfl (Nat.le_of_ble_eq_true rfl) rfl ⟨by decide, by decide⟩ (m_X7_memory V.1.2.1 _ _ _ _ hI.2 σm (xs (x3 + 1).toNatClampNeg) r h2) rfl ?_
  refine u_eqT C dL_592 775 (by decide) ?_
  exact hnext σx σm hR2
set_option maxHeartbeats 1000000 in
set_option maxRecDepth 100000 in
theorem law_c15 {V : sw_V} {adX adM : Nat → Nat} {b Ln : Nat} {xs : Nat → Int32} {R : Nat → sw_St → sw_St → Prop} (C : sw_Ux V adX adM b Ln xs) (hst : sw_Step R) (n : Nat) (hn : n < 512) (x3 : Int32) (hin : ∀ k : Int32, (k = 0 ∨ k = 1 ∨ k = 2 ∨ k = 3 ∨ k = 4) → vp_in (x3 + k) Ln) (σx σm : sw_St) (hR : R n σx σm) (hnext : ∀ σx' σm', R (n + 1) σx' σm' → sw_U V adX adM b [some (.ref b), some (.ref (adX 1)), some (.ref (adM 1)), some (.int x3)] [] 775 σx' σm') : sw_U V adX adM b [some (.ref b), some (.ref (adX 1)), some (.ref (adM 1)), some (.int x3)] [] 597 σx σm := by
  obtain ⟨hI, -⟩ := C.2.2.2.2.2.2.2.2
  obtain ⟨r, x', y', h1, h2, hR2⟩ := hst.2 n 15 σx σm (xs (x3 + 1).toNatClampNeg) 0 0 0 hn (by decide) hR
  obtain ⟨h1, e1⟩ := sw_mapS h1
  rw [e1] at hR2
  obtain ⟨h2, e2⟩ := sw_mapS h2
  rw [e2] at hR2
  refine u_aload_n C dL_597 rfl ?_
  refine u_aload_n C dL_598 rfl ?_
  refine u_iload_n C dL_599 rfl ?_
  refine u_iconst C dL_600 1 (by decide) ?_
  refine u_iadd C dL_601 ?_
  refine u_sld C dL_602 (hin 1 (by decide)) ?_
  refine u_callX C dL_603 [.int (xs (x3 + 1).toNatClampNeg)] [] ml_L_78 rfl (Nat.le_of_ble_eq_true rfl) rfl ⟨by decide, by decide⟩ (m_X6_truth V.1.2.1 _ _ _ _ hI.1 σx (xs (x3 + 1).toNatClampNeg) r h1) rfl ?_
  refine u_aload_n C dL_606 rfl ?_
  refine u_aload_n C dL_607 rfl ?_
  refine u_iload_n C dL_608 rfl ?_
  refine u_iconst C dL_609 1 (by decide) ?_
  refine u_iadd C dL_610 ?_
  refine u_sld C dL_611 (hin 1 (by decide)) ?_
  refine u_callM C dL_612 [.int (xs (x3 + 1).toNatClampNeg)] [.int r] ml_L_81 rfl (Nat.le_of_ble_eq_true rfl) rfl ⟨by decide, by decide⟩ (m_X7_truth V.1.2.1 _ _ _ _ hI.2 σm (xs (x3 + 1).toNatClampNeg) r h2) rfl ?_
  refine u_eqT C dL_615 775 (by decide) ?_
  exact hnext σx σm hR2
set_option maxHeartbeats 1000000 in
set_option maxRecDepth 100000 in
theorem law_c16 {V : sw_V} {adX adM : Nat → Nat} {b Ln : Nat} {xs : Nat → Int32} {R : Nat → sw_St → sw_St → Prop} (C : sw_Ux V adX adM b Ln xs) (hst : sw_Step R) (n : Nat) (hn : n < 512) (x3 : Int32) (hin : ∀ k : Int32, (k = 0 ∨ k = 1 ∨ k = 2 ∨ k = 3 ∨ k = 4) → vp_in (x3 + k) Ln) (σx σm : sw_St) (hR : R n σx σm) (hnext : ∀ σx' σm', R (n + 1) σx' σm' → sw_U V adX adM b [some (.ref b), some (.ref (adX 1)), some (.ref (adM 1)), some (.int x3)] [] 775 σx' σm') : sw_U V adX adM b [some (.ref b), some (.ref (adX 1)), some (.ref (adM 1)), some (.int x3)] [] 620 σx σm := by
  obtain ⟨hI, -⟩ := C.2.2.2.2.2.2.2.2
  obtain ⟨r, x', y', h1, h2, hR2⟩ := hst.2 n 16 σx σm (xs (x3 + 1).toNatClampNeg) (xs (x3 + 2).toNatClampNeg) 0 0 hn (by decide) hR
  obtain ⟨h1, e1⟩ := sw_mapS h1
  rw [e1] at hR2
  obtain ⟨h2, e2⟩ := sw_mapS h2
  rw [e2] at hR2
  refine u_aload_n C dL_620 rfl ?_
  refine u_aload_n C dL_621 rfl ?_
  refine u_iload_n C dL_622 rfl ?_
  refine u_iconst C dL_623 1 (by decide) ?_
  refine u_iadd C dL_624 ?_
  refine u_sld C dL_625 (hin 1 (by decide)) ?_
  refine u_aload_n C dL_626 rfl ?_
  refine u_iload_n C dL_627 rfl ?_
  refine u_iconst C dL_628 2 (by decide) ?_
  refine u_iadd C dL_629 ?_
  refine u_sld C dL_630 (hin 2 (by decide)) ?_
  refine u_callX C dL_631 [.int (xs (x3 + 1).toNatClampNeg), .int (xs (x3 + 2).toNatClampNeg)] [] ml_L_82 rfl (Nat.le_of_ble_eq_true rfl) rfl ⟨by decide, by decide⟩ (m_X6_core V.1.2.1 _ _ _ _ hI.1 σx (xs (x3 + 1).toNatClampNeg) (xs (x3 + 2).toNatClampNeg) r h1) rfl ?_
  refine u_aload_n C dL_634 rfl ?_
  refine u_aload_n C dL_635 rfl ?_
  refine u_iload_n C dL_636 rfl ?_
  refine u_iconst C dL_637 1 (by decide) ?_
  refine u_iadd C dL_638 ?_
  refine u_sld C dL_639 (hin 1 (by decide)) ?_
  refine u_aload_n C dL_640 rfl ?_
  refine u_iload_n C dL_641 rfl ?_
  refine u_iconst C dL_642 2 (by decide) ?_
  refine u_iadd C dL_643 ?_
  refine u_sld C dL_644 (hin 2 (by decide)) ?_
  refine u_callM C dL_645 [.int (xs (x3 + 1).toNatClampNeg), .int (xs (x3 + 2).toNatClampNeg)] [.int r] ml_L_85 rfl (Nat.le_of_ble_eq_true rfl) rfl ⟨by decide, by decide⟩ (m_X7_core V.1.2.1 _ _ _ _ hI.2 σm (xs (x3 + 1).toNatClampNeg) (xs (x3 + 2).toNatClampNeg) r h2) rfl ?_
  refine u_eqT C dL_648 775 (by decide) ?_
  exact hnext σx σm hR2
set_option maxHeartbeats 1000000 in
set_option maxRecDepth 100000 in
theorem law_c17 {V : sw_V} {adX adM : Nat → Nat} {b Ln : Nat} {xs : Nat → Int32} {R : Nat → sw_St → sw_St → Prop} (C : sw_Ux V adX adM b Ln xs) (hst : sw_Step R) (n : Nat) (hn : n < 512) (x3 : Int32) (hin : ∀ k : Int32, (k = 0 ∨ k = 1 ∨ k = 2 ∨ k = 3 ∨ k = 4) → vp_in (x3 + k) Ln) (σx σm : sw_St) (hR : R n σx σm) (hnext : ∀ σx' σm', R (n + 1) σx' σm' → sw_U V adX adM b [some (.ref b), some (.ref (adX 1)), some (.ref (adM 1)), some (.int x3)] [] 775 σx' σm') : sw_U V adX adM b [some (.ref b), some (.ref (adX 1)), some (.ref (adM 1)), some (.int x3)] [] 653 σx σm := by
  obtain ⟨hI, -⟩ := C.2.2.2.2.2.2.2.2
  obtain ⟨r, x', y', h1, h2, hR2⟩ := hst.2 n 17 σx σm (xs (x3 + 1).toNatClampNeg) (xs (x3 + 2).toNatClampNeg) 0 0 hn (by decide) hR
  obtain ⟨h1, e1⟩ := sw_mapS h1
  rw [e1] at hR2
  obtain ⟨h2, e2⟩ := sw_mapS h2
  rw [e2] at hR2
  refine u_aload_n C dL_653 rfl ?_
  refine u_aload_n C dL_654 rfl ?_
  refine u_iload_n C dL_655 rfl ?_
  refine u_iconst C dL_656 1 (by decide) ?_
  refine u_iadd C dL_657 ?_
  refine u_sld C dL_658 (hin 1 (by decide)) ?_
  refine u_aload_n C dL_659 rfl ?_
  refine u_iload_n C dL_660 rfl ?_
  refine u_iconst C dL_661 2 (by decide) ?_
  refine u_iadd C dL_662 ?_
  refine u_sld C dL_663 (hin 2 (by decide)) ?_
  refine u_callX C dL_664 [.int (xs (x3 + 1).toNatClampNeg), .int (xs (x3 + 2).toNatClampNeg)] [] ml_L_86 rfl (Nat.le_of_ble_eq_true rfl) rfl ⟨by decide, by decide⟩ (m_X6_waiting V.1.2.1 _ _ _ _ hI.1 σx (xs (x3 + 1).toNatClampNeg) (xs (x3 + 2).toNatClampNeg) r h1) rfl ?_
  refine u_aload_n C dL_667 rfl ?_
  refine u_aload_n C dL_668 rfl ?_
  refine u_iload_n C dL_669 rfl ?_
  refine u_iconst C dL_670 1 (by decide) ?_
  refine u_iadd C dL_671 ?_
  refine u_sld C dL_672 (hin 1 (by decide)) ?_
  refine u_aload_n C dL_673 rfl ?_
  refine u_iload_n C dL_674 rfl ?_
  refine u_iconst C dL_675 2 (by decide) ?_
  refine u_iadd C dL_676 ?_
  refine u_sld C dL_677 (hin 2 (by decide)) ?_
  refine u_callM C dL_678 [.int (xs (x3 + 1).toNatClampNeg), .int (xs (x3 + 2).toNatClampNeg)] [.int r] ml_L_89 rfl (Nat.le_of_ble_eq_true rfl) rfl ⟨by decide, by decide⟩ (m_X7_waiting V.1.2.1 _ _ _ _ hI.2 σm (xs (x3 + 1).toNatClampNeg) (xs (x3 + 2).toNatClampNeg) r h2) rfl ?_
  refine u_eqT C dL_681 775 (by decide) ?_
  exact hnext σx σm hR2
set_option maxHeartbeats 1000000 in
set_option maxRecDepth 100000 in
theorem law_c18 {V : sw_V} {adX adM : Nat → Nat} {b Ln : Nat} {xs : Nat → Int32} {R : Nat → sw_St → sw_St → Prop} (C : sw_Ux V adX adM b Ln xs) (hst : sw_Step R) (n : Nat) (hn : n < 512) (x3 : Int32) (hin : ∀ k : Int32, (k = 0 ∨ k = 1 ∨ k = 2 ∨ k = 3 ∨ k = 4) → vp_in (x3 + k) Ln) (σx σm : sw_St) (hR : R n σx σm) (hnext : ∀ σx' σm', R (n + 1) σx' σm' → sw_U V adX adM b [some (.ref b), some (.ref (adX 1)), some (.ref (adM 1)), some (.int x3)] [] 775 σx' σm') : sw_U V adX adM b [some (.ref b), some (.ref (adX 1)), some (.ref (adM 1)), some (.int x3)] [] 686 σx σm := by
  obtain ⟨hI, -⟩ := C.2.2.2.2.2.2.2.2
  obtain ⟨r, x', y', h1, h2, hR2⟩ := hst.2 n 18 σx σm (xs (x3 + 1).toNatClampNeg) (xs (x3 + 2).toNatClampNeg) 0 0 hn (by decide) hR
  obtain ⟨h1, e1⟩ := sw_mapS h1
  rw [e1] at hR2
  obtain ⟨h2, e2⟩ := sw_mapS h2
  rw [e2] at hR2
  refine u_aload_n C dL_686 rfl ?_
  refine u_aload_n C dL_687 rfl ?_
  refine u_iload_n C dL_688 rfl ?_
  refine u_iconst C dL_689 1 (by decide) ?_
  refine u_iadd C dL_690 ?_
  refine u_sld C dL_691 (hin 1 (by decide)) ?_
  refine u_aload_n C dL_692 rfl ?_
  refine u_iload_n C dL_693 rfl ?_
  refine u_iconst C dL_694 2 (by decide) ?_
  refine u_iadd C dL_695 ?_
  refine u_sld C dL_696 (hin 2 (by decide)) ?_
  refine u_callX C dL_697 [.int (xs (x3 + 1).toNatClampNeg), .int (xs (x3 + 2).toNatClampNeg)] [] ml_L_90 rfl (Nat.le_of_ble_eq_true rfl) rfl ⟨by decide, by decide⟩ (m_X6_open V.1.2.1 _ _ _ _ hI.1 σx (xs (x3 + 1).toNatClampNeg) (xs (x3 + 2).toNatClampNeg) r h1) rfl ?_
  refine u_aload_n C dL_700 rfl ?_
  refine u_aload_n C dL_701 rfl ?_
  refine u_iload_n C dL_702 rfl ?_
  refine u_iconst C dL_703 1 (by decide) ?_
  refine u_iadd C dL_704 ?_
  refine u_sld C dL_705 (hin 1 (by decide)) ?_
  refine u_aload_n C dL_706 rfl ?_
  refine u_iload_n C dL_707 rfl ?_
  refine u_iconst C dL_708 2 (by decide) ?_
  refine u_iadd C dL_709 ?_
  refine u_sld C dL_710 (hin 2 (by decide)) ?_
  refine u_callM C dL_711 [.int (xs (x3 + 1).toNatClampNeg), .int (xs (x3 + 2).toNatClampNeg)] [.int r] ml_L_93 rfl (Nat.le_of_ble_eq_true rfl) rfl ⟨by decide, by decide⟩ (m_X7_open V.1.2.1 _ _ _ _ hI.2 σm (xs (x3 + 1).toNatClampNeg) (xs (x3 + 2).toNatClampNeg) r h2) rfl ?_
  refine u_eqT C dL_714 775 (by decide) ?_
  exact hnext σx σm hR2
set_option maxHeartbeats 1000000 in
set_option maxRecDepth 100000 in
theorem law_c19 {V : sw_V} {adX adM : Nat → Nat} {b Ln : Nat} {xs : Nat → Int32} {R : Nat → sw_St → sw_St → Prop} (C : sw_Ux V adX adM b Ln xs) (hst : sw_Step R) (n : Nat) (hn : n < 512) (x3 : Int32) (hin : ∀ k : Int32, (k = 0 ∨ k = 1 ∨ k = 2 ∨ k = 3 ∨ k = 4) → vp_in (x3 + k) Ln) (σx σm : sw_St) (hR : R n σx σm) (hnext : ∀ σx' σm', R (n + 1) σx' σm' → sw_U V adX adM b [some (.ref b), some (.ref (adX 1)), some (.ref (adM 1)), some (.int x3)] [] 775 σx' σm') : sw_U V adX adM b [some (.ref b), some (.ref (adX 1)), some (.ref (adM 1)), some (.int x3)] [] 719 σx σm := by
  obtain ⟨hI, -⟩ := C.2.2.2.2.2.2.2.2
  obtain ⟨r, x', y', h1, h2, hR2⟩ := hst.2 n 19 σx σm (xs (x3 + 1).toNatClampNeg) (xs (x3 + 2).toNatClampNeg) 0 0 hn (by decide) hR
  refine u_aload_n C dL_719 rfl ?_
  refine u_aload_n C dL_720 rfl ?_
  refine u_iload_n C dL_721 rfl ?_
  refine u_iconst C dL_722 1 (by decide) ?_
  refine u_iadd C dL_723 ?_
  refine u_sld C dL_724 (hin 1 (by decide)) ?_
  refine u_aload_n C dL_725 rfl ?_
  refine u_iload_n C dL_726 rfl ?_
  refine u_iconst C dL_727 2 (by decide) ?_
  refine u_iadd C dL_728 ?_
  refine u_sld C dL_729 (hin 2 (by decide)) ?_
  refine u_callX C dL_730 [.int (xs (x3 + 1).toNatClampNeg), .int (xs (x3 + 2).toNatClampNeg)] [] ml_L_94 rfl (Nat.le_of_ble_eq_true rfl) rfl ⟨by decide, by decide⟩ (m_X6_day V.1.2.1 _ _ _ _ hI.1 σx (xs (x3 + 1).toNatClampNeg) (xs (x3 + 2).toNatClampNeg) (r, x') h1) rfl ?_
  refine u_aload_n C dL_733 rfl ?_
  refine u_aload_n C dL_734 rfl ?_
  refine u_iload_n C dL_735 rfl ?_
  refine u_iconst C dL_736 1 (by decide) ?_
  refine u_iadd C dL_737 ?_
  refine u_sld C dL_738 (hin 1 (by decide)) ?_
  refine u_aload_n C dL_739 rfl ?_
  refine u_iload_n C dL_740 rfl ?_
  refine u_iconst C dL_741 2 (by decide) ?_
  refine u_iadd C dL_742 ?_
  refine u_sld C dL_743 (hin 2 (by decide)) ?_
  refine u_callM C dL_744 [.int (xs (x3 + 1).toNatClampNeg), .int (xs (x3 + 2).toNatClampNeg)] [.int r] ml_L_97 rfl (Nat.le_of_ble_eq_true rfl) rfl ⟨by decide, by decide⟩ (m_X7_day V.1.2.1 _ _ _ _ hI.2 σm (xs (x3 + 1).toNatClampNeg) (xs (x3 + 2).toNatClampNeg) (r, y') h2) rfl ?_
  refine u_eqT C dL_747 775 (by decide) ?_
  exact hnext x' y' hR2
set_option maxHeartbeats 1000000 in
set_option maxRecDepth 100000 in
theorem law_c20 {V : sw_V} {adX adM : Nat → Nat} {b Ln : Nat} {xs : Nat → Int32} {R : Nat → sw_St → sw_St → Prop} (C : sw_Ux V adX adM b Ln xs) (hst : sw_Step R) (n : Nat) (hn : n < 512) (x3 : Int32) (hin : ∀ k : Int32, (k = 0 ∨ k = 1 ∨ k = 2 ∨ k = 3 ∨ k = 4) → vp_in (x3 + k) Ln) (σx σm : sw_St) (hR : R n σx σm) (hnext : ∀ σx' σm', R (n + 1) σx' σm' → sw_U V adX adM b [some (.ref b), some (.ref (adX 1)), some (.ref (adM 1)), some (.int x3)] [] 775 σx' σm') : sw_U V adX adM b [some (.ref b), some (.ref (adX 1)), some (.ref (adM 1)), some (.int x3)] [] 752 σx σm := by
  obtain ⟨hI, -⟩ := C.2.2.2.2.2.2.2.2
  obtain ⟨r, x', y', h1, h2, hR2⟩ := hst.2 n 20 σx σm (xs (x3 + 1).toNatClampNeg) 0 0 0 hn (by decide) hR
  obtain ⟨h1, e1⟩ := sw_mapS h1
  rw [e1] at hR2
  obtain ⟨h2, e2⟩ := sw_mapS h2
  rw [e2] at hR2
  refine u_aload_n C dL_752 rfl ?_
  refine u_aload_n C dL_753 rfl ?_
  refine u_iload_n C dL_754 rfl ?_
  refine u_iconst C dL_755 1 (by decide) ?_
  refine u_iadd C dL_756 ?_
  refine u_sld C dL_757 (hin 1 (by decide)) ?_
  refine u_callX C dL_758 [.int (xs (x3 + 1).toNatClampNeg)] [] ml_L_98 rfl (Nat.le_of_ble_eq_true rfl) rfl ⟨by decide, by decide⟩ (m_X6_count V.1.2.1 _ _ _ _ hI.1 σx (xs (x3 + 1).toNatClampNeg) r h1) rfl ?_
  refine u_aload_n C dL_761 rfl ?_
  refine u_aload_n C dL_762 rfl ?_
  refine u_iload_n C dL_763 rfl ?_
  refine u_iconst C dL_764 1 (by decide) ?_
  refine u_iadd C dL_765 ?_
  refine u_sld C dL_766 (hin 1 (by decide)) ?_
  refine u_callM C dL_767 [.int (xs (x3 + 1).toNatClampNeg)] [.int r] ml_L_101 rfl (Nat.le_of_ble_eq_true rfl) rfl ⟨by decide, by decide⟩ (m_X7_count V.1.2.1 _ _ _ _ hI.2 σm (xs (x3 + 1).toNatClampNeg) r h2) rfl ?_
  refine u_eqT C dL_770 775 (by decide) ?_
  exact hnext σx σm hR2
set_option maxHeartbeats 4000000 in
set_option maxRecDepth 100000 in
theorem law_in {i Ln : Nat} (h : i + 5 ≤ Ln) (hL : Ln ≤ 2560) : ∀ k : Int32, (k = 0 ∨ k = 1 ∨ k = 2 ∨ k = 3 ∨ k = 4) → vp_in (nI i + k) Ln := by
  intro k hk
  have key : ∀ j : Nat, j < 5 → vp_in (nI i + nI j) Ln := by
    intro j hj
    have e : nI i + nI j = nI (i + j) := (Int32.ofNat_add i j).symm
    rw [e]
    exact vp_in_nI (by omega) (by omega)
  rcases hk with rfl | rfl | rfl | rfl | rfl
  · exact key 0 (by decide)
  · exact key 1 (by decide)
  · exact key 2 (by decide)
  · exact key 3 (by decide)
  · exact key 4 (by decide)
set_option maxHeartbeats 4000000 in
set_option maxRecDepth 100000 in
/-- THE LOOP: at its head, with n calls behind -/
theorem law_loop {V : sw_V} {adX adM : Nat → Nat} {b Ln : Nat} {xs : Nat → Int32} {R : Nat → sw_St → sw_St → Prop} (hL : Ln ≤ 2560) (C : sw_Ux V adX adM b Ln xs) (hst : sw_Step R) : ∀ (k n : Nat), n + k = 513 → ∀ (σx σm : sw_St), R n σx σm → sw_U V adX adM b [some (.ref b), some (.ref (adX 1)), some (.ref (adM 1)), some (.int (nI (5 * n)))] [] 18 σx σm := by
  intro k
  induction k with
  | zero =>
    intro n hk σx σm hR
    have hn : n = 513 := by omega
    subst hn
    refine u_iload_n C dL_18 rfl ?_
    refine u_aload_n C dL_19 rfl ?_
    refine u_slen C dL_20 ?_
    refine u_iconst C dL_21 5 (by decide) ?_
    refine u_isub C dL_22 ?_
    refine u_gt C dL_23 781 (by decide) (fun _ => ?_) (fun h => ?_)
    · refine u_iconst C dL_781 1 (by decide) ?_
      exact u_ret C dL_782
    · exfalso
      apply h
      rw [Int32.lt_iff_toInt_lt, Int32.toInt_sub, nI_toInt (by omega), nI_toInt (by omega)]
      have e5 : (5 : Int32).toInt = 5 := by decide
      rw [e5, Int.bmod_eq_of_le (by omega) (by omega)]
      omega
  | succ k ih =>
    intro n hk σx σm hR
    refine u_iload_n C dL_18 rfl ?_
    refine u_aload_n C dL_19 rfl ?_
    refine u_slen C dL_20 ?_
    refine u_iconst C dL_21 5 (by decide) ?_
    refine u_isub C dL_22 ?_
    refine u_gt C dL_23 781 (by decide) (fun _ => ?_) (fun h => ?_)
    · refine u_iconst C dL_781 1 (by decide) ?_
      exact u_ret C dL_782
    · have hlt : 5 * n + 5 ≤ Ln := by
        rcases Nat.lt_or_ge Ln (5 * n + 5) with q | q
        · exfalso
          apply h
          rw [Int32.lt_iff_toInt_lt, Int32.toInt_sub, nI_toInt (by omega), nI_toInt (by omega)]
          have e5 : (5 : Int32).toInt = 5 := by decide
          rw [e5, Int.bmod_eq_of_le (by omega) (by omega)]
          omega
        · exact q
      have hn : n < 512 := by omega
      have hin := law_in hlt hL
      have hnext : ∀ σx' σm', R (n + 1) σx' σm' → sw_U V adX adM b [some (.ref b), some (.ref (adX 1)), some (.ref (adM 1)), some (.int (nI (5 * n)))] [] 775 σx' σm' := by
        intro σx' σm' hR'
        refine u_iinc C dL_775 (nI (5 * (n + 1))) ?_ rfl (Nat.le_of_ble_eq_true rfl) (fun w hw => by cases hw; rfl) ?_
        · show nI (5 * n) + 5 = nI (5 * (n + 1))
          have e : nI (5 * (n + 1)) = nI (5 * n) + nI 5 := Int32.ofNat_add (5 * n) 5
          rw [e]
          rfl
        · refine u_goto C dL_778 18 (by decide) ?_
          exact ih (n + 1) (by omega) σx' σm' hR'
      refine u_aload_n C dL_26 rfl ?_
      refine u_iload_n C dL_27 rfl ?_
      refine u_sld C dL_28 (by have := hin 0 (Or.inl rfl); rw [show nI (5 * n) + (0 : Int32) = nI (5 * n) from Int32.add_zero _] at this; exact this) ?_
      refine u_bipush C dL_29 31 (by decide) ?_
      refine u_iand C dL_31 ?_
      refine u_tin C dL_32 0 132 (by decide) 100 (by decide) (by decide) (law_c0 C hst n hn _ hin σx σm hR hnext) (fun n0 => ?_)
      refine u_tin C dL_32 1 185 (by decide) 153 (by decide) (by decide) (law_c1 C hst n hn _ hin σx σm hR hnext) (fun n1 => ?_)
      refine u_tin C dL_32 2 218 (by decide) 186 (by decide) (by decide) (law_c2 C hst n hn _ hin σx σm hR hnext) (fun n2 => ?_)
      refine u_tin C dL_32 3 261 (by decide) 229 (by decide) (by decide) (law_c3 C hst n hn _ hin σx σm hR hnext) (fun n3 => ?_)
      refine u_tin C dL_32 4 294 (by decide) 262 (by decide) (by decide) (law_c4 C hst n hn _ hin σx σm hR hnext) (fun n4 => ?_)
      refine u_tin C dL_32 5 317 (by decide) 285 (by decide) (by decide) (law_c5 C hst n hn _ hin σx σm hR hnext) (fun n5 => ?_)
      refine u_tin C dL_32 6 340 (by decide) 308 (by decide) (by decide) (law_c6 C hst n hn _ hin σx σm hR hnext) (fun n6 => ?_)
      refine u_tin C dL_32 7 353 (by decide) 321 (by decide) (by decide) (law_c7 C hst n hn _ hin σx σm hR hnext) (fun n7 => ?_)
      refine u_tin C dL_32 8 366 (by decide) 334 (by decide) (by decide) (law_c8 C hst n hn _ hin σx σm hR hnext) (fun n8 => ?_)
      refine u_tin C dL_32 9 379 (by decide) 347 (by decide) (by decide) (law_c9 C hst n hn _ hin σx σm hR hnext) (fun n9 => ?_)
      refine u_tin C dL_32 10 402 (by decide) 370 (by decide) (by decide) (law_c10 C hst n hn _ hin σx σm hR hnext) (fun n10 => ?_)
      refine u_tin C dL_32 11 445 (by decide) 413 (by decide) (by decide) (law_c11 C hst n hn _ hin σx σm hR hnext) (fun n11 => ?_)
      refine u_tin C dL_32 12 488 (by decide) 456 (by decide) (by decide) (law_c12 C hst n hn _ hin σx σm hR hnext) (fun n12 => ?_)
      refine u_tin C dL_32 13 531 (by decide) 499 (by decide) (by decide) (law_c13 C hst n hn _ hin σx σm hR hnext) (fun n13 => ?_)
      refine u_tin C dL_32 14 574 (by decide) 542 (by decide) (by decide) (law_c14 C hst n hn _ hin σx σm hR hnext) (fun n14 => ?_)
      refine u_tin C dL_32 15 597 (by decide) 565 (by decide) (by decide) (law_c15 C hst n hn _ hin σx σm hR hnext) (fun n15 => ?_)
      refine u_tin C dL_32 16 620 (by decide) 588 (by decide) (by decide) (law_c16 C hst n hn _ hin σx σm hR hnext) (fun n16 => ?_)
      refine u_tin C dL_32 17 653 (by decide) 621 (by decide) (by decide) (law_c17 C hst n hn _ hin σx σm hR hnext) (fun n17 => ?_)
      refine u_tin C dL_32 18 686 (by decide) 654 (by decide) (by decide) (law_c18 C hst n hn _ hin σx σm hR hnext) (fun n18 => ?_)
      refine u_tin C dL_32 19 719 (by decide) 687 (by decide) (by decide) (law_c19 C hst n hn _ hin σx σm hR hnext) (fun n19 => ?_)
      refine u_tin C dL_32 20 752 (by decide) 720 (by decide) (by decide) (law_c20 C hst n hn _ hin σx σm hR hnext) (fun n20 => ?_)
      refine u_tout C dL_32 775 (by have a0 := lv_neT (a := 0) n0 (by decide); have a1 := lv_neT (a := 1) n1 (by decide); have a2 := lv_neT (a := 2) n2 (by decide); have a3 := lv_neT (a := 3) n3 (by decide); have a4 := lv_neT (a := 4) n4 (by decide); have a5 := lv_neT (a := 5) n5 (by decide); have a6 := lv_neT (a := 6) n6 (by decide); have a7 := lv_neT (a := 7) n7 (by decide); have a8 := lv_neT (a := 8) n8 (by decide); have a9 := lv_neT (a := 9) n9 (by decide); have a10 := lv_neT (a := 10) n10 (by decide); have a11 := lv_neT (a := 11) n11 (by decide); have a12 := lv_neT (a := 12) n12 (by decide); have a13 := lv_neT (a := 13) n13 (by decide); have a14 := lv_neT (a := 14) n14 (by decide); have a15 := lv_neT (a := 15) n15 (by decide); have a16 := lv_neT (a := 16) n16 (by decide); have a17 := lv_neT (a := 17) n17 (by decide); have a18 := lv_neT (a := 18) n18 (by decide); have a19 := lv_neT (a := 19) n19 (by decide); have a20 := lv_neT (a := 20) n20 (by decide); omega) (by decide) ?_
      exact hnext σx σm (hst.1 n σx σm hR)
